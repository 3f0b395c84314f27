section
/-! THE ABSTRACT MACHINE: places instead of addresses, blocks of resolved instructions; what it answers is shown (part sound) to be what the machine does. Own work. -/
/-- heap: how many cells, how many slots, the cells by place (array: number of its type, length, contents; object: number of its class, fields) -/
abbrev AH : Type := Nat × Nat × (Nat → va_E)
abbrev Res : Type := Option Value × AH
/-- an operand: a constant, two numbers, a table, places of words -/
abbrev Opd : Type := Value × Nat × Nat × List (Nat × Nat × Nat) × List Nat
abbrev Ins : Type := Nat × Nat × Instr × Opd
/-- a local that holds nothing -/
abbrev Jk : Value := .float 0
def hcell (h : AH) (p : Nat) : Option va_E := if p < h.1 then some (h.2.2 p) else none
def hset (h : AH) (p : Nat) (c : va_E) : AH := (h.1, h.2.1, va_up h.2.2 p c)
def hpush (h : AH) (c : va_E) (n : Nat) : AH := (h.1 + 1, h.2.1 + n, va_up h.2.2 h.1 c)
def gI (h : AH) (p ci k : Nat) : Option Int32 := match hcell h p with
  | some (.inr (c, fs)) => if c = ci then (match fs[k]? with | some (.int x) => some x | _ => none) else none
  | _ => none
def gR (h : AH) (p ci k : Nat) : Option Nat := match hcell h p with
  | some (.inr (c, fs)) => if c = ci then (match fs[k]? with | some (.ref x) => some x | _ => none) else none
  | _ => none
def pV (h : AH) (p ci k : Nat) (v : Value) : Option AH := match hcell h p with
  | some (.inr (c, fs)) => if c = ci ∧ k < fs.length then some (hset h p (.inr (c, fs.set k v))) else none
  | _ => none
def aI (h : AH) (p : Nat) (i : Int32) : Option Int32 := match hcell h p with
  | some (.inl (t, n, .inl f)) => if t = 0 then (if i < 0 ∨ n ≤ i.toNatClampNeg then none else some (f i.toNatClampNeg)) else none
  | _ => none
def sI (h : AH) (p : Nat) (i x : Int32) : Option AH := match hcell h p with
  | some (.inl (t, n, .inl f)) => if t = 0 then (if i < 0 ∨ n ≤ i.toNatClampNeg then none else some (hset h p (.inl (t, n, .inl (upd f i.toNatClampNeg x))))) else none
  | _ => none
def aR (h : AH) (p t : Nat) (i : Int32) : Option Nat := match hcell h p with
  | some (.inl (t', n, .inr (.inr (.inr (.inr f))))) => if t' = t then (if i < 0 ∨ n ≤ i.toNatClampNeg then none else f i.toNatClampNeg) else none
  | _ => none
def sR (h : AH) (p : Nat) (i : Int32) (q : Nat) : Option AH := match hcell h p with
  | some (.inl (t, n, .inr (.inr (.inr (.inr f))))) => if i < 0 ∨ n ≤ i.toNatClampNeg then none else some (hset h p (.inl (t, n, .inr (.inr (.inr (.inr (va_up f i.toNatClampNeg (some q)))))))) 
  | _ => none
/-- System.arraycopy of ints -/
def cpA (h : AH) (s : Nat) (sp : Int32) (d : Nat) (dp n : Int32) : Option AH := match hcell h s with
  | some (.inl (t0, n0, .inl f)) => (match hcell h d with
    | some (.inl (t1, n1, .inl g)) => if t0 = 0 ∧ t1 = 0 ∧ ¬ sp < 0 ∧ ¬ dp < 0 ∧ ¬ n < 0 ∧ sp.toNatClampNeg + n.toNatClampNeg ≤ n0 ∧ dp.toNatClampNeg + n.toNatClampNeg ≤ n1 then some (hset h d (.inl (t1, n1, .inl (va_cpy f g sp.toNatClampNeg dp.toNatClampNeg n.toNatClampNeg)))) else none
    | _ => none)
  | _ => none
/-- the number of an object's class -/
def clsOf (h : AH) (p : Nat) : Option Nat := match hcell h p with
  | some (.inr (c, _)) => some c
  | _ => none
def dfl (L : List (Nat × Nat × Nat)) : List Value := L.map fun q => if q.1 = 0 then .int 0 else .null
def newO (h : AH) (ci : Nat) (L : List (Nat × Nat × Nat)) : AH := hpush h (.inr (ci, dfl L)) L.length
def newI (h : AH) (n : Nat) : AH := hpush h (.inl (0, n, .inl (fun _ => 0))) n
def newR (h : AH) (t n : Nat) : AH := hpush h (.inl (t, n, .inr (.inr (.inr (.inr (fun _ => none)))))) n
def newM (h : AH) (n k : Nat) : AH := (h.1 + 1 + n, h.2.1 + (n + n * k), fun j => if j = h.1 then .inl (3, n, .inr (.inr (.inr (.inr (fun i => if i < n then some (h.1 + 1 + i) else none))))) else if h.1 < j ∧ j ≤ h.1 + n then .inl (0, k, .inl (fun _ => 0)) else h.2.2 j)
-- locals
def mskN : Nat → List Value → List Value
  | _, [] => []
  | m, v :: r => (if m % 2 = 1 then v else Jk) :: mskN (m / 2) r
def killL (i : Nat) (ls : List Value) : List Value := match i with
  | 0 => ls
  | j + 1 => match ls[j]? with
    | some (.long _) => ls.set j Jk
    | some (.double _) => ls.set j Jk
    | _ => ls
def st1 (i : Nat) (v : Value) (ls : List Value) : Option (List Value) := if i < ls.length then some ((killL i ls).set i v) else none
def st2 (i : Nat) (v : Value) (ls : List Value) : Option (List Value) := if i + 1 < ls.length then some (((killL i ls).set i v).set (i + 1) Jk) else none
def layL : List Value → List Value
  | [] => []
  | .long x :: r => .long x :: Jk :: layL r
  | .double x :: r => .double x :: Jk :: layL r
  | v :: r => v :: layL r
def entL (n : Nat) (as : List Value) : List Value := layL as ++ List.replicate (n - (layL as).length) Jk
def popN : Nat → List Value → List Value → Option (List Value × List Value)
  | 0, acc, st => some (acc, st)
  | n + 1, acc, v :: st => popN n (v :: acc) st
  | _ + 1, _, [] => none
def catS (l : List Value) : Nat := (l.map fun v => v.category).sum
-- what comes behind a call
def cV (o : Option Res) (F : AH → Option Res) : Option Res := match o with
  | some (none, h) => F h
  | _ => none
def cI (o : Option Res) (F : Int32 → AH → Option Res) : Option Res := match o with
  | some (some (.int x), h) => F x h
  | _ => none
def cL (o : Option Res) (F : Int64 → AH → Option Res) : Option Res := match o with
  | some (some (.long x), h) => F x h
  | _ => none
def cR (o : Option Res) (F : Nat → AH → Option Res) : Option Res := match o with
  | some (some (.ref x), h) => F x h
  | _ => none
def retK (k : Nat) (o : Option Res) (r : List Value) (F : List Value → AH → Option Res) : Option Res := match k with
  | 0 => cV o (fun h => F r h)
  | 1 => cI o (fun x h => F (.int x :: r) h)
  | 2 => cL o (fun x h => F (.long x :: r) h)
  | _ => cR o (fun x h => F (.ref x :: r) h)
/-- instructions that touch locals and stack alone -/
def pst (i : Instr) (o : Opd) (ls st : List Value) : Option (List Value × List Value) := match i with
  | .iconst _ | .bipush _ | .sipush _ | .ldc _ | .ldc_w _ | .lconst _ | .ldc2_w _ => some (ls, o.1 :: st)
  | .iload_n _ | .iload _ => (match ls[o.2.1]? with | some (.int x) => some (ls, .int x :: st) | _ => none)
  | .lload_n _ | .lload _ => (match ls[o.2.1]? with | some (.long x) => some (ls, .long x :: st) | _ => none)
  | .aload_n _ | .aload _ => (match ls[o.2.1]? with | some (.ref x) => some (ls, .ref x :: st) | some (.retAddr x) => some (ls, .retAddr x :: st) | _ => none)
  | .istore_n _ | .istore _ => (match st with | .int x :: r => (match st1 o.2.1 (.int x) ls with | some l => some (l, r) | none => none) | _ => none)
  | .astore_n _ | .astore _ => (match st with | .ref x :: r => (match st1 o.2.1 (.ref x) ls with | some l => some (l, r) | none => none) | _ => none)
  | .lstore_n _ | .lstore _ => (match st with | .long x :: r => (match st2 o.2.1 (.long x) ls with | some l => some (l, r) | none => none) | _ => none)
  | .iinc _ _ => (match ls[o.2.1]? with | some (.int x) => (match o.1 with | .int y => (match st1 o.2.1 (.int (x + y)) ls with | some l => some (l, st) | none => none) | _ => none) | _ => none)
  | .iadd => (match st with | .int y :: .int x :: r => some (ls, .int (x + y) :: r) | _ => none)
  | .isub => (match st with | .int y :: .int x :: r => some (ls, .int (x - y) :: r) | _ => none)
  | .imul => (match st with | .int y :: .int x :: r => some (ls, .int (x * y) :: r) | _ => none)
  | .iand => (match st with | .int y :: .int x :: r => some (ls, .int (x &&& y) :: r) | _ => none)
  | .ior => (match st with | .int y :: .int x :: r => some (ls, .int (x ||| y) :: r) | _ => none)
  | .ixor => (match st with | .int y :: .int x :: r => some (ls, .int (x ^^^ y) :: r) | _ => none)
  | .ineg => (match st with | .int x :: r => some (ls, .int (-x) :: r) | _ => none)
  | .ishl => (match st with | .int y :: .int x :: r => some (ls, .int (x <<< (y &&& 31)) :: r) | _ => none)
  | .ishr => (match st with | .int y :: .int x :: r => some (ls, .int (x >>> (y &&& 31)) :: r) | _ => none)
  | .iushr => (match st with | .int y :: .int x :: r => some (ls, .int (x.toUInt32 >>> (y.toUInt32 &&& Int32.toUInt32 31)).toInt32 :: r) | _ => none)
  | .i2l => (match st with | .int x :: r => some (ls, .long x.toInt64 :: r) | _ => none)
  | .l2i => (match st with | .long x :: r => some (ls, .int x.toInt32 :: r) | _ => none)
  | .i2b => (match st with | .int x :: r => some (ls, .int x.toInt8.toInt32 :: r) | _ => none)
  | .i2s => (match st with | .int x :: r => some (ls, .int x.toInt16.toInt32 :: r) | _ => none)
  | .ladd => (match st with | .long y :: .long x :: r => some (ls, .long (x + y) :: r) | _ => none)
  | .lmul => (match st with | .long y :: .long x :: r => some (ls, .long (x * y) :: r) | _ => none)
  | .lcmp => (match st with | .long y :: .long x :: r => some (ls, .int (lg_cmp x y) :: r) | _ => none)
  | .dup => (match st with | v :: r => if v.category = 1 then some (ls, v :: v :: r) else none | _ => none)
  | .dup2 => (match st with | v :: w :: r => if v.category = 1 ∧ w.category = 1 then some (ls, v :: w :: v :: w :: r) else none | _ => none)
  | _ => none
/-- which way a branch goes -/
def icc (c : Jvm.ClassFile.Cond) (x y : Int32) (A B : Option Res) : Option Res := match c with
  | .eq => if x = y then A else B
  | .ne => if x = y then B else A
  | .lt => if x < y then A else B
  | .ge => if y ≤ x then A else B
  | .gt => if y < x then A else B
  | .le => if x ≤ y then A else B
def swk (x : Int) (L : List (Nat × Nat × Nat)) (K : Nat → Nat → Option Res) (dB dM : Nat) : Option Res := match L with
  | [] => K dB dM
  | (k, b, m) :: r => if x = (k : Int) then K b m else swk x r K dB dM
/-- what comes behind a value that there may be -/
def oB {α : Type} (o : Option α) (F : α → Option Res) : Option Res := match o with
  | some x => F x
  | none => none
/-- the static methods of the JDK that are taken as told: min, max, max of longs, arraycopy -/
def intr (o : Nat) (st : List Value) (h : AH) (F : List Value → AH → Option Res) : Option Res := match o with
  | 1 => (match st with | .int y :: .int x :: r => if catS r ≤ 8 then F (.int (if y < x then y else x) :: r) h else none | _ => none)
  | 2 => (match st with | .int y :: .int x :: r => if catS r ≤ 8 then F (.int (if x < y then y else x) :: r) h else none | _ => none)
  | 3 => (match st with | .long y :: .long x :: r => if catS r ≤ 8 then F (.long (if y < x then x else y) :: r) h else none | _ => none)
  | 4 => (match st with | .int n :: .int dp :: .ref d :: .int sp :: .ref s :: r => if catS r ≤ 8 then oB (cpA h s sp d dp n) (fun h' => F r h') else none | _ => none)
  | _ => none
def look (L : List (Nat × Nat × Nat)) (c : Nat) : Option (Nat × Nat) := match L with
  | [] => none
  | q :: r => if q.1 = c then some q.2 else look r c
/-- which method a receiver's class selects -/
def vdis (L : List (Nat × Nat × Nat)) (c : Option Nat) (F : Nat → Nat → Option Res) : Option Res := match L with
  | [] => none
  | q :: r => if c = some q.1 then F q.2.1 q.2.2 else vdis r c F
/-- heap instructions (and divisions) that neither call nor jump -/
def hst (sc : Nat × (Nat → Int32)) (z : Bool) (i : Instr) (o : Opd) (st : List Value) (h : AH) (F : List Value → AH → Option Res) : Option Res := match i with
  | .idiv => (match st with | .int y :: .int x :: r => if y = 0 then none else F (.int (x / y) :: r) h | _ => none)
  | .irem => (match st with | .int y :: .int x :: r => if y = 0 then none else F (.int (x - x / y * y) :: r) h | _ => none)
  | .ldiv => (match st with | .long y :: .long x :: r => if y = 0 then none else F (.long (x / y) :: r) h | _ => none)
  | .lrem => (match st with | .long y :: .long x :: r => if y = 0 then none else F (.long (x - x / y * y) :: r) h | _ => none)
  | .getfield _ => (match st with
    | .ref p :: r => (match o.1 with
      | .int _ => oB (gI h p o.2.1 o.2.2.1) (fun x => F (.int x :: r) h)
      | _ => oB (gR h p o.2.1 o.2.2.1) (fun x => F (.ref x :: r) h))
    | _ => none)
  | .putfield _ => (match st with
    | .int x :: .ref p :: r => (match o.1 with
      | .int y => if y = 1 then (if x = 0 ∨ x = 1 then oB (pV h p o.2.1 o.2.2.1 (.int x)) (fun h' => F r h') else none) else oB (pV h p o.2.1 o.2.2.1 (.int x)) (fun h' => F r h')
      | _ => none)
    | .ref x :: .ref p :: r => (match o.1 with
      | .null => oB (pV h p o.2.1 o.2.2.1 (.ref x)) (fun h' => F r h')
      | _ => none)
    | _ => none)
  | .iaload => (match st with
    | .int i :: .ref p :: r => oB (aI h p i) (fun x => F (.int x :: r) h)
    | .int i :: .retAddr _ :: r => if i < 0 ∨ sc.1 ≤ i.toNatClampNeg then none else F (.int (sc.2 i.toNatClampNeg) :: r) h
    | _ => none)
  | .iastore => (match st with
    | .int x :: .int i :: .ref p :: r => oB (sI h p i x) (fun h' => F r h')
    | _ => none)
  | .aaload => (match st with
    | .int i :: .ref p :: r => oB (aR h p o.2.1 i) (fun x => F (.ref x :: r) h)
    | _ => none)
  | .aastore => (match st with
    | .ref x :: .int i :: .ref p :: r => (match hcell h p with
      | some (.inl (t, _)) => if t = o.2.1 then oB (clsOf h x) (fun c => oB (look o.2.2.2.1 c) (fun _ => oB (sR h p i x) (fun h' => F r h'))) else none
      | _ => none)
    | _ => none)
  | .arraylength => (match st with
    | .retAddr _ :: r => F (.int (Int32.ofNat sc.1) :: r) h
    | _ => none)
  | .instanceof _ => (match st with
    | .ref p :: r => vdis o.2.2.2.1 (clsOf h p) (fun q _ => F (.int (Int32.ofNat q) :: r) h)
    | _ => none)
  | .new _ => F (.ref h.1 :: st) (newO h o.2.1 o.2.2.2.1)
  | .newarray .int => (match st with
    | .int n :: r => if n < 0 ∨ ¬ n.toNatClampNeg ≤ 100000 then none else F (.ref h.1 :: r) (newI h n.toNatClampNeg)
    | _ => none)
  | .anewarray _ => (match st with
    | .int n :: r => if n < 0 ∨ ¬ n.toNatClampNeg ≤ 100000 then none else F (.ref h.1 :: r) (newR h o.2.1 n.toNatClampNeg)
    | _ => none)
  | .multianewarray _ _ => (match st with
    | .int k :: .int n :: r => if n < 0 ∨ k < 0 ∨ ¬ n.toNatClampNeg ≤ 1000 ∨ ¬ k.toNatClampNeg ≤ 1000 then none else F (.ref h.1 :: r) (newM h n.toNatClampNeg k.toNatClampNeg)
    | _ => none)
  | _ => none
/-- a call: its arguments laid out as locals -/
def callE (C : Nat → List Value → AH → Option Res) (c mL : Nat) (as : List Value) (h : AH) : Option Res := if (layL as).length ≤ mL then C c (entL mL as) h else none
def runL (sc : Nat × (Nat → Int32)) (z : Bool) (C : Nat → List Value → AH → Option Res) (K : Nat → List Value → List Value → AH → Option Res) : List Ins → List Value → List Value → AH → Option Res
  | [], _, _, _ => none
  | (_, _, i, o) :: is, ls, st, h => match i with
    | .nop => K o.2.1 (mskN o.2.2.1 ls) st h
    | .goto _ => (match o.1 with | .null => runL sc z C K is ls st h | _ => K o.2.1 (mskN o.2.2.1 ls) st h)
    | .ifCond c _ => (match st with | .int x :: r => icc c x 0 (K o.2.1 (mskN o.2.2.1 ls) r h) (runL sc z C K is ls r h) | _ => none)
    | .if_icmp c _ => (match st with | .int y :: .int x :: r => icc c x y (K o.2.1 (mskN o.2.2.1 ls) r h) (runL sc z C K is ls r h) | _ => none)
    | .tableswitch _ _ _ _ => (match st with | .int x :: r => swk x.toInt o.2.2.2.1 (fun b m => K b (mskN m ls) r h) o.2.1 o.2.2.1 | _ => none)
    | .lookupswitch _ _ => (match st with | .int x :: r => swk x.toInt o.2.2.2.1 (fun b m => K b (mskN m ls) r h) o.2.1 o.2.2.1 | _ => none)
    | .invokestatic _ => (match o.2.2.2.1 with
      | [(_, c, mL)] => (match popN o.2.1 [] st with
        | some (as, r) => if catS r ≤ 8 then retK o.2.2.1 (callE C c mL as h) r (fun st' h' => runL sc z C K is ls st' h') else none
        | none => none)
      | _ => if z = true then intr o.2.1 st h (fun st' h' => runL sc z C K is ls st' h') else none)
    | .invokevirtual _ => (match popN o.2.1 [] st with
      | some (as, .ref p :: r) => if catS r ≤ 8 then vdis o.2.2.2.1 (clsOf h p) (fun c mL => retK o.2.2.1 (callE C c mL (.ref p :: as) h) r (fun st' h' => runL sc z C K is ls st' h')) else none
      | _ => none)
    | .invokespecial _ => (match popN o.2.1 [] st with
      | some (as, .ref p :: r) => if catS r ≤ 8 then (match o.2.2.2.1 with
        | [(_, c, mL)] => oB (clsOf h p) (fun _ => retK o.2.2.1 (callE C c mL (.ref p :: as) h) r (fun st' h' => runL sc z C K is ls st' h'))
        | _ => if z = true then runL sc z C K is ls r h else none) else none
      | _ => none)
    | .ireturn => (match st with | [.int v] => if o.2.1 = 1 then (if v = 0 ∨ v = 1 then some (some (.int v), h) else none) else some (some (.int v), h) | _ => none)
    | .lreturn => (match st with | [.long v] => some (some (.long v), h) | _ => none)
    | .areturn => (match st with | [.ref v] => some (some (.ref v), h) | _ => none)
    | .return_ => (match st with | [] => some (none, h) | _ => none)
    | .idiv | .irem | .ldiv | .lrem | .getfield _ | .putfield _ | .iaload | .iastore | .aaload | .aastore | .arraylength | .instanceof _ | .new _ | .newarray _ | .anewarray _ | .multianewarray _ _ =>
      hst sc z i o st h (fun st' h' => runL sc z C K is ls st' h')
    | _ => (match pst i o ls st with | some (ls', st') => runL sc z C K is ls' st' h | none => none)
/-- fuel, depth (how many calls may stand open), method, block -/
def exec (P : Nat → Nat → List Ins) (sc : Nat × (Nat → Int32)) : Nat → Nat → Nat → Nat → List Value → List Value → AH → Option Res
  | 0, _, _, _, _, _, _ => none
  | n + 1, d, m, b, ls, st, h => runL sc (decide (d ≠ 0)) (fun c as h' => match d with | 0 => none | d' + 1 => exec P sc n d' c 0 as [] h') (fun b' ls' st' h' => exec P sc n d m b' ls' st' h') (P m b) ls st h
end
section
/-! the abstract machine without fuel -/
theorem retK_mono {k : Nat} {o o' : Option Res} {r : List Value} {F F' : List Value → AH → Option Res} {x : Res} (ho : ∀ y, o = some y → o' = some y) (hF : ∀ st h y, F st h = some y → F' st h = some y) (hx : retK k o r F = some x) : retK k o' r F' = some x := by
  unfold retK at hx ⊢
  split at hx
  · unfold cV at hx ⊢
    split at hx
    · rw [ho _ rfl]; exact hF _ _ _ hx
    · cases hx
  · unfold cI at hx ⊢
    split at hx
    · rw [ho _ rfl]; exact hF _ _ _ hx
    · cases hx
  · unfold cL at hx ⊢
    split at hx
    · rw [ho _ rfl]; exact hF _ _ _ hx
    · cases hx
  · next h0 h1 h2 =>
    unfold cR at hx
    split at hx
    · unfold cR
      rw [ho _ rfl]; exact hF _ _ _ hx
    · cases hx
theorem icc_mono {c : Jvm.ClassFile.Cond} {x y : Int32} {A B A' B' : Option Res} {z : Res} (hA : A = some z → A' = some z) (hB : B = some z → B' = some z) (h : icc c x y A B = some z) : icc c x y A' B' = some z := by
  revert h
  unfold icc
  cases c <;> dsimp only <;> split <;> (first | exact hA | exact hB)
theorem swk_mono {x : Int} {L : List (Nat × Nat × Nat)} {K K' : Nat → Nat → Option Res} {a b : Nat} {z : Res} (hK : ∀ p q, K p q = some z → K' p q = some z) (h : swk x L K a b = some z) : swk x L K' a b = some z := by
  induction L with
  | nil => exact hK _ _ h
  | cons q r ih =>
    obtain ⟨k, b1, m⟩ := q
    revert h
    unfold swk
    split
    · exact hK _ _
    · exact ih
theorem oB_mono {α : Type} {o : Option α} {F F' : α → Option Res} {x : Res} (hF : ∀ a, F a = some x → F' a = some x) (hx : oB o F = some x) : oB o F' = some x := by
  cases o with
  | none => cases hx
  | some a => exact hF a hx
theorem vdis_mono {L : List (Nat × Nat × Nat)} {c : Option Nat} {F F' : Nat → Nat → Option Res} {x : Res} (hF : ∀ a b, F a b = some x → F' a b = some x) (hx : vdis L c F = some x) : vdis L c F' = some x := by
  induction L with
  | nil => cases hx
  | cons q r ih =>
    revert hx
    unfold vdis
    split
    · exact hF _ _
    · exact ih
theorem intr_mono {o : Nat} {st : List Value} {h : AH} {F F' : List Value → AH → Option Res} {x : Res} (hF : ∀ st h, F st h = some x → F' st h = some x) (hx : intr o st h F = some x) : intr o st h F' = some x := by
  revert hx
  unfold intr
  split
  all_goals (repeat' split)
  all_goals (first | exact hF _ _ | exact oB_mono (fun _ => hF _ _) | exact fun hx => hx)
theorem hst_mono {sc : Nat × (Nat → Int32)} {z : Bool} {i : Instr} {o : Opd} {st : List Value} {h : AH} {F F' : List Value → AH → Option Res} {x : Res} (hF : ∀ st h, F st h = some x → F' st h = some x) (hx : hst sc z i o st h F = some x) : hst sc z i o st h F' = some x := by
  revert hx
  unfold hst
  split
  all_goals (repeat' split)
  all_goals (first | exact hF _ _ | exact oB_mono (fun _ => hF _ _) | exact vdis_mono (fun _ _ => hF _ _) | exact oB_mono (fun _ => oB_mono (fun _ => oB_mono (fun _ => hF _ _))) | exact fun hx => hx)
theorem callE_mono {C C' : Nat → List Value → AH → Option Res} (hC : ∀ c as h x, C c as h = some x → C' c as h = some x) {c mL : Nat} {as : List Value} {h : AH} (x : Res) (hx : callE C c mL as h = some x) : callE C' c mL as h = some x := by
  revert hx
  unfold callE
  split
  · exact hC _ _ _ _
  · exact fun hx => hx
theorem runL_mono {sc : Nat × (Nat → Int32)} {z : Bool} {C C' : Nat → List Value → AH → Option Res} {K K' : Nat → List Value → List Value → AH → Option Res} (hC : ∀ c as h x, C c as h = some x → C' c as h = some x) (hK : ∀ b ls st h x, K b ls st h = some x → K' b ls st h = some x) :
    ∀ (is : List Ins) (ls st : List Value) (h : AH) (x : Res), runL sc z C K is ls st h = some x → runL sc z C' K' is ls st h = some x := by
  intro is
  induction is with
  | nil => intro ls st h x hx; cases hx
  | cons a is ih =>
    obtain ⟨pc, len, i, o⟩ := a
    intro ls st h x
    unfold runL
    split
    all_goals (repeat' split)
    all_goals first
      | exact hK _ _ _ _ _
      | exact ih _ _ _ _
      | exact icc_mono (hK _ _ _ _ _) (ih _ _ _ _)
      | exact swk_mono (fun _ _ => hK _ _ _ _ _)
      | exact hst_mono (fun _ _ => ih _ _ _ _)
      | exact retK_mono (callE_mono hC) (fun _ _ _ => ih _ _ _ _)
      | exact intr_mono (fun _ _ => ih _ _ _ _)
      | exact vdis_mono (fun _ _ => retK_mono (callE_mono hC) (fun _ _ _ => ih _ _ _ _))
      | exact oB_mono (fun _ => retK_mono (callE_mono hC) (fun _ _ _ => ih _ _ _ _))
      | exact fun hx => hx
/-- from some fuel on -/
def Evt (P : Nat → Prop) : Prop := ∃ n, ∀ m, n ≤ m → P m
theorem Evt.const {P : Prop} (h : P) : Evt (fun _ => P) := ⟨0, fun _ _ => h⟩
theorem retK_cont {k : Nat} {o : Option Res} {on : Nat → Option Res} {r : List Value} {F : List Value → AH → Option Res} {Fn : Nat → List Value → AH → Option Res} {x : Res} (ho : ∀ y, o = some y → Evt fun m => on m = some y) (hF : ∀ st h y, F st h = some y → Evt fun m => Fn m st h = some y) (hx : retK k o r F = some x) : Evt fun m => retK k (on m) r (Fn m) = some x := by
  unfold retK at hx
  split at hx
  · unfold cV at hx
    split at hx
    · obtain ⟨a, ha⟩ := ho _ rfl
      obtain ⟨b, hb⟩ := hF _ _ _ hx
      exact ⟨a + b, fun m hm => by unfold retK cV; simp only; rw [ha m (by omega)]; exact hb m (by omega)⟩
    · cases hx
  · unfold cI at hx
    split at hx
    · obtain ⟨a, ha⟩ := ho _ rfl
      obtain ⟨b, hb⟩ := hF _ _ _ hx
      exact ⟨a + b, fun m hm => by unfold retK cI; simp only; rw [ha m (by omega)]; exact hb m (by omega)⟩
    · cases hx
  · unfold cL at hx
    split at hx
    · obtain ⟨a, ha⟩ := ho _ rfl
      obtain ⟨b, hb⟩ := hF _ _ _ hx
      exact ⟨a + b, fun m hm => by unfold retK cL; simp only; rw [ha m (by omega)]; exact hb m (by omega)⟩
    · cases hx
  · next h0 h1 h2 =>
    unfold cR at hx
    split at hx
    · obtain ⟨a, ha⟩ := ho _ rfl
      obtain ⟨b, hb⟩ := hF _ _ _ hx
      refine ⟨a + b, fun m hm => ?_⟩
      have e : retK k (on m) r (Fn m) = cR (on m) (fun x h => Fn m (.ref x :: r) h) := by
        unfold retK
        split
        · exact absurd rfl h0
        · exact absurd rfl h1
        · exact absurd rfl h2
        · rfl
      show retK k (on m) r (Fn m) = some x
      rw [e]
      unfold cR
      rw [ha m (by omega)]
      exact hb m (by omega)
    · cases hx
theorem icc_cont {c : Jvm.ClassFile.Cond} {x y : Int32} {A B : Option Res} {An Bn : Nat → Option Res} {z : Res} (hA : A = some z → Evt fun m => An m = some z) (hB : B = some z → Evt fun m => Bn m = some z) (h : icc c x y A B = some z) : Evt fun m => icc c x y (An m) (Bn m) = some z := by
  revert h
  unfold icc
  cases c <;> dsimp only <;> split <;> (first | exact hA | exact hB)
theorem swk_cont {x : Int} {L : List (Nat × Nat × Nat)} {K : Nat → Nat → Option Res} {Kn : Nat → Nat → Nat → Option Res} {a b : Nat} {z : Res} (hK : ∀ p q, K p q = some z → Evt fun m => Kn m p q = some z) (h : swk x L K a b = some z) : Evt fun m => swk x L (Kn m) a b = some z := by
  induction L with
  | nil => exact hK _ _ h
  | cons q r ih =>
    obtain ⟨k, b1, m⟩ := q
    revert h
    unfold swk
    split
    · exact hK _ _
    · exact ih
theorem oB_cont {α : Type} {o : Option α} {F : α → Option Res} {Fn : Nat → α → Option Res} {x : Res} (hF : ∀ a, F a = some x → Evt fun m => Fn m a = some x) (hx : oB o F = some x) : Evt fun m => oB o (Fn m) = some x := by
  cases o with
  | none => cases hx
  | some a => exact hF a hx
theorem vdis_cont {L : List (Nat × Nat × Nat)} {c : Option Nat} {F : Nat → Nat → Option Res} {Fn : Nat → Nat → Nat → Option Res} {x : Res} (hF : ∀ a b, F a b = some x → Evt fun m => Fn m a b = some x) (hx : vdis L c F = some x) : Evt fun m => vdis L c (Fn m) = some x := by
  induction L with
  | nil => cases hx
  | cons q r ih =>
    revert hx
    unfold vdis
    split
    · exact hF _ _
    · exact ih
theorem intr_cont {o : Nat} {st : List Value} {h : AH} {F : List Value → AH → Option Res} {Fn : Nat → List Value → AH → Option Res} {x : Res} (hF : ∀ st h, F st h = some x → Evt fun m => Fn m st h = some x) (hx : intr o st h F = some x) : Evt fun m => intr o st h (Fn m) = some x := by
  revert hx
  unfold intr
  split
  all_goals (repeat' split)
  all_goals (first | exact hF _ _ | exact oB_cont (fun _ => hF _ _) | exact fun hx => Evt.const hx)
theorem hst_cont {sc : Nat × (Nat → Int32)} {z : Bool} {i : Instr} {o : Opd} {st : List Value} {h : AH} {F : List Value → AH → Option Res} {Fn : Nat → List Value → AH → Option Res} {x : Res} (hF : ∀ st h, F st h = some x → Evt fun m => Fn m st h = some x) (hx : hst sc z i o st h F = some x) : Evt fun m => hst sc z i o st h (Fn m) = some x := by
  revert hx
  unfold hst
  split
  all_goals (repeat' split)
  all_goals (first | exact hF _ _ | exact oB_cont (fun _ => hF _ _) | exact vdis_cont (fun _ _ => hF _ _) | exact oB_cont (fun _ => oB_cont (fun _ => oB_cont (fun _ => hF _ _))) | exact fun hx => Evt.const hx)
theorem callE_cont {C : Nat → List Value → AH → Option Res} {Cn : Nat → Nat → List Value → AH → Option Res} (hC : ∀ c as h x, C c as h = some x → Evt fun m => Cn m c as h = some x) {c mL : Nat} {as : List Value} {h : AH} (x : Res) (hx : callE C c mL as h = some x) : Evt fun m => callE (Cn m) c mL as h = some x := by
  revert hx
  unfold callE
  split
  · exact hC _ _ _ _
  · exact fun hx => Evt.const hx
theorem runL_cont {sc : Nat × (Nat → Int32)} {z : Bool} {C : Nat → List Value → AH → Option Res} {K : Nat → List Value → List Value → AH → Option Res} {Cn : Nat → Nat → List Value → AH → Option Res} {Kn : Nat → Nat → List Value → List Value → AH → Option Res} (hC : ∀ c as h x, C c as h = some x → Evt fun m => Cn m c as h = some x) (hK : ∀ b ls st h x, K b ls st h = some x → Evt fun m => Kn m b ls st h = some x) :
    ∀ (is : List Ins) (ls st : List Value) (h : AH) (x : Res), runL sc z C K is ls st h = some x → Evt fun m => runL sc z (Cn m) (Kn m) is ls st h = some x := by
  intro is
  induction is with
  | nil => intro ls st h x hx; cases hx
  | cons a is ih =>
    obtain ⟨pc, len, i, o⟩ := a
    intro ls st h x
    unfold runL
    split
    all_goals (repeat' split)
    all_goals first
      | exact hK _ _ _ _ _
      | exact ih _ _ _ _
      | exact icc_cont (hK _ _ _ _ _) (ih _ _ _ _)
      | exact swk_cont (fun _ _ => hK _ _ _ _ _)
      | exact hst_cont (fun _ _ => ih _ _ _ _)
      | exact retK_cont (callE_cont hC) (fun _ _ _ => ih _ _ _ _)
      | exact intr_cont (fun _ _ => ih _ _ _ _)
      | exact vdis_cont (fun _ _ => retK_cont (callE_cont hC) (fun _ _ _ => ih _ _ _ _))
      | exact oB_cont (fun _ => retK_cont (callE_cont hC) (fun _ _ _ => ih _ _ _ _))
      | exact fun hx => Evt.const hx
theorem exec_mono1 (P : Nat → Nat → List Ins) (sc : Nat × (Nat → Int32)) : ∀ (n d m b : Nat) (ls st : List Value) (h : AH) (x : Res), exec P sc n d m b ls st h = some x → exec P sc (n + 1) d m b ls st h = some x := by
  intro n
  induction n with
  | zero => intro d m b ls st h x hx; cases hx
  | succ n ih =>
    intro d m b ls st h x hx
    refine runL_mono ?_ ?_ _ _ _ _ _ hx
    · intro c as h x hx
      cases d with
      | zero => cases hx
      | succ d => exact ih _ _ _ _ _ _ _ hx
    · intro b ls st h x hx
      exact ih _ _ _ _ _ _ _ hx
theorem exec_mono (P : Nat → Nat → List Ins) (sc : Nat × (Nat → Int32)) {n n' d m b : Nat} {ls st : List Value} {h : AH} {x : Res} (hn : n ≤ n') (hx : exec P sc n d m b ls st h = some x) : exec P sc n' d m b ls st h = some x := by
  induction hn with
  | refl => exact hx
  | step _ ih => exact exec_mono1 _ _ _ _ _ _ _ _ _ _ ih
/-- what the abstract machine answers, with fuel enough -/
noncomputable def Exec (P : Nat → Nat → List Ins) (sc : Nat × (Nat → Int32)) (d m b : Nat) (ls st : List Value) (h : AH) : Option Res :=
  @dite _ (∃ (x : Res) (n : Nat), exec P sc n d m b ls st h = some x) (Classical.propDecidable _) (fun e => some (Classical.choose e)) (fun _ => none)
theorem Exec_iff {P : Nat → Nat → List Ins} {sc : Nat × (Nat → Int32)} {d m b : Nat} {ls st : List Value} {h : AH} {x : Res} : Exec P sc d m b ls st h = some x ↔ ∃ n, exec P sc n d m b ls st h = some x := by
  unfold Exec
  constructor
  · intro hx
    split at hx
    · next e =>
      have := Classical.choose_spec e
      cases hx
      exact this
    · cases hx
  · rintro ⟨n, hn⟩
    have e : ∃ (x : Res) (n : Nat), exec P sc n d m b ls st h = some x := ⟨x, n, hn⟩
    rw [dif_pos e]
    obtain ⟨n', hn'⟩ := Classical.choose_spec e
    have h1 := exec_mono P sc (Nat.le_max_left n n') hn
    have h2 := exec_mono P sc (Nat.le_max_right n n') hn'
    exact h2.symm.trans h1
theorem Exec_eq (P : Nat → Nat → List Ins) (sc : Nat × (Nat → Int32)) (d m b : Nat) (ls st : List Value) (h : AH) :
    Exec P sc d m b ls st h = runL sc (decide (d ≠ 0)) (fun c as h' => match d with | 0 => none | d' + 1 => Exec P sc d' c 0 as [] h') (fun b' ls' st' h' => Exec P sc d m b' ls' st' h') (P m b) ls st h := by
  refine Option.ext fun x => ?_
  show _ = some x ↔ _ = some x
  constructor
  · intro hx
    obtain ⟨n, hn⟩ := Exec_iff.mp hx
    cases n with
    | zero => cases hn
    | succ n =>
      refine runL_mono ?_ ?_ _ _ _ _ _ hn
      · intro c as h x hx
        cases d with
        | zero => cases hx
        | succ d => exact Exec_iff.mpr ⟨n, hx⟩
      · intro b ls st h x hx
        exact Exec_iff.mpr ⟨n, hx⟩
  · intro hx
    obtain ⟨n, hn⟩ := runL_cont (Cn := fun n c as h' => match (generalizing := false) d with | 0 => none | d' + 1 => exec P sc n d' c 0 as [] h') (Kn := fun n b' ls' st' h' => exec P sc n d m b' ls' st' h') (fun c as h x hx => by
        cases d with
        | zero => cases hx
        | succ d =>
          obtain ⟨n, hn⟩ := Exec_iff.mp hx
          exact ⟨n, fun k hk => exec_mono P sc hk hn⟩) (fun b ls st h x hx => by
        obtain ⟨n, hn⟩ := Exec_iff.mp hx
        exact ⟨n, fun k hk => exec_mono P sc hk hn⟩) _ _ _ _ _ hx
    exact Exec_iff.mpr ⟨n + 1, hn n (Nat.le_refl n)⟩
/-- with a call to spare -/
theorem Exec_eqS (P : Nat → Nat → List Ins) (sc : Nat × (Nat → Int32)) (d m b : Nat) (ls st : List Value) (h : AH) :
    Exec P sc (d + 1) m b ls st h = runL sc true (fun c as h' => Exec P sc d c 0 as [] h') (fun b' ls' st' h' => Exec P sc (d + 1) m b' ls' st' h') (P m b) ls st h := Exec_eq P sc (d + 1) m b ls st h
end
section
/-! the abstract heap as a world of the kit: place k is the cell at address b + k; the script is the cell at bs -/
def vmv (b bs : Nat) : Value → Value
  | .ref k => .ref (b + k)
  | .retAddr _ => .ref bs
  | v => v
theorem vmv_cat (b bs : Nat) (v : Value) : (vmv b bs v).category = v.category := by cases v <;> rfl
def trX (b : Nat) (x : (Nat → Int32) ⊕ (Nat → Int64) ⊕ (Nat → UInt32) ⊕ (Nat → UInt64) ⊕ (Nat → Option Nat)) : (Nat → Int32) ⊕ (Nat → Int64) ⊕ (Nat → UInt32) ⊕ (Nat → UInt64) ⊕ (Nat → Option Nat) := match x with
  | .inl f => .inl f
  | .inr (.inl f) => .inr (.inl f)
  | .inr (.inr (.inl f)) => .inr (.inr (.inl f))
  | .inr (.inr (.inr (.inl f))) => .inr (.inr (.inr (.inl f)))
  | .inr (.inr (.inr (.inr f))) => .inr (.inr (.inr (.inr (fun i => (f i).map (b + ·)))))
def trE (b bs : Nat) (cA : Nat → ClassId) : va_E → va_E
  | .inr (ci, fs) => .inr (ci, fs.map (vmv b bs))
  | .inl (t, n, x) => .inl (cA t, n, trX b x)
def wld (b bs : Nat) (cA : Nat → ClassId) (h : AH) : va_W := (List.range h.1).map fun k => (b + k, trE b bs cA (h.2.2 k))
theorem wld_get {b bs : Nat} {cA : Nat → ClassId} {h : AH} {k : Nat} (hk : k < h.1) : (wld b bs cA h)[k]? = some (b + k, trE b bs cA (h.2.2 k)) := by
  unfold wld
  simp [hk]
theorem wld_set {b bs : Nat} {cA : Nat → ClassId} {h : AH} {k : Nat} {c : va_E} : (wld b bs cA h).set k (b + k, trE b bs cA c) = wld b bs cA (hset h k c) := by
  apply List.ext_getElem?
  intro i
  unfold wld hset
  simp only [List.getElem?_set, List.getElem?_map, List.length_map, List.length_range]
  by_cases hi : k = i
  · subst hi
    by_cases h1 : k < h.1
    · simp [h1, va_up]
    · simp [h1]
  · have hi' : ¬ i = k := fun q => hi q.symm
    by_cases h1 : i < h.1
    · simp [hi, h1, va_up, hi']
    · simp [hi, h1]
theorem wld_push {b bs : Nat} {cA : Nat → ClassId} {h : AH} {c : va_E} {n : Nat} : wld b bs cA (hpush h c n) = wld b bs cA h ++ [(b + h.1, trE b bs cA c)] := by
  unfold wld hpush
  dsimp only
  rw [List.range_succ, List.map_append]
  congr 1
  · apply List.map_congr_left
    intro k hk
    have : k < h.1 := List.mem_range.mp hk
    simp [va_up, show ¬ k = h.1 by omega]
  · simp [va_up]
theorem wld_D {b bs : Nat} {cA : Nat → ClassId} {h : AH} : va_D (fun q => b ≤ q) (wld b bs cA h) := by
  have key : ∀ (i : Nat) (q : Nat × va_E), (wld b bs cA h)[i]? = some q → q.1 = b + i := by
    intro i q hq
    unfold wld at hq
    rw [List.getElem?_map] at hq
    cases hr : (List.range h.1)[i]? with
    | none => rw [hr] at hq; cases hq
    | some j =>
      rw [hr] at hq
      have hj : j = i := by
        obtain ⟨h1, h2⟩ := List.getElem?_eq_some_iff.mp hr
        simpa using h2.symm
      cases hq
      rw [hj]
  refine ⟨fun i j p q hp hq e => ?_, fun k q hq => ?_⟩
  · have h1 := key i p hp
    have h2 := key j q hq
    omega
  · have h1 := key k q hq
    show b ≤ q.1
    omega
theorem hcell_some {h : AH} {p : Nat} {c : va_E} (e : hcell h p = some c) : p < h.1 ∧ h.2.2 p = c := by
  unfold hcell at e
  split at e
  · next hp => cases e; exact ⟨hp, rfl⟩
  · cases e
theorem wld_at {b bs : Nat} {cA : Nat → ClassId} {h : AH} {p : Nat} {c : va_E} (e : hcell h p = some c) : (wld b bs cA h)[p]? = some (b + p, trE b bs cA c) := by
  obtain ⟨h1, h2⟩ := hcell_some e
  rw [wld_get h1, h2]
-- locals
def isJ (v : Value) : Bool := match v with
  | .float _ => true
  | _ => false
def prs (b bs : Nat) (ls : List Value) : List (Nat × Value) := (List.range ls.length).filterMap fun i => match ls[i]? with
  | some v => if isJ v = true then none else some (i, vmv b bs v)
  | none => none
theorem prs_mem {b bs : Nat} {ls : List Value} {i : Nat} {w : Value} : (i, w) ∈ prs b bs ls ↔ ∃ v, ls[i]? = some v ∧ isJ v = false ∧ w = vmv b bs v := by
  unfold prs
  rw [List.mem_filterMap]
  constructor
  · rintro ⟨j, hj, e⟩
    cases hv : ls[j]? with
    | none => rw [hv] at e; cases e
    | some v =>
      rw [hv] at e
      dsimp only at e
      split at e
      · cases e
      · next hJ => cases e; exact ⟨v, hv, by simpa using hJ, rfl⟩
  · rintro ⟨v, hv, hJ, rfl⟩
    have hl : i < ls.length := (List.getElem?_eq_some_iff.mp hv).1
    exact ⟨i, List.mem_range.mpr hl, by rw [hv]; simp [hJ]⟩
/-- the real locals hold what the abstract ones say -/
def LR (b bs nL : Nat) (ls : List Value) (lr : Array Slot) : Prop := ls.length = nL ∧ lv_has lr nL (prs b bs ls)
theorem LR.at {b bs nL : Nat} {ls : List Value} {lr : Array Slot} (h : LR b bs nL ls lr) {i : Nat} {v : Value} (hv : ls[i]? = some v) (hJ : isJ v = false) : lr[i]? = some (.val (vmv b bs v)) := h.2.2.2 (i, vmv b bs v) (prs_mem.mpr ⟨v, hv, hJ, rfl⟩)
theorem LR.weak {b bs nL : Nat} {ls' : List Value} {lr : Array Slot} {l : List (Nat × Value)} (h : lv_has lr nL l) (hl : ls'.length = nL) (hs : ∀ i v, ls'[i]? = some v → isJ v = false → (i, vmv b bs v) ∈ l) : LR b bs nL ls' lr := by
  refine ⟨hl, h.1, h.2.1, fun q hq => ?_⟩
  obtain ⟨i, w⟩ := q
  obtain ⟨v, hv, hJ, rfl⟩ := prs_mem.mp hq
  exact h.2.2 _ (hs i v hv hJ)
theorem killL_len (i : Nat) (ls : List Value) : (killL i ls).length = ls.length := by
  unfold killL
  split
  · rfl
  · split <;> simp
theorem killL_at {i j : Nat} {ls : List Value} {v : Value} (h : (killL i ls)[j]? = some v) (hJ : isJ v = false) : ls[j]? = some v ∧ (j + 1 = i → ¬ v.category = 2) := by
  unfold killL at h
  split at h
  · exact ⟨h, fun q => by omega⟩
  · next k =>
    split at h
    · next x hx =>
      rw [List.getElem?_set] at h
      split at h
      · split at h
        · cases h; cases hJ
        · cases h
      · next hne => exact ⟨h, fun q => absurd (show k = j by omega) hne⟩
    · next x hx =>
      rw [List.getElem?_set] at h
      split at h
      · split at h
        · cases h; cases hJ
        · cases h
      · next hne => exact ⟨h, fun q => absurd (show k = j by omega) hne⟩
    · next hx hy =>
      refine ⟨h, fun q => ?_⟩
      have hjk : j = k := by omega
      subst hjk
      cases v with
      | long x => exact absurd h (hx x)
      | double d => exact absurd h (hy d)
      | _ => simp [Value.category]
theorem st1_len {i : Nat} {v : Value} {ls l : List Value} (h : st1 i v ls = some l) : i < ls.length ∧ l = (killL i ls).set i v := by
  unfold st1 at h
  split at h
  · next hi => cases h; exact ⟨hi, rfl⟩
  · cases h
theorem st2_len {i : Nat} {v : Value} {ls l : List Value} (h : st2 i v ls = some l) : i + 1 < ls.length ∧ l = ((killL i ls).set i v).set (i + 1) Jk := by
  unfold st2 at h
  split at h
  · next hi => cases h; exact ⟨hi, rfl⟩
  · cases h
theorem LR.st1 {b bs nL i : Nat} {v : Value} {ls l : List Value} {lr lr' : Array Slot} (h : LR b bs nL ls lr) (hs : st1 i v ls = some l) (h' : lv_has lr' nL ((i, vmv b bs v) :: (prs b bs ls).filter (fun q => !(q.1 == i) && !(q.1 + 1 == i && q.2.category == 2)))) : LR b bs nL l lr' := by
  obtain ⟨hi, rfl⟩ := st1_len hs
  refine LR.weak h' (by rw [List.length_set, killL_len]; exact h.1) fun j w hw hJ => ?_
  rw [List.getElem?_set] at hw
  split at hw
  · next e =>
    subst e
    split at hw
    · cases hw; exact List.mem_cons_self
    · cases hw
  · next e =>
    obtain ⟨h1, h2⟩ := killL_at hw hJ
    refine List.mem_cons_of_mem _ (List.mem_filter.mpr ⟨prs_mem.mpr ⟨w, h1, hJ, rfl⟩, ?_⟩)
    have e' : ¬ j = i := fun q => e q.symm
    simp only [Bool.and_eq_true, Bool.not_eq_true', beq_eq_false_iff_ne, ne_eq, Bool.and_eq_false_iff]
    refine ⟨e', ?_⟩
    by_cases q : j + 1 = i
    · right; rw [vmv_cat]; exact h2 q
    · left; exact q
theorem LR.st2 {b bs nL i : Nat} {v : Value} {ls l : List Value} {lr lr' : Array Slot} (h : LR b bs nL ls lr) (hs : st2 i v ls = some l) (h' : lv_has lr' nL ((i, vmv b bs v) :: (prs b bs ls).filter (fun q => !(q.1 == i) && (!(q.1 == i + 1) && !(q.1 + 1 == i && q.2.category == 2))))) : LR b bs nL l lr' := by
  obtain ⟨hi, rfl⟩ := st2_len hs
  refine LR.weak h' (by rw [List.length_set, List.length_set, killL_len]; exact h.1) fun j w hw hJ => ?_
  rw [List.getElem?_set] at hw
  split at hw
  · next e =>
    split at hw
    · cases hw; cases hJ
    · cases hw
  · next e0 =>
    rw [List.getElem?_set] at hw
    split at hw
    · next e =>
      subst e
      split at hw
      · cases hw; exact List.mem_cons_self
      · cases hw
    · next e =>
      obtain ⟨h1, h2⟩ := killL_at hw hJ
      refine List.mem_cons_of_mem _ (List.mem_filter.mpr ⟨prs_mem.mpr ⟨w, h1, hJ, rfl⟩, ?_⟩)
      have e' : ¬ j = i := fun q => e q.symm
      have e0' : ¬ j = i + 1 := fun q => e0 q.symm
      simp only [Bool.and_eq_true, Bool.not_eq_true', beq_eq_false_iff_ne, ne_eq, Bool.and_eq_false_iff]
      refine ⟨e', e0', ?_⟩
      by_cases q : j + 1 = i
      · right; rw [vmv_cat]; exact h2 q
      · left; exact q
theorem mskN_len (m : Nat) (ls : List Value) : (mskN m ls).length = ls.length := by
  induction ls generalizing m with
  | nil => rfl
  | cons v r ih => simp [mskN, ih]
theorem mskN_at {m i : Nat} {ls : List Value} {v : Value} (h : (mskN m ls)[i]? = some v) (hJ : isJ v = false) : ls[i]? = some v := by
  induction ls generalizing m i with
  | nil => simp [mskN] at h
  | cons w r ih =>
    cases i with
    | zero =>
      simp only [mskN, List.getElem?_cons_zero, Option.some.injEq] at h
      split at h
      · subst h; rfl
      · subst h; cases hJ
    | succ i =>
      simp only [mskN, List.getElem?_cons_succ] at h ⊢
      exact ih h
theorem LR.msk {b bs nL : Nat} {ls : List Value} {lr : Array Slot} (h : LR b bs nL ls lr) (m : Nat) : LR b bs nL (mskN m ls) lr :=
  LR.weak h.2 (by rw [mskN_len]; exact h.1) fun i v hv hJ => prs_mem.mpr ⟨v, mskN_at hv hJ, hJ, rfl⟩
-- a method's entry
theorem layL_len (b bs : Nat) (as : List Value) : (lg_sl (as.map (vmv b bs))).length = (layL as).length := by
  induction as with
  | nil => rfl
  | cons v r ih =>
    unfold lg_sl at ih ⊢
    rw [List.map_cons, List.flatMap_cons, List.length_append, ih]
    cases v <;> simp [layL, vmv, Value.category] <;> omega
theorem layL_at (b bs : Nat) : ∀ (as : List Value) (k i : Nat) (v : Value), (layL as)[i]? = some v → isJ v = false → (k + i, vmv b bs v) ∈ lv_args k (as.map (vmv b bs)) := by
  intro as
  induction as with
  | nil => intro k i v h; simp [layL] at h
  | cons w r ih =>
    intro k i v h hJ
    rw [List.map_cons]
    unfold lv_args
    have one : ∀ (hw : w.category = 1) (hl : layL (w :: r) = w :: layL r), (k + i, vmv b bs v) ∈ (k, vmv b bs w) :: lv_args (if (vmv b bs w).category = 2 then k + 2 else k + 1) (r.map (vmv b bs)) := by
      intro hw hl
      rw [hl] at h
      cases i with
      | zero => simp at h; subst h; exact List.mem_cons_self
      | succ i =>
        rw [List.getElem?_cons_succ] at h
        refine List.mem_cons_of_mem _ ?_
        rw [vmv_cat, if_neg (by rw [hw]; decide)]
        have := ih (k + 1) i v h hJ
        rw [show k + (i + 1) = k + 1 + i by omega]
        exact this
    cases w with
    | long x =>
      have hl : layL (.long x :: r) = .long x :: Jk :: layL r := rfl
      rw [hl] at h
      match i, h with
      | 0, h => simp at h; subst h; exact List.mem_cons_self
      | 1, h => simp at h; subst h; cases hJ
      | i + 2, h =>
        rw [List.getElem?_cons_succ, List.getElem?_cons_succ] at h
        refine List.mem_cons_of_mem _ ?_
        rw [vmv_cat, if_pos (show (Value.long x).category = 2 from rfl)]
        have := ih (k + 2) i v h hJ
        rw [show k + (i + 2) = k + 2 + i by omega]
        exact this
    | double x =>
      have hl : layL (.double x :: r) = .double x :: Jk :: layL r := rfl
      rw [hl] at h
      match i, h with
      | 0, h => simp at h; subst h; exact List.mem_cons_self
      | 1, h => simp at h; subst h; cases hJ
      | i + 2, h =>
        rw [List.getElem?_cons_succ, List.getElem?_cons_succ] at h
        refine List.mem_cons_of_mem _ ?_
        rw [vmv_cat, if_pos (show (Value.double x).category = 2 from rfl)]
        have := ih (k + 2) i v h hJ
        rw [show k + (i + 2) = k + 2 + i by omega]
        exact this
    | int x => exact one rfl rfl
    | float x => exact one rfl rfl
    | null => exact one rfl rfl
    | ref x => exact one rfl rfl
    | retAddr x => exact one rfl rfl
theorem LR.entry {b bs nL : Nat} {as : List Value} (hn : (layL as).length ≤ nL) : LR b bs nL (entL nL as) ((lg_sl (as.map (vmv b bs)) ++ List.replicate (nL - (lg_sl (as.map (vmv b bs))).length) Slot.unset).toArray) := by
  refine LR.weak (lv_entry (as.map (vmv b bs)) (n := nL) (by rw [layL_len]; exact hn)) (by unfold entL; rw [List.length_append, List.length_replicate]; omega) fun i v hv hJ => ?_
  unfold entL at hv
  by_cases hi : i < (layL as).length
  · rw [List.getElem?_append_left hi] at hv
    have := layL_at b bs as 0 i v hv hJ
    rwa [Nat.zero_add] at this
  · rw [List.getElem?_append_right (by omega)] at hv
    have := List.getElem?_replicate (n := nL - (layL as).length) (a := Jk) (i := i - (layL as).length)
    rw [hv] at this
    split at this
    · cases this; cases hJ
    · cases this
end
section
/-! rows of the kit for the abstract heap's world: allocation at a known address, calls that bring the whole world back -/
section RowsA
variable {p : Program} {l : Launch} {e : Env} {R : Room} {s : State} {m : MethodId} {args : Array Value} {below : List Frame} {meth : Method} {c : Code} {H : Heap} {locs : List Loc} {cells slots : Nat} {Q : State → Prop}
variable {cc : ByteArray} {pc : Nat} {ls : Array Slot} {rest : List Value} {D : va_G} {cl : List vw_C} {A : Nat → Prop} {a : Nat} {tys : List (ClassId × FieldType)} {ws : va_W} {H0 : Heap}
theorem rw_new (hexec : p.tables.exec = Jvm.exec) (hb : c.code = cc) {own C : String} {T : u_T} {N ci index : Nat} {Ts : List Cond} (hts : ∀ w ∈ Ts, w.before args s = true) (hin : ∀ w ∈ u_ws C T N, w ∈ Ts) (ty : Nat → FieldType) (hty : ∀ k, k < N → parseFieldDescriptor (T k).2.2.1 = some (ty k)) (hown : s.vm.findClass own = some m.cls) (hcl : (Cond.classLink own index C).before args s = true) (hinst : (Cond.instantiable C N).before args s = true) (hini : (Cond.initialized C).before args s = true)
    (hK : va_K D cl tys s) (hP : va_P D cl ws H) (hS : va_S A H0 H locs) (hc : cl[ci]? = some (C, T, N)) {fs : List Value} (hfs : ∀ j, j < N → defaultValue (ty j) = vp_V fs j) (hcells : cells + 1 ≤ R.cells) (hslots : slots + N ≤ R.slots) (hdg : decode cc pc = .ok (.new index, 3))
    (kk : ∀ (H1 : Heap), H1.size = H.size + 1 → va_P D cl (ws ++ [(H.size, .inr (ci, fs))]) H1 → va_S A H0 H1 locs →
      W p l e R s m args below meth c H1 locs (cells + 1) (slots + N) Q (F0 m (pc + 3) ls (.ref H.size :: rest))) : W p l e R s m args below meth c H locs cells slots Q (F0 m pc ls rest) := by
  have hKn := hK.1 ci _ hc
  refine W.newcK hexec hb hown hcl hinst hini rfl hdg hcells hslots hKn.2.1 rfl fun H1 kC hkC e1 z1 o1 => ?_
  have hk : ∀ (k : Nat) (x : Nat × va_E), ws[k]? = some x → H1[x.1]? = H[x.1]? := fun k x hx => o1 x.1 ((hP k x hx).lt)
  refine kk H1 z1 ((hP.kept hk).app (fun k x hx => ?_)) ⟨Nat.le_trans hS.1 (by omega), fun x h1 h2 => (o1 x (Nat.lt_of_lt_of_le h1 hS.1)).trans (hS.2.1 x h1 h2), hS.2.2⟩
  have hz : k < 1 := (List.getElem?_eq_some_iff.mp hx).1
  rw [show k = 0 by omega] at hx
  cases hx
  exact ⟨_, hc, (u_born ty hts hin hKn hkC e1 hty).to hfs⟩
theorem rw_newI (hexec : p.tables.exec = Jvm.exec) (hb : c.code = cc) (harr : (Cond.arrayClass .int).before args s = true) (hP : va_P D cl ws H) (hS : va_S A H0 H locs) {cI : ClassId} (hcI : s.vm.findClass ("[" ++ (FieldType.int).toString) = some cI)
    {n : Int32} (hn : ¬ n < 0) (hbytes : n.toNatClampNeg * 4 ≤ 536870912) (hcells : cells + 1 ≤ R.cells) (hslots : slots + n.toNatClampNeg ≤ R.slots) (hdg : decode cc pc = .ok (.newarray .int, 2))
    (kk : ∀ (H1 : Heap), H1.size = H.size + 1 → va_P D cl (ws ++ [(H.size, .inl (cI, n.toNatClampNeg, .inl (fun _ => 0)))]) H1 → va_S A H0 H1 locs →
      W p l e R s m args below meth c H1 locs (cells + 1) (slots + n.toNatClampNeg) Q (F0 m (pc + 2) ls (.ref H.size :: rest))) : W p l e R s m args below meth c H locs cells slots Q (F0 m pc ls (.int n :: rest)) := by
  refine va_newaK (atype := .int) hexec hb harr rfl hdg rfl hn rfl hbytes hcells hslots rfl fun H1 cA e1 z1 o1 hAr hNm => ?_
  have hk : ∀ (k : Nat) (x : Nat × va_E), ws[k]? = some x → H1[x.1]? = H[x.1]? := fun k x hx => o1 x.1 ((hP k x hx).lt)
  have hc : cA = cI := Option.some.inj (hNm.symm.trans hcI)
  subst hc
  refine kk H1 z1 ((hP.kept hk).app (fun k x hx => ?_)) ⟨Nat.le_trans hS.1 (by omega), fun x h1 h2 => (o1 x (Nat.lt_of_lt_of_le h1 hS.1)).trans (hS.2.1 x h1 h2), hS.2.2⟩
  have hz : k < 1 := (List.getElem?_eq_some_iff.mp hx).1
  rw [show k = 0 by omega] at hx
  cases hx
  show H1[H.size]? = some (vp_cell _ _)
  rw [vp_cell_i]
  exact e1
theorem rw_newR (hexec : p.tables.exec = Jvm.exec) (hb : c.code = cc) {own C : String} {index : Nat} (hown : s.vm.findClass own = some m.cls) (hclink : (Cond.classLink own index C).before args s = true) (hover : va_AO C s) (hP : va_P D cl ws H) (hS : va_S A H0 H locs) {cR : ClassId} (hcR : s.vm.findClass ("[" ++ (FieldType.object C).toString) = some cR)
    {n : Int32} (hn : ¬ n < 0) (hbytes : n.toNatClampNeg * 4 ≤ 536870912) (hcells : cells + 1 ≤ R.cells) (hslots : slots + n.toNatClampNeg ≤ R.slots) (hdg : decode cc pc = .ok (.anewarray index, 3))
    (kk : ∀ (H1 : Heap), H1.size = H.size + 1 → va_P D cl (ws ++ [(H.size, .inl (cR, n.toNatClampNeg, .inr (.inr (.inr (.inr (fun _ => none))))))]) H1 → va_S A H0 H1 locs →
      W p l e R s m args below meth c H1 locs (cells + 1) (slots + n.toNatClampNeg) Q (F0 m (pc + 3) ls (.ref H.size :: rest))) : W p l e R s m args below meth c H locs cells slots Q (F0 m pc ls (.int n :: rest)) := by
  refine W.anew hexec hb hown hclink (va_AO.use hover) rfl hdg rfl hn hbytes hcells hslots fun cA kA comp f1 f2 f3 f4 => ?_
  generalize hH1 : H.push ({ cls := cA, slots := Array.replicate n.toNatClampNeg .null, vm := .none } : Cell) = H1
  have z1 : H1.size = H.size + 1 := by rw [← hH1, Array.size_push]
  have e1 : H1[H.size]? = some (arrV cA n.toNatClampNeg (fun _ => .null)) := by rw [← hH1, Array.getElem?_push_size, ← arrV_new]
  have o1 : ∀ q : Nat, q < H.size → H1[q]? = H[q]? := fun q hq => by rw [← hH1, Array.getElem?_push, if_neg (Nat.ne_of_lt hq)]
  have hk : ∀ (k : Nat) (x : Nat × va_E), ws[k]? = some x → H1[x.1]? = H[x.1]? := fun k x hx => o1 x.1 ((hP k x hx).lt)
  have hc : cA = cR := Option.some.inj (f1.symm.trans hcR)
  subst hc
  refine kk H1 z1 ((hP.kept hk).app (fun k x hx => ?_)) ⟨Nat.le_trans hS.1 (by omega), fun x h1 h2 => (o1 x (Nat.lt_of_lt_of_le h1 hS.1)).trans (hS.2.1 x h1 h2), hS.2.2⟩
  have hz : k < 1 := (List.getElem?_eq_some_iff.mp hx).1
  rw [show k = 0 by omega] at hx
  cases hx
  show H1[H.size]? = some (vp_cell _ _)
  rw [vp_cell_q]
  exact e1
/-- aaload of any array of references -/
theorem rw_aald (hexec : p.tables.exec = Jvm.exec) (hb : c.code = cc) (hK : va_K D cl tys s) (hP : va_P D cl ws H) (q0 t0 : Nat) {cA : ClassId} {ty : FieldType} {n : Nat} {f : Nat → Option Nat} (ha : ws[q0]? = some (a, .inl (cA, n, .inr (.inr (.inr (.inr f)))))) (ht : tys[t0]? = some (cA, ty)) (hty : ty.isReference = true) {i : Int32} (hin : vp_in i n) (hdg : decode cc pc = .ok (.aaload, 1))
    (kk : W p l e R s m args below meth c H locs cells slots Q (F0 m (pc + 1) ls (va_rf (f i.toNatClampNeg) :: rest))) : W p l e R s m args below meth c H locs cells slots Q (F0 m pc ls (.int i :: .ref a :: rest)) := by
  have hlt : i.toNatClampNeg < n := Nat.not_le.mp fun q => hin (Or.inr q)
  exact W.aald (v := va_rf (f i.toNatClampNeg)) (ty := ty) hexec hb (hP q0 _ ha) ((hK.2 t0 _ ht).1 n (fun j => va_rf (f j))) hty (fun q => by cases q) (by show ¬ (i < 0 ∨ (arrV _ _ _).slots.size ≤ _); rw [arrV_size]; exact hin) (by show (arrV _ _ _).slots[_]? = _; rw [arrV_read _ _ hlt]) rfl rfl hdg kk
/-- behind a call: the whole world as the callee leaves it -/
def Post (D : va_G) (cl : List vw_C) (b bs : Nat) (cA : Nat → ClassId) (r : Option Value) (h' : AH) : Array Value → State → Outcome → State → Prop := fun _ st oc t =>
  (oc = .returned (r.map (vmv b bs)) ∧ va_P D cl (wld b bs cA h') t.heap) ∧ va_F (fun q => b ≤ q) st t
theorem rw_call {b bs : Nat} {cA : Nat → ClassId} {r : Option Value} {h' : AH} {mc ms : Nat} {st0 : List Value} {av : Array Value} {free : Addr → Prop} (hr : va_Run p l e R s m args below meth c H locs cells slots mc ms (F0 m pc ls st0) rest (Post D cl b bs cA r h' av) free) (hS : va_S (fun q => b ≤ q) H0 H locs) (hf : ∀ q, free q → b ≤ q)
    (kk : ∀ (H1 : Heap) (locs1 : List Loc), va_P D cl (wld b bs cA h') H1 → va_S (fun q => b ≤ q) H0 H1 locs1 → H.size ≤ H1.size → W p l e R s m args below meth c H1 locs1 (cells + mc) (slots + ms) Q (F0 m (pc + 3) ls ((r.map (vmv b bs)).toList ++ rest))) : W p l e R s m args below meth c H locs cells slots Q (F0 m pc ls st0) := by
  intro T hT X
  obtain ⟨v, st₀, t, T', L, h0, X', hL, e1, e2, ⟨⟨hv, hp⟩, hs, hk⟩, st⟩ := hr T hT X
  cases hv
  rw [h0] at hs hk
  obtain ⟨t2, a1, b1⟩ := kk T'.heap (locs ++ L) (by rw [e1]; exact hp)
    ⟨Nat.le_trans hS.1 (by rw [e1]; exact hs), fun q h1 h2 => by rw [e1, hk q (Nat.lt_of_lt_of_le h1 hS.1) h2]; exact hS.2.1 q h1 h2, fun q hq => by
      rcases List.mem_append.mp hq with h | h
      · exact hS.2.2 q h
      · exact hf _ (hL q h)⟩ (by rw [e1]; exact hs) T' rfl X'
  exact ⟨t2, st t2 a1, b1⟩
/-- how large the heap can be: what was there, and what was made -/
theorem rw_size {g : JFrame} (kk : H.size ≤ s.heap.size + cells → W p l e R s m args below meth c H locs cells slots Q g) : W p l e R s m args below meth c H locs cells slots Q g := fun T hT X => kk (by rw [← hT]; exact X.heapSize) T hT X
end RowsA
end
section
/-! new int[n][k] at known addresses -/
section RowsM
variable {p : Program} {l : Launch} {e : Env} {R : Room} {s : State} {m : MethodId} {args : Array Value} {below : List Frame} {meth : Method} {c : Code} {H : Heap} {locs : List Loc} {cells slots : Nat} {Q : State → Prop}
variable {cc : ByteArray} {pc : Nat} {ls : Array Slot} {rest : List Value} {D : va_G} {cl : List vw_C} {A : Nat → Prop} {ws : va_W} {H0 : Heap}
theorem mna_outer (c : ClassId) (N h0 : Nat) : ∀ i : Nat, Jvm.Free.Multi.outerC c N h0 i = arrV c N (fun j => va_rf (if j < i then some (h0 + 1 + j) else none))
  | 0 => by
    show ({ cls := c, slots := Array.replicate N .null, vm := .none } : Cell) = _
    rw [arrV_new]
    exact congrArg (arrV c N) (funext fun j => by simp [va_rf])
  | i + 1 => by
    show (Jvm.Free.Multi.outerC c N h0 i).setSlot i (.ref (h0 + 1 + i)) = _
    rw [mna_outer c N h0 i, arrV_store]
    refine congrArg (arrV c N) (funext fun j => ?_)
    by_cases e : j = i
    · subst e
      simp [updV, va_rf]
    · by_cases h : j < i
      · simp [updV, e, h, Nat.lt_succ_of_lt h]
      · simp [updV, e, h, show ¬ j < i + 1 by omega]
theorem rw_newM (hexec : p.tables.exec = Jvm.exec) (hb : c.code = cc) {own : String} {index : Nat} (hown : s.vm.findClass own = some m.cls) (hclink : (Cond.classLink own index "[[I").before args s = true) (hover : (Cond.arrayOver (.array .int)).before args s = true) (harr : (Cond.arrayClass .int).before args s = true)
    {cI cM : ClassId} (hcI : s.vm.findClass ("[" ++ (FieldType.int).toString) = some cI) (hcM : s.vm.findClass ("[" ++ (FieldType.array .int).toString) = some cM)
    (hP : va_P D cl ws H) (hS : va_S A H0 H locs) {n k : Int32} (hn : ¬ n < 0) (hk : ¬ k < 0) (hn1 : n.toNatClampNeg ≤ 1000) (hk1 : k.toNatClampNeg ≤ 1000)
    (hcells : cells + (1 + n.toNatClampNeg) ≤ R.cells) (hslots : slots + (n.toNatClampNeg + n.toNatClampNeg * k.toNatClampNeg) ≤ R.slots) (hdg : decode cc pc = .ok (.multianewarray index 2, 4))
    (kk : ∀ (H1 : Heap), (∀ x : Nat, x < H.size → H1[x]? = H[x]?) → H1[H.size]? = some (vp_cell cM (n.toNatClampNeg, .inr (.inr (.inr (.inr (fun i => if i < n.toNatClampNeg then some (H.size + 1 + i) else none)))))) → (∀ j : Nat, j < n.toNatClampNeg → H1[H.size + 1 + j]? = some (vp_cell cI (k.toNatClampNeg, .inl (fun _ => 0)))) → va_P D cl ws H1 → va_S A H0 H1 locs →
      W p l e R s m args below meth c H1 locs (cells + 1 + n.toNatClampNeg) (slots + n.toNatClampNeg + n.toNatClampNeg * k.toNatClampNeg) Q (F0 m (pc + 4) ls (.ref H.size :: rest))) : W p l e R s m args below meth c H locs cells slots Q (F0 m pc ls (.int k :: .int n :: rest)) := by
  intro T hT Xs
  obtain ⟨vm₁, cA, comp, -, fA, fC, hO, -, X', step⟩ := Xs.multianewarray2F (ty := .int) hexec hown hclink hover harr (g := F0 m pc ls (.int k :: .int n :: rest)) rfl (by rw [hb]; exact hdg) rfl hn hk (by omega) (by show k.toNatClampNeg * 4 ≤ _; omega) (by omega) rfl rfl hcells hslots
  have e1 : cI = comp := Option.some.inj (hcI.symm.trans fC)
  have e2 : cM = cA := Option.some.inj (hcM.symm.trans fA)
  subst e1
  subst e2
  generalize hF : Jvm.Free.Multi.fill (T.setVm vm₁) cM cI n.toNatClampNeg k.toNatClampNeg (defaultValue .int) n.toNatClampNeg = F at X' step
  have hTh : (T.setVm vm₁).heap = H := hT
  obtain ⟨f1, f2, -, -⟩ := Jvm.Free.Multi.fill_facts (T.setVm vm₁) cM cI n.toNatClampNeg k.toNatClampNeg (defaultValue .int) n.toNatClampNeg
  rw [hF, hTh] at f1 f2
  have hold : ∀ x : Nat, x < H.size → F.heap[x]? = H[x]? := fun x hx => by
    have := Jvm.Free.Multi.fill_old (T.setVm vm₁) cM cI n.toNatClampNeg k.toNatClampNeg (defaultValue .int) (a := x) (by rw [hTh]; exact hx) n.toNatClampNeg
    rw [hF, hTh] at this
    exact this
  have hz : Jvm.Free.Multi.innerC cI k.toNatClampNeg (defaultValue .int) = vp_cell cI (k.toNatClampNeg, .inl (fun _ => 0)) := by
    rw [vp_cell_i]
    show ({ cls := cI, slots := Array.replicate k.toNatClampNeg (.int 0), vm := .none } : Cell) = _
    rw [arrV_new]
  have hrow : ∀ j : Nat, j < n.toNatClampNeg → F.heap[H.size + 1 + j]? = some (vp_cell cI (k.toNatClampNeg, .inl (fun _ => 0))) := fun j hj => by
    have := Jvm.Free.Multi.fill_inner (T.setVm vm₁) cM cI n.toNatClampNeg k.toNatClampNeg (defaultValue .int) n.toNatClampNeg j hj
    rw [hF, hTh, hz] at this
    exact this
  have hout : Jvm.Free.Multi.outerC cM n.toNatClampNeg H.size n.toNatClampNeg = vp_cell cM (n.toNatClampNeg, .inr (.inr (.inr (.inr (fun i => if i < n.toNatClampNeg then some (H.size + 1 + i) else none))))) := by
    rw [vp_cell_q]
    exact mna_outer cM n.toNatClampNeg H.size n.toNatClampNeg
  rw [hout] at f2
  obtain ⟨t, a1, b1⟩ := kk F.heap hold f2 hrow (hP.kept (fun k9 x hx => hold x.1 ((hP k9 x hx).lt))) ⟨by rw [f1]; have := hS.1; omega, fun x h1 h2 => (hold x (Nat.lt_of_lt_of_le h1 hS.1)).trans (hS.2.1 x h1 h2), hS.2.2⟩ F rfl X'
  refine ⟨t, step t ?_, b1⟩
  have e : T.heap.size = H.size := by rw [hT]
  rw [e]
  exact a1
end RowsM
end
section
/-! what a program decides of each instruction: that it stands in the bytes as told, and which words of the tables it needs -/
/-- a method: name, bytes, locals, answer, blocks -/
abbrev MI : Type := MethodName × ByteArray × Nat × Option FieldType × List (List Ins)
def PB (M : Nat → MI) (mi b : Nat) : List Ins := (M mi).2.2.2.2.getD b []
def bpc (M : Nat → MI) (mi b : Nat) : Nat := match PB M mi b with
  | [] => 0
  | a :: _ => a.1
def nxt (is : List Ins) : Nat := match is with
  | [] => 0
  | a :: _ => a.1
/-- the word at a place of the tables, one that goes along -/
def wat (T0 : List Cond) (k : Nat) (w : Cond) : Bool := decide (T0[k]? = some w) && goodWord w
theorem wat_spec {T0 : List Cond} {k : Nat} {w : Cond} (h : wat T0 k w = true) : w ∈ T0.filter goodWord := by
  simp only [wat, Bool.and_eq_true, decide_eq_true_eq] at h
  exact List.mem_filter.mpr ⟨List.mem_of_getElem? h.1, h.2⟩
def xat (xw : List Cond) (k : Nat) (w : Cond) : Bool := decide (xw[k]? = some w)
theorem xat_spec {xw : List Cond} {k : Nat} {w : Cond} (h : xat xw k w = true) : w ∈ xw := by
  simp only [xat, decide_eq_true_eq] at h
  exact List.mem_of_getElem? h
def clN (cl : List vw_C) (ci : Nat) : vw_C := cl.getD ci ("", fun _ => ("", "", "", false), 0)
/-- the program: methods, how many may be called, tables, classes, their fields' types, words of nests, pairs of classes that don't cast, element types of arrays -/
abbrev PG : Type := (Nat → MI) × Nat × List Cond × List vw_C × (Nat → Nat → FieldType) × List Cond × List (String × String) × List FieldType
abbrev PG.M (G : PG) : Nat → MI := G.1
abbrev PG.nM (G : PG) : Nat := G.2.1
abbrev PG.T0 (G : PG) : List Cond := G.2.2.1
abbrev PG.cl (G : PG) : List vw_C := G.2.2.2.1
abbrev PG.ty0 (G : PG) : Nat → Nat → FieldType := G.2.2.2.2.1
abbrev PG.xw (G : PG) : List Cond := G.2.2.2.2.2.1
abbrev PG.nc (G : PG) : List (String × String) := G.2.2.2.2.2.2.1
abbrev PG.tyL (G : PG) : List FieldType := G.2.2.2.2.2.2.2
def dcd (G : PG) (mi pc len : Nat) (i : Instr) : Bool := decide (decode (G.M mi).2.1 pc = .ok (i, len))
def retOk (G : PG) (c k : Nat) : Bool := match (G.M c).2.2.2.1 with
  | none => decide (k = 0)
  | some .int => decide (k = 1)
  | some .boolean => decide (k = 1)
  | some .long => decide (k = 2)
  | some (.object _) => decide (k = 3)
  | _ => false
/-- of a callee: callable, its locals as told, so many arguments -/
def cleOk (G : PG) (c mL n k : Nat) : Bool := decide (c < G.nM) && decide ((G.M c).2.2.1 = mL) && decide (mL ≤ 21) && retOk G c k && decide ((parseMethodDescriptor (G.M c).1.desc).map (fun d => d.parameters.length) = some n)
/-- casting a class to another, exactly or by a word -/
def casts (G : PG) (k : Nat) (C E : String) : Bool := decide (C = E) || xat G.xw k (.castable C E)
/-- the receivers of a call that may be overridden: class, callee; words: which it selects, that this is a method of objects -/
def polyOk (G : PG) (xm n k : Nat) : List (Nat × Nat × Nat) → List Nat → Bool
  | [], _ => true
  | (ci, c, mL) :: r, a :: b :: ws => decide (ci < G.cl.length) && cleOk G c mL n k && wat G.T0 a (.selects (clN G.cl ci).1 (G.M xm).1 (G.M c).1) && wat G.T0 b (.instanceMethod (G.M c).1) && polyOk G xm n k r ws
  | _, _ => false
def okI (G : PG) (mi pc len : Nat) (i : Instr) (o : Opd) (nx : Nat) : Bool :=
  let own := (G.M mi).1.cls
  let fall := decide (nx = pc + len)
  let d := dcd G mi pc len i
  match i with
  | .nop => decide (pc = bpc G.M mi o.2.1)
  | .iconst n => d && fall && decide (len = 1) && decide (o.1 = .int (Int32.ofInt n))
  | .bipush n => d && fall && decide (len = 2) && decide (o.1 = .int (Int8.ofInt n).toInt32)
  | .sipush n => d && fall && decide (len = 3) && decide (o.1 = .int (Int16.ofInt n).toInt32)
  | .lconst n => d && fall && decide (len = 1) && decide (o.1 = .long (Int64.ofNat (n : Nat)))
  | .ldc k => d && fall && decide (len = 2) && (match o.1, o.2.2.2.2 with | .int v, w :: _ => wat G.T0 w (.constant own k v) | _, _ => false)
  | .ldc_w k => d && fall && decide (len = 3) && (match o.1, o.2.2.2.2 with | .int v, w :: _ => wat G.T0 w (.constant own k v) | _, _ => false)
  | .ldc2_w k => d && fall && decide (len = 3) && (match o.1, o.2.2.2.2 with | .long v, w :: _ => wat G.T0 w (.constantLong own k v) | _, _ => false)
  | .iload_n k => d && fall && decide (len = 1) && decide ((k : Nat) = o.2.1)
  | .lload_n k => d && fall && decide (len = 1) && decide ((k : Nat) = o.2.1)
  | .aload_n k => d && fall && decide (len = 1) && decide ((k : Nat) = o.2.1)
  | .istore_n k => d && fall && decide (len = 1) && decide ((k : Nat) = o.2.1)
  | .lstore_n k => d && fall && decide (len = 1) && decide ((k : Nat) = o.2.1)
  | .astore_n k => d && fall && decide (len = 1) && decide ((k : Nat) = o.2.1)
  | .iload k => d && fall && decide (len = 2) && decide (k = o.2.1)
  | .lload k => d && fall && decide (len = 2) && decide (k = o.2.1)
  | .aload k => d && fall && decide (len = 2) && decide (k = o.2.1)
  | .istore k => d && fall && decide (len = 2) && decide (k = o.2.1)
  | .lstore k => d && fall && decide (len = 2) && decide (k = o.2.1)
  | .astore k => d && fall && decide (len = 2) && decide (k = o.2.1)
  | .iinc k n => d && fall && decide (len = 3) && decide (k = o.2.1) && decide (o.1 = .int (Int32.ofInt n))
  | .iadd | .isub | .imul | .iand | .ior | .ixor | .idiv | .irem | .ineg | .ishl | .ishr | .iushr | .i2l | .l2i | .i2b | .i2s | .ladd | .lmul | .ldiv | .lrem | .lcmp | .dup | .dup2 => d && fall && decide (len = 1)
  | .goto off => d && decide (len = 3) && (match o.1 with | .null => decide ((pc : Int) + off = (nx : Int)) | _ => decide ((pc : Int) + off = (bpc G.M mi o.2.1 : Int)))
  | .ifCond _ off => d && fall && decide (len = 3) && decide ((pc : Int) + off = (bpc G.M mi o.2.1 : Int))
  | .if_icmp _ off => d && fall && decide (len = 3) && decide ((pc : Int) + off = (bpc G.M mi o.2.1 : Int))
  | .tableswitch dflt lo hi offs => d && decide ((pc : Int) + dflt = (bpc G.M mi o.2.1 : Int)) && decide (o.2.2.2.1.map (fun q => (q.1 : Int)) = (List.range o.2.2.2.1.length).map (fun (j : Nat) => lo + (j : Int))) && decide (hi = lo + (o.2.2.2.1.length : Int) - 1) && decide (o.2.2.2.1.map (fun q => some ((bpc G.M mi q.2.1 : Int) - (pc : Int))) = (List.range o.2.2.2.1.length).map (fun (j : Nat) => offs[j]?))
  | .lookupswitch dflt ps => d && decide ((pc : Int) + dflt = (bpc G.M mi o.2.1 : Int)) && decide ((ps.toList.zip (ps.toList.drop 1)).all (fun (a, next) => a.1 < next.1) = true) && decide (o.2.2.2.1.map (fun q => ((q.1 : Int), (bpc G.M mi q.2.1 : Int) - (pc : Int))) = ps.toList)
  | .getfield k => d && fall && decide (len = 3) && decide (o.2.1 < G.cl.length) && decide (o.2.2.1 < (clN G.cl o.2.1).2.2) && (match o.2.2.2.2 with | w :: _ => wat G.T0 w (.fieldLink own k ((clN G.cl o.2.1).2.1 o.2.2.1).1 ((clN G.cl o.2.1).2.1 o.2.2.1).2.1 ((clN G.cl o.2.1).2.1 o.2.2.1).2.2.1) | _ => false)
  | .putfield k => d && fall && decide (len = 3) && decide (o.2.1 < G.cl.length) && decide (o.2.2.1 < (clN G.cl o.2.1).2.2) && (match o.2.2.2.2 with | w :: _ => wat G.T0 w (.fieldLink own k ((clN G.cl o.2.1).2.1 o.2.2.1).1 ((clN G.cl o.2.1).2.1 o.2.2.1).2.1 ((clN G.cl o.2.1).2.1 o.2.2.1).2.2.1) | _ => false)
      && (match ((clN G.cl o.2.1).2.1 o.2.2.1).2.2.2 with | false => true | true => decide ((G.M mi).1.name = "<init>") && decide (((clN G.cl o.2.1).2.1 o.2.2.1).1 = own))
      && (match o.1, parseFieldDescriptor ((clN G.cl o.2.1).2.1 o.2.2.1).2.2.1 with | .int v, some .int => decide (v = 0) | .int v, some .boolean => decide (v = 1) | .null, some (.object _) => true | .null, some (.array _) => true | _, _ => false)
  | .iaload | .iastore | .arraylength => d && fall && decide (len = 1)
  | .aaload => d && fall && decide (len = 1) && (match G.tyL[o.2.1]? with | some ty => ty.isReference | none => false)
  | .aastore => d && fall && decide (len = 1) && (match G.tyL[o.2.1]? with | some (.object E) => o.2.2.2.1.all (fun q => decide (q.1 < G.cl.length) && casts G q.2.1 (clN G.cl q.1).1 E) | _ => false)
  | .instanceof k => d && fall && decide (len = 3) && (match o.2.2.2.2 with | w :: nm :: _ => decide (nm < G.cl.length) && wat G.T0 w (.classLink own k (clN G.cl nm).1) && o.2.2.2.1.all (fun q => decide (q.1 < G.cl.length) && (if q.2.1 = 1 then casts G q.2.2 (clN G.cl q.1).1 (clN G.cl nm).1 else decide (q.2.1 = 0) && decide (G.nc[q.2.2]? = some ((clN G.cl q.1).1, (clN G.cl nm).1)))) | _ => false)
  | .new k => d && fall && decide (len = 3) && decide (o.2.1 < G.cl.length) && decide (o.2.2.2.1.length = (clN G.cl o.2.1).2.2) && (match o.2.2.2.2 with | w1 :: w2 :: w3 :: _ => wat G.T0 w1 (.classLink own k (clN G.cl o.2.1).1) && wat G.T0 w2 (.instantiable (clN G.cl o.2.1).1 (clN G.cl o.2.1).2.2) && wat G.T0 w3 (.initialized (clN G.cl o.2.1).1) | _ => false)
      && (List.range (clN G.cl o.2.1).2.2).all (fun j => decide (defaultValue (G.ty0 o.2.1 j) = vp_V (dfl o.2.2.2.1) j))
  | .newarray .int => d && fall && decide (len = 2) && (match o.2.2.2.2 with | w :: _ => wat G.T0 w (.arrayClass .int) | _ => false)
  | .anewarray k => d && fall && decide (len = 3) && (match G.tyL[o.2.1]?, o.2.2.2.2 with | some (.object C), w :: x :: _ => wat G.T0 w (.classLink own k C) && xat G.xw x (.arrayOver (.object C)) | _, _ => false)
  | .multianewarray k n => d && fall && decide (len = 4) && decide (n = 2) && (match o.2.2.2.2 with | w :: x :: y :: _ => wat G.T0 w (.classLink own k "[[I") && xat G.xw x (.arrayOver (.array .int)) && wat G.T0 y (.arrayClass .int) | _ => false)
  | .invokestatic k => d && fall && decide (len = 3) && (match o.2.2.2.1, o.2.2.2.2 with
    | [(nst, c, mL)], w :: v :: _ => cleOk G c mL o.2.1 o.2.2.1 && wat G.T0 v (.static (G.M c).1) && (if nst = 0 then wat G.T0 w (.methodLink own k (G.M c).1) else xat G.xw w (.methodLinkNest own k (G.M c).1 "LetterChute"))
    | [], w :: v :: u :: t :: _ => (match o.2.1 with
      | 1 => wat G.T0 w (.methodLink own k Lib.Math.min.name) && wat G.T0 v (.static Lib.Math.min.name) && wat G.T0 u (.initialized "java/lang/Math") && wat G.T0 t (.code Lib.Math.min.name Lib.Math.min.code 2 (some .int))
      | 2 => wat G.T0 w (.methodLink own k Lib.Math.max.name) && wat G.T0 v (.static Lib.Math.max.name) && wat G.T0 u (.initialized "java/lang/Math") && wat G.T0 t (.code Lib.Math.max.name Lib.Math.max.code 2 (some .int))
      | 3 => wat G.T0 w (.methodLink own k Lib.MathLoose.max_long.x) && wat G.T0 v (.static Lib.MathLoose.max_long.x) && wat G.T0 u (.initialized "java/lang/Math") && wat G.T0 t (.code Lib.MathLoose.max_long.x Lib.MathLoose.max_long.code 4 (some .long))
      | 4 => wat G.T0 w (.methodLink own k arraycopyName) && wat G.T0 v (.static arraycopyName) && wat G.T0 u (.initialized "java/lang/System") && wat G.T0 t (.native arraycopyName)
      | _ => false)
    | _, _ => false)
  | .invokevirtual k => d && fall && decide (len = 3) && (match o.2.2.2.2 with
    | [w, v, u] => (match o.2.2.2.1 with
      | [(ci, c, mL)] => decide (ci < G.cl.length) && cleOk G c mL o.2.1 o.2.2.1 && decide ((G.M c).1.cls = (clN G.cl ci).1) && wat G.T0 w (.methodLink own k (G.M c).1) && wat G.T0 v (.instanceMethod (G.M c).1) && wat G.T0 u (.selects (clN G.cl ci).1 (G.M c).1 (G.M c).1)
      | _ => false)
    | w :: sm :: ix :: xm :: ws => decide (xm < G.nM) && decide ((parseMethodDescriptor (G.M xm).1.desc).map (fun d => d.parameters.length) = some o.2.1) && wat G.T0 w (.methodLink own k (G.M xm).1) && wat G.T0 sm (.sameMethod (G.M xm).1.cls (G.M xm).1.cls (G.M xm).1.name (G.M xm).1.desc) && wat G.T0 ix (.instanceMethod (G.M xm).1) && polyOk G xm o.2.1 o.2.2.1 o.2.2.2.1 ws
    | _ => false)
  | .invokespecial k => d && fall && decide (len = 3) && (match o.2.2.2.1, o.2.2.2.2 with
    | [(ks, c, mL)], w :: v :: ws => cleOk G c mL o.2.1 o.2.2.1 && wat G.T0 v (.instanceMethod (G.M c).1) && (match ks with
      | 0 => decide ((G.M c).1.name = "<init>") && decide ((G.M c).2.2.2.1 = none) && wat G.T0 w (.methodLink own k (G.M c).1)
      | 1 => decide ((G.M c).1.name = "<init>") && decide ((G.M c).2.2.2.1 = none) && xat G.xw w (.methodLinkNest own k (G.M c).1 "LetterChute")
      | _ => (match ws with | [a, b] => decide (¬ (G.M c).1.name = "<init>") && wat G.T0 w (.methodLink own k (G.M c).1) && wat G.T0 a (.sameMethod (G.M c).1.cls (G.M c).1.cls (G.M c).1.name (G.M c).1.desc) && wat G.T0 b (.superclass own (G.M c).1.cls) | _ => false))
    | [], w :: v :: u :: _ => decide (o.2.1 = 0) && wat G.T0 w (.methodLink own k Lib.objectInit) && wat G.T0 v (.instanceMethod Lib.objectInit) && wat G.T0 u (.code Lib.objectInit ⟨#[0xb1]⟩ 1 none)
    | _, _ => false)
  | .ireturn => d && decide (len = 1) && (match (G.M mi).2.2.2.1 with | some .int => decide (o.2.1 = 0) | some .boolean => decide (o.2.1 = 1) | _ => false)
  | .lreturn => d && decide (len = 1) && decide ((G.M mi).2.2.2.1 = some .long)
  | .areturn => d && decide (len = 1) && (match (G.M mi).2.2.2.1 with | some (.object _) => true | _ => false)
  | .return_ => d && decide (len = 1) && decide ((G.M mi).2.2.2.1 = none)
  | _ => false
def okL (G : PG) (mi : Nat) : List Ins → Bool
  | [] => true
  | (pc, len, i, o) :: is => okI G mi pc len i o (nxt is) && okL G mi is
/-- a method and all its blocks -/
def okM (G : PG) (mi : Nat) : Bool := (G.M mi).2.2.2.2.all (okL G mi)
/-- of a method that may be called: its words, its first block at its first byte -/
def okC (G : PG) (mi : Nat) (q : Nat × Nat) : Bool := wat G.T0 q.1 (.code (G.M mi).1 (G.M mi).2.1 (G.M mi).2.2.1 (G.M mi).2.2.2.1) && wat G.T0 q.2 (.initialized (G.M mi).1.cls) && plainName (G.M mi).1.cls && decide ((G.M mi).1.cls ≠ "java/lang/invoke/MethodHandle") && decide ((G.M mi).1.cls ≠ "java/lang/invoke/VarHandle") && decide (bpc G.M mi 0 = 0)
theorem okM_blk {G : PG} {mi : Nat} (h : okM G mi = true) (b : Nat) : okL G mi (PB G.M mi b) = true := by
  unfold PB
  by_cases hb : b < (G.M mi).2.2.2.2.length
  · have := List.all_eq_true.mp h ((G.M mi).2.2.2.2[b]) (List.getElem_mem hb)
    rw [List.getD_eq_getElem?_getD, List.getElem?_eq_getElem hb]
    exact this
  · rw [List.getD_eq_getElem?_getD, List.getElem?_eq_none (by omega)]
    rfl
end
section
/-! the abstract heap only grows -/
def Gr (h h' : AH) : Prop := h.1 ≤ h'.1 ∧ h.2.1 ≤ h'.2.1
theorem Gr.rf {h : AH} : Gr h h := ⟨Nat.le_refl _, Nat.le_refl _⟩
theorem Gr.tr {a b c : AH} (h1 : Gr a b) (h2 : Gr b c) : Gr a c := ⟨Nat.le_trans h1.1 h2.1, Nat.le_trans h1.2 h2.2⟩
theorem Gr.set {h : AH} {p : Nat} {c : va_E} : Gr h (hset h p c) := ⟨Nat.le_refl _, Nat.le_refl _⟩
theorem Gr.push {h : AH} {c : va_E} {n : Nat} : Gr h (hpush h c n) := ⟨Nat.le_succ _, Nat.le_add_right _ _⟩
theorem pV_set {h h' : AH} {p ci k : Nat} {v : Value} (e : pV h p ci k v = some h') : ∃ fs, hcell h p = some (.inr (ci, fs)) ∧ k < fs.length ∧ h' = hset h p (.inr (ci, fs.set k v)) := by
  unfold pV at e
  split at e
  · next c fs hc =>
    split at e
    · next hk =>
      obtain ⟨rfl, hk⟩ := hk
      cases e
      exact ⟨fs, hc, hk, rfl⟩
    · cases e
  · cases e
theorem sI_set {h h' : AH} {p : Nat} {i x : Int32} (e : sI h p i x = some h') : ∃ n f, hcell h p = some (.inl (0, n, .inl f)) ∧ vp_in i n ∧ h' = hset h p (.inl (0, n, .inl (upd f i.toNatClampNeg x))) := by
  unfold sI at e
  split at e
  · next t n f hc =>
    split at e
    · next ht =>
      subst ht
      split at e
      · cases e
      · next hi => cases e; exact ⟨n, f, hc, hi, rfl⟩
    · cases e
  · cases e
theorem aI_get {h : AH} {p : Nat} {i x : Int32} (e : aI h p i = some x) : ∃ n f, hcell h p = some (.inl (0, n, .inl f)) ∧ vp_in i n ∧ x = f i.toNatClampNeg := by
  unfold aI at e
  split at e
  · next t n f hc =>
    split at e
    · next ht =>
      subst ht
      split at e
      · cases e
      · next hi => cases e; exact ⟨n, f, hc, hi, rfl⟩
    · cases e
  · cases e
theorem aR_get {h : AH} {p t : Nat} {i : Int32} {x : Nat} (e : aR h p t i = some x) : ∃ n f, hcell h p = some (.inl (t, n, .inr (.inr (.inr (.inr f))))) ∧ vp_in i n ∧ f i.toNatClampNeg = some x := by
  unfold aR at e
  split at e
  · next t' n f hc =>
    split at e
    · next ht =>
      subst ht
      split at e
      · cases e
      · next hi => exact ⟨n, f, hc, hi, e⟩
    · cases e
  · cases e
theorem sR_set {h h' : AH} {p q : Nat} {i : Int32} (e : sR h p i q = some h') : ∃ t n f, hcell h p = some (.inl (t, n, .inr (.inr (.inr (.inr f))))) ∧ vp_in i n ∧ h' = hset h p (.inl (t, n, .inr (.inr (.inr (.inr (va_up f i.toNatClampNeg (some q))))))) := by
  unfold sR at e
  split at e
  · next t n f hc =>
    split at e
    · cases e
    · next hi => cases e; exact ⟨t, n, f, hc, hi, rfl⟩
  · cases e
theorem gI_get {h : AH} {p ci k : Nat} {x : Int32} (e : gI h p ci k = some x) : ∃ fs, hcell h p = some (.inr (ci, fs)) ∧ fs[k]? = some (.int x) := by
  unfold gI at e
  split at e
  · next c fs hc =>
    split at e
    · next ht =>
      subst ht
      split at e
      · next y hk => cases e; exact ⟨fs, hc, hk⟩
      · cases e
    · cases e
  · cases e
theorem gR_get {h : AH} {p ci k : Nat} {x : Nat} (e : gR h p ci k = some x) : ∃ fs, hcell h p = some (.inr (ci, fs)) ∧ fs[k]? = some (.ref x) := by
  unfold gR at e
  split at e
  · next c fs hc =>
    split at e
    · next ht =>
      subst ht
      split at e
      · next y hk => cases e; exact ⟨fs, hc, hk⟩
      · cases e
    · cases e
  · cases e
theorem cpA_set {h h' : AH} {s d : Nat} {sp dp n : Int32} (e : cpA h s sp d dp n = some h') : ∃ n0 f n1 g, hcell h s = some (.inl (0, n0, .inl f)) ∧ hcell h d = some (.inl (0, n1, .inl g)) ∧ ¬ sp < 0 ∧ ¬ dp < 0 ∧ ¬ n < 0 ∧ sp.toNatClampNeg + n.toNatClampNeg ≤ n0 ∧ dp.toNatClampNeg + n.toNatClampNeg ≤ n1 ∧ h' = hset h d (.inl (0, n1, .inl (va_cpy f g sp.toNatClampNeg dp.toNatClampNeg n.toNatClampNeg))) := by
  unfold cpA at e
  split at e
  · next t0 n0 f hs =>
    split at e
    · next t1 n1 g hd =>
      split at e
      · next hk =>
        obtain ⟨rfl, rfl, a1, a2, a3, a4, a5⟩ := hk
        cases e
        exact ⟨n0, f, n1, g, hs, hd, a1, a2, a3, a4, a5, rfl⟩
      · cases e
    · cases e
  · cases e
theorem clsOf_get {h : AH} {p c : Nat} (e : clsOf h p = some c) : ∃ fs, hcell h p = some (.inr (c, fs)) := by
  unfold clsOf at e
  split at e
  · next c fs hc => cases e; exact ⟨fs, hc⟩
  · cases e
theorem pV_gr {h h' : AH} {p ci k : Nat} {v : Value} (e : pV h p ci k v = some h') : Gr h h' := by
  obtain ⟨fs, -, -, rfl⟩ := pV_set e
  exact Gr.set
theorem sI_gr {h h' : AH} {p : Nat} {i x : Int32} (e : sI h p i x = some h') : Gr h h' := by
  obtain ⟨n, f, -, -, rfl⟩ := sI_set e
  exact Gr.set
theorem sR_gr {h h' : AH} {p q : Nat} {i : Int32} (e : sR h p i q = some h') : Gr h h' := by
  obtain ⟨t, n, f, -, -, rfl⟩ := sR_set e
  exact Gr.set
theorem cpA_gr {h h' : AH} {s d : Nat} {sp dp n : Int32} (e : cpA h s sp d dp n = some h') : Gr h h' := by
  obtain ⟨n0, f, n1, g, -, -, -, -, -, -, -, rfl⟩ := cpA_set e
  exact Gr.set
theorem oB_inv {α : Type} {o : Option α} {F : α → Option Res} {x : Res} (hx : oB o F = some x) : ∃ a, o = some a ∧ F a = some x := by
  cases o with
  | none => cases hx
  | some a => exact ⟨a, rfl, hx⟩
theorem vdis_inv {L : List (Nat × Nat × Nat)} {c : Option Nat} {F : Nat → Nat → Option Res} {x : Res} (hx : vdis L c F = some x) : ∃ ci q, c = some ci ∧ look L ci = some q ∧ F q.1 q.2 = some x := by
  induction L with
  | nil => cases hx
  | cons q r ih =>
    unfold vdis at hx
    split at hx
    · next e => exact ⟨q.1, q.2, e, by unfold look; rw [if_pos rfl], hx⟩
    · next e =>
      obtain ⟨ci, q', h1, h2, h3⟩ := ih hx
      refine ⟨ci, q', h1, ?_, h3⟩
      unfold look
      rw [if_neg (fun e' => e (by rw [h1, e']))]
      exact h2
theorem intr_gr {o : Nat} {st : List Value} {h : AH} {F : List Value → AH → Option Res} {x : Res} (hF : ∀ st h1, F st h1 = some x → Gr h1 x.2) (hx : intr o st h F = some x) : Gr h x.2 := by
  unfold intr at hx
  split at hx
  all_goals (repeat' split at hx)
  all_goals first
    | (cases hx; done)
    | exact hF _ _ hx
    | (obtain ⟨h', hc, hx⟩ := oB_inv hx; exact (cpA_gr hc).tr (hF _ _ hx))
theorem retK_gr {k : Nat} {o : Option Res} {r : List Value} {F : List Value → AH → Option Res} {x : Res} {h : AH} (ho : ∀ y, o = some y → Gr h y.2) (hF : ∀ st h1, F st h1 = some x → Gr h1 x.2) (hx : retK k o r F = some x) : Gr h x.2 := by
  unfold retK at hx
  split at hx
  · unfold cV at hx
    split at hx
    · exact (ho _ rfl).tr (hF _ _ hx)
    · cases hx
  · unfold cI at hx
    split at hx
    · exact (ho _ rfl).tr (hF _ _ hx)
    · cases hx
  · unfold cL at hx
    split at hx
    · exact (ho _ rfl).tr (hF _ _ hx)
    · cases hx
  · unfold cR at hx
    split at hx
    · exact (ho _ rfl).tr (hF _ _ hx)
    · cases hx
theorem icc_gr {c : Jvm.ClassFile.Cond} {x y : Int32} {A B : Option Res} {z : Res} {P : Prop} (hA : A = some z → P) (hB : B = some z → P) (h : icc c x y A B = some z) : P := by
  revert h
  unfold icc
  cases c <;> dsimp only <;> split <;> (first | exact hA | exact hB)
theorem swk_gr {x : Int} {L : List (Nat × Nat × Nat)} {K : Nat → Nat → Option Res} {a b : Nat} {z : Res} {P : Prop} (hK : ∀ p q, K p q = some z → P) (h : swk x L K a b = some z) : P := by
  induction L with
  | nil => exact hK _ _ h
  | cons q r ih =>
    obtain ⟨k, b1, m⟩ := q
    revert h
    unfold swk
    split
    · exact hK _ _
    · exact ih
theorem hst_gr {sc : Nat × (Nat → Int32)} {z : Bool} {i : Instr} {o : Opd} {st : List Value} {h : AH} {F : List Value → AH → Option Res} {x : Res} (hF : ∀ st h1, F st h1 = some x → Gr h1 x.2) (hx : hst sc z i o st h F = some x) : Gr h x.2 := by
  unfold hst at hx
  split at hx
  all_goals (repeat' split at hx)
  all_goals first
    | (cases hx; done)
    | exact hF _ _ hx
    | exact Gr.tr Gr.push (hF _ _ hx)
    | (obtain ⟨h', hc, hx⟩ := oB_inv hx; exact hF _ _ hx)
    | (obtain ⟨h', hc, hx⟩ := oB_inv hx; exact (pV_gr hc).tr (hF _ _ hx))
    | (obtain ⟨h', hc, hx⟩ := oB_inv hx; exact (sI_gr hc).tr (hF _ _ hx))
    | (obtain ⟨_, _, hx⟩ := oB_inv hx; obtain ⟨_, _, hx⟩ := oB_inv hx; obtain ⟨h', hc, hx⟩ := oB_inv hx; exact (sR_gr hc).tr (hF _ _ hx))
    | (obtain ⟨_, _, _, _, hx⟩ := vdis_inv hx; exact hF _ _ hx)
    | exact Gr.tr ⟨by unfold newM; dsimp only; omega, by unfold newM; dsimp only; omega⟩ (hF _ _ hx)
theorem callE_gr {C : Nat → List Value → AH → Option Res} (hC : ∀ c as h x, C c as h = some x → Gr h x.2) {c mL : Nat} {as : List Value} {h : AH} (x : Res) (hx : callE C c mL as h = some x) : Gr h x.2 := by
  revert hx
  unfold callE
  split
  · exact hC _ _ _ _
  · exact fun hx => by cases hx
theorem runL_gr {sc : Nat × (Nat → Int32)} {z : Bool} {C : Nat → List Value → AH → Option Res} {K : Nat → List Value → List Value → AH → Option Res} (hC : ∀ c as h x, C c as h = some x → Gr h x.2) (hK : ∀ b ls st h x, K b ls st h = some x → Gr h x.2) :
    ∀ (is : List Ins) (ls st : List Value) (h : AH) (x : Res), runL sc z C K is ls st h = some x → Gr h x.2 := by
  intro is
  induction is with
  | nil => intro ls st h x hx; cases hx
  | cons a is ih =>
    obtain ⟨pc, len, i, o⟩ := a
    intro ls st h x hx
    unfold runL at hx
    split at hx
    all_goals (repeat' split at hx)
    all_goals first
      | (cases hx; done)
      | exact hK _ _ _ _ _ hx
      | exact ih _ _ _ _ hx
      | exact icc_gr (hK _ _ _ _ _) (ih _ _ _ _) hx
      | exact swk_gr (fun _ _ => hK _ _ _ _ _) hx
      | exact hst_gr (fun _ _ => ih _ _ _ _) hx
      | exact retK_gr (callE_gr hC) (fun _ _ => ih _ _ _ _) hx
      | exact intr_gr (fun _ _ => ih _ _ _ _) hx
      | (obtain ⟨_, _, _, _, hx⟩ := vdis_inv hx; exact retK_gr (callE_gr hC) (fun _ _ => ih _ _ _ _) hx)
      | (obtain ⟨_, _, hx⟩ := oB_inv hx; exact retK_gr (callE_gr hC) (fun _ _ => ih _ _ _ _) hx)
      | (cases hx; exact Gr.rf)
theorem exec_gr (P : Nat → Nat → List Ins) (sc : Nat × (Nat → Int32)) : ∀ (n d m b : Nat) (ls st : List Value) (h : AH) (x : Res), exec P sc n d m b ls st h = some x → Gr h x.2 := by
  intro n
  induction n with
  | zero => intro d m b ls st h x hx; cases hx
  | succ n ih =>
    intro d m b ls st h x hx
    refine runL_gr ?_ ?_ _ _ _ _ _ hx
    · intro c as h x hx
      cases d with
      | zero => cases hx
      | succ d => exact ih _ _ _ _ _ _ _ hx
    · intro b ls st h x hx
      exact ih _ _ _ _ _ _ _ hx
end
section
/-! the machine does what the abstract one says: locals and stack -/
/-- the words that go along -/
def TS (G : PG) : List Cond := G.T0.filter goodWord
/-- what is known of the state: classes, nest words, pairs that don't cast -/
def KS (G : PG) (D : va_G) (tys : List (ClassId × FieldType)) (U : State) : Prop := va_K D G.cl tys U ∧ (∀ w ∈ G.xw, va_Nw w U) ∧ (∀ q ∈ G.nc, va_Nc q.1 q.2 U)
/-- a method's frame: the machine, its code, the tables' words, the state at its start -/
def FC (G : PG) (D : va_G) (tys : List (ClassId × FieldType)) (b bs : Nat) (sc : Nat × (Nat → Int32)) (mi : Nat) (p : Program) (s : State) (m : MethodId) (args : Array Value) (meth : Method) (c : Code) (h0 : AH) : Prop :=
  p.tables.exec = Jvm.exec ∧ c.code = (G.M mi).2.1 ∧ c.maxLocals = (G.M mi).2.2.1 ∧ meth.sig.returnType = (G.M mi).2.2.2.1 ∧ s.vm.findClass (G.M mi).1.cls = some m.cls ∧ (∀ w ∈ TS G, w.before args s = true) ∧ ((G.M mi).1.name = "<init>" → meth.name = "<init>") ∧ meth.locks = false ∧ KS G D tys s ∧ va_X bs sc.1 sc.2 s s.heap ∧ bs < b ∧ s.heap.size = b + h0.1
section Pure
variable {G : PG} {D : va_G} {tys : List (ClassId × FieldType)} {b bs : Nat} {sc : Nat × (Nat → Int32)} {mi : Nat} {h0 : AH}
variable {p : Program} {l : Launch} {e : Env} {R : Room} {s : State} {m : MethodId} {args : Array Value} {below : List Frame} {meth : Method} {c : Code} {H : Heap} {locs : List Loc} {cells slots : Nat} {Q : State → Prop}
set_option maxHeartbeats 4000000 in
theorem pst_sound (hF : FC G D tys b bs sc mi p s m args meth c h0) {pc len nx : Nat} {i : Instr} {o : Opd} {ls st ls' st' : List Value} {lr : Array Slot} (hok : okI G mi pc len i o nx = true) (hp : pst i o ls st = some (ls', st')) (hL : LR b bs (G.M mi).2.2.1 ls lr)
    (kk : ∀ lr', LR b bs (G.M mi).2.2.1 ls' lr' → W p l e R s m args below meth c H locs cells slots Q (F0 m nx lr' (st'.map (vmv b bs)))) : W p l e R s m args below meth c H locs cells slots Q (F0 m pc lr (st.map (vmv b bs))) := by
  obtain ⟨hx, hb, hml, hr, hown, hts, hnm, hlk, hK, hX, hbs, hsz⟩ := hF
  cases i
  case iconst n =>
    simp only [okI, dcd, Bool.and_eq_true, decide_eq_true_eq] at hok
    obtain ⟨⟨⟨hd, rfl⟩, rfl⟩, hv⟩ := hok
    cases hp
    exact lv_iconst hx hb hd rfl (by rw [hv] at kk; exact kk _ hL)
  case bipush n =>
    simp only [okI, dcd, Bool.and_eq_true, decide_eq_true_eq] at hok
    obtain ⟨⟨⟨hd, rfl⟩, rfl⟩, hv⟩ := hok
    cases hp
    exact lv_bipush hx hb hd rfl (by rw [hv] at kk; exact kk _ hL)
  case sipush n =>
    simp only [okI, dcd, Bool.and_eq_true, decide_eq_true_eq] at hok
    obtain ⟨⟨⟨hd, rfl⟩, rfl⟩, hv⟩ := hok
    cases hp
    exact lv_sipush hx hb hd rfl (by rw [hv] at kk; exact kk _ hL)
  case lconst n =>
    simp only [okI, dcd, Bool.and_eq_true, decide_eq_true_eq] at hok
    obtain ⟨⟨⟨hd, rfl⟩, rfl⟩, hv⟩ := hok
    cases hp
    exact lv_lconst hx hb hd rfl (by rw [hv] at kk; exact kk _ hL)
  case ldc n =>
    simp only [okI, dcd, Bool.and_eq_true, decide_eq_true_eq] at hok
    obtain ⟨⟨⟨hd, rfl⟩, rfl⟩, hw⟩ := hok
    cases hp
    split at hw
    · next v w _ hv _ => exact lv_ldc hx hb hown (hts _ (wat_spec hw)) hd (by rw [hv] at kk; exact kk _ hL)
    · cases hw
  case ldc_w n =>
    simp only [okI, dcd, Bool.and_eq_true, decide_eq_true_eq] at hok
    obtain ⟨⟨⟨hd, rfl⟩, rfl⟩, hw⟩ := hok
    cases hp
    split at hw
    · next v w _ hv _ => exact lv_ldcw hx hb hown (hts _ (wat_spec hw)) hd (by rw [hv] at kk; exact kk _ hL)
    · cases hw
  case ldc2_w n =>
    simp only [okI, dcd, Bool.and_eq_true, decide_eq_true_eq] at hok
    obtain ⟨⟨⟨hd, rfl⟩, rfl⟩, hw⟩ := hok
    cases hp
    split at hw
    · next v w _ hv _ => exact lv_ldc2 hx hb hown (hts _ (wat_spec hw)) hd (by rw [hv] at kk; exact kk _ hL)
    · cases hw
  case iload_n n =>
    simp only [okI, dcd, Bool.and_eq_true, decide_eq_true_eq] at hok
    obtain ⟨⟨⟨hd, rfl⟩, rfl⟩, hv⟩ := hok
    simp only [pst] at hp
    split at hp
    · next x hx1 => cases hp; exact lv_iload_n hx hb hd hv (hL.at hx1 rfl) (kk _ hL)
    · cases hp
  case iload n =>
    simp only [okI, dcd, Bool.and_eq_true, decide_eq_true_eq] at hok
    obtain ⟨⟨⟨hd, rfl⟩, rfl⟩, hv⟩ := hok
    simp only [pst] at hp
    split at hp
    · next x hx1 => cases hp; exact lv_iload hx hb hd (by rw [hv]; exact hL.at hx1 rfl) (kk _ hL)
    · cases hp
  case lload_n n =>
    simp only [okI, dcd, Bool.and_eq_true, decide_eq_true_eq] at hok
    obtain ⟨⟨⟨hd, rfl⟩, rfl⟩, hv⟩ := hok
    simp only [pst] at hp
    split at hp
    · next x hx1 => cases hp; exact lv_lload_n hx hb hd hv (hL.at hx1 rfl) (kk _ hL)
    · cases hp
  case lload n =>
    simp only [okI, dcd, Bool.and_eq_true, decide_eq_true_eq] at hok
    obtain ⟨⟨⟨hd, rfl⟩, rfl⟩, hv⟩ := hok
    simp only [pst] at hp
    split at hp
    · next x hx1 => cases hp; exact lv_lload hx hb hd (by rw [hv]; exact hL.at hx1 rfl) (kk _ hL)
    · cases hp
  case aload_n n =>
    simp only [okI, dcd, Bool.and_eq_true, decide_eq_true_eq] at hok
    obtain ⟨⟨⟨hd, rfl⟩, rfl⟩, hv⟩ := hok
    simp only [pst] at hp
    split at hp
    · next x hx1 => cases hp; exact lv_aload_n hx hb hd hv (hL.at hx1 rfl) (kk _ hL)
    · next x hx1 => cases hp; exact lv_aload_n hx hb hd hv (hL.at hx1 rfl) (kk _ hL)
    · cases hp
  case aload n =>
    simp only [okI, dcd, Bool.and_eq_true, decide_eq_true_eq] at hok
    obtain ⟨⟨⟨hd, rfl⟩, rfl⟩, hv⟩ := hok
    simp only [pst] at hp
    split at hp
    · next x hx1 => cases hp; exact lv_aload hx hb hd (by rw [hv]; exact hL.at hx1 rfl) (kk _ hL)
    · next x hx1 => cases hp; exact lv_aload hx hb hd (by rw [hv]; exact hL.at hx1 rfl) (kk _ hL)
    · cases hp
  case istore_n n =>
    simp only [okI, dcd, Bool.and_eq_true, decide_eq_true_eq] at hok
    obtain ⟨⟨⟨hd, rfl⟩, rfl⟩, hv⟩ := hok
    simp only [pst] at hp
    split at hp
    · split at hp
      · next hs => cases hp; exact lv_istore_n hx hb hd hv hL.2 (by rw [← hL.1]; exact (st1_len hs).1) rfl (fun lr' h' => kk lr' (hL.st1 hs h'))
      · cases hp
    · cases hp
  case istore n =>
    simp only [okI, dcd, Bool.and_eq_true, decide_eq_true_eq] at hok
    obtain ⟨⟨⟨hd, rfl⟩, rfl⟩, hv⟩ := hok
    subst hv
    simp only [pst] at hp
    split at hp
    · split at hp
      · next hs => cases hp; exact lv_istore hx hb hd hL.2 (by rw [← hL.1]; exact (st1_len hs).1) rfl (fun lr' h' => kk lr' (hL.st1 hs h'))
      · cases hp
    · cases hp
  case astore_n n =>
    simp only [okI, dcd, Bool.and_eq_true, decide_eq_true_eq] at hok
    obtain ⟨⟨⟨hd, rfl⟩, rfl⟩, hv⟩ := hok
    simp only [pst] at hp
    split at hp
    · split at hp
      · next hs => cases hp; exact lv_astore_n hx hb hd hv hL.2 (by rw [← hL.1]; exact (st1_len hs).1) rfl (fun lr' h' => kk lr' (hL.st1 hs h'))
      · cases hp
    · cases hp
  case astore n =>
    simp only [okI, dcd, Bool.and_eq_true, decide_eq_true_eq] at hok
    obtain ⟨⟨⟨hd, rfl⟩, rfl⟩, hv⟩ := hok
    subst hv
    simp only [pst] at hp
    split at hp
    · split at hp
      · next hs => cases hp; exact lv_astore hx hb hd hL.2 (by rw [← hL.1]; exact (st1_len hs).1) rfl (fun lr' h' => kk lr' (hL.st1 hs h'))
      · cases hp
    · cases hp
  case lstore_n n =>
    simp only [okI, dcd, Bool.and_eq_true, decide_eq_true_eq] at hok
    obtain ⟨⟨⟨hd, rfl⟩, rfl⟩, hv⟩ := hok
    simp only [pst] at hp
    split at hp
    · split at hp
      · next hs => cases hp; exact lv_lstore_n hx hb hd hv hL.2 (by rw [← hL.1]; exact (st2_len hs).1) rfl (fun lr' h' => kk lr' (hL.st2 hs h'))
      · cases hp
    · cases hp
  case lstore n =>
    simp only [okI, dcd, Bool.and_eq_true, decide_eq_true_eq] at hok
    obtain ⟨⟨⟨hd, rfl⟩, rfl⟩, hv⟩ := hok
    subst hv
    simp only [pst] at hp
    split at hp
    · split at hp
      · next hs => cases hp; exact lv_lstore hx hb hd hL.2 (by rw [← hL.1]; exact (st2_len hs).1) rfl (fun lr' h' => kk lr' (hL.st2 hs h'))
      · cases hp
    · cases hp
  case iinc k n =>
    simp only [okI, dcd, Bool.and_eq_true, decide_eq_true_eq] at hok
    obtain ⟨⟨⟨⟨hd, rfl⟩, rfl⟩, hv⟩, ho⟩ := hok
    subst hv
    simp only [pst] at hp
    split at hp
    · next x hx1 =>
      rw [ho] at hp
      dsimp only at hp
      split at hp
      · next hs =>
        cases hp
        obtain ⟨q, hq⟩ := List.getElem?_of_mem (prs_mem.mpr ⟨_, hx1, rfl, rfl⟩ : (o.2.1, vmv b bs (.int x)) ∈ prs b bs ls)
        exact lv_iinc hx hb hd hL.2 hq rfl (by rw [← hL.1]; exact (st1_len hs).1) rfl (fun lr' h' => kk lr' (hL.st1 hs h'))
      · cases hp
    · cases hp
  case iadd =>
    simp only [okI, dcd, Bool.and_eq_true, decide_eq_true_eq] at hok
    obtain ⟨⟨hd, rfl⟩, rfl⟩ := hok
    simp only [pst] at hp
    split at hp
    · cases hp; exact lv_iadd hx hb hd (kk _ hL)
    · cases hp
  case isub =>
    simp only [okI, dcd, Bool.and_eq_true, decide_eq_true_eq] at hok
    obtain ⟨⟨hd, rfl⟩, rfl⟩ := hok
    simp only [pst] at hp
    split at hp
    · cases hp; exact lv_isub hx hb hd (kk _ hL)
    · cases hp
  case imul =>
    simp only [okI, dcd, Bool.and_eq_true, decide_eq_true_eq] at hok
    obtain ⟨⟨hd, rfl⟩, rfl⟩ := hok
    simp only [pst] at hp
    split at hp
    · cases hp; exact lv_imul hx hb hd (kk _ hL)
    · cases hp
  case iand =>
    simp only [okI, dcd, Bool.and_eq_true, decide_eq_true_eq] at hok
    obtain ⟨⟨hd, rfl⟩, rfl⟩ := hok
    simp only [pst] at hp
    split at hp
    · cases hp; exact lv_iand hx hb hd (kk _ hL)
    · cases hp
  case ior =>
    simp only [okI, dcd, Bool.and_eq_true, decide_eq_true_eq] at hok
    obtain ⟨⟨hd, rfl⟩, rfl⟩ := hok
    simp only [pst] at hp
    split at hp
    · cases hp; exact lv_ior hx hb hd (kk _ hL)
    · cases hp
  case ixor =>
    simp only [okI, dcd, Bool.and_eq_true, decide_eq_true_eq] at hok
    obtain ⟨⟨hd, rfl⟩, rfl⟩ := hok
    simp only [pst] at hp
    split at hp
    · cases hp; exact lv_ixor hx hb hd (kk _ hL)
    · cases hp
  case ineg =>
    simp only [okI, dcd, Bool.and_eq_true, decide_eq_true_eq] at hok
    obtain ⟨⟨hd, rfl⟩, rfl⟩ := hok
    simp only [pst] at hp
    split at hp
    · cases hp; exact lv_ineg hx hb hd (kk _ hL)
    · cases hp
  case ishl =>
    simp only [okI, dcd, Bool.and_eq_true, decide_eq_true_eq] at hok
    obtain ⟨⟨hd, rfl⟩, rfl⟩ := hok
    simp only [pst] at hp
    split at hp
    · cases hp; exact lv_ishl hx hb hd (kk _ hL)
    · cases hp
  case ishr =>
    simp only [okI, dcd, Bool.and_eq_true, decide_eq_true_eq] at hok
    obtain ⟨⟨hd, rfl⟩, rfl⟩ := hok
    simp only [pst] at hp
    split at hp
    · cases hp; exact lv_ishr hx hb hd (kk _ hL)
    · cases hp
  case iushr =>
    simp only [okI, dcd, Bool.and_eq_true, decide_eq_true_eq] at hok
    obtain ⟨⟨hd, rfl⟩, rfl⟩ := hok
    simp only [pst] at hp
    split at hp
    · cases hp; exact lv_iushr hx hb hd rfl (kk _ hL)
    · cases hp
  case i2l =>
    simp only [okI, dcd, Bool.and_eq_true, decide_eq_true_eq] at hok
    obtain ⟨⟨hd, rfl⟩, rfl⟩ := hok
    simp only [pst] at hp
    split at hp
    · cases hp; exact lv_i2l hx hb hd rfl (kk _ hL)
    · cases hp
  case l2i =>
    simp only [okI, dcd, Bool.and_eq_true, decide_eq_true_eq] at hok
    obtain ⟨⟨hd, rfl⟩, rfl⟩ := hok
    simp only [pst] at hp
    split at hp
    · cases hp; exact lv_l2i hx hb hd rfl (kk _ hL)
    · cases hp
  case i2b =>
    simp only [okI, dcd, Bool.and_eq_true, decide_eq_true_eq] at hok
    obtain ⟨⟨hd, rfl⟩, rfl⟩ := hok
    simp only [pst] at hp
    split at hp
    · cases hp; exact lv_i2b hx hb hd rfl (kk _ hL)
    · cases hp
  case i2s =>
    simp only [okI, dcd, Bool.and_eq_true, decide_eq_true_eq] at hok
    obtain ⟨⟨hd, rfl⟩, rfl⟩ := hok
    simp only [pst] at hp
    split at hp
    · cases hp; exact lv_i2s hx hb hd rfl (kk _ hL)
    · cases hp
  case ladd =>
    simp only [okI, dcd, Bool.and_eq_true, decide_eq_true_eq] at hok
    obtain ⟨⟨hd, rfl⟩, rfl⟩ := hok
    simp only [pst] at hp
    split at hp
    · cases hp; exact lv_ladd hx hb hd (kk _ hL)
    · cases hp
  case lmul =>
    simp only [okI, dcd, Bool.and_eq_true, decide_eq_true_eq] at hok
    obtain ⟨⟨hd, rfl⟩, rfl⟩ := hok
    simp only [pst] at hp
    split at hp
    · cases hp; exact lv_lmul hx hb hd (kk _ hL)
    · cases hp
  case lcmp =>
    simp only [okI, dcd, Bool.and_eq_true, decide_eq_true_eq] at hok
    obtain ⟨⟨hd, rfl⟩, rfl⟩ := hok
    simp only [pst] at hp
    split at hp
    · cases hp; exact W.lcmp hx hb hd (kk _ hL)
    · cases hp
  case dup =>
    simp only [okI, dcd, Bool.and_eq_true, decide_eq_true_eq] at hok
    obtain ⟨⟨hd, rfl⟩, rfl⟩ := hok
    simp only [pst] at hp
    split at hp
    · split at hp
      · next hv => cases hp; exact lv_dup hx hb hd (by rw [vmv_cat]; exact hv) (kk _ hL)
      · cases hp
    · cases hp
  case dup2 =>
    simp only [okI, dcd, Bool.and_eq_true, decide_eq_true_eq] at hok
    obtain ⟨⟨hd, rfl⟩, rfl⟩ := hok
    simp only [pst] at hp
    split at hp
    · split at hp
      · next hv => cases hp; exact lv_dup2_11 hx hb hd (by rw [vmv_cat]; exact hv.1) (by rw [vmv_cat]; exact hv.2) (kk _ hL)
      · cases hp
    · cases hp
  all_goals (exact absurd hp (by simp [pst]))
end Pure
end
section
/-! the machine does what the abstract one says: the heap -/
def cAt (tys : List (ClassId × FieldType)) (t : Nat) : ClassId := (tys.getD t (0, .int)).1
/-- what is decided of the program once -/
def GOK (G : PG) (tys : List (ClassId × FieldType)) : Prop :=
  (∀ ci, ci < G.cl.length → (∀ w ∈ u_ws (clN G.cl ci).1 (clN G.cl ci).2.1 (clN G.cl ci).2.2, w ∈ TS G) ∧ (∀ k, k < (clN G.cl ci).2.2 → parseFieldDescriptor ((clN G.cl ci).2.1 k).2.2.1 = some (G.ty0 ci k)) ∧ (∀ a, a < (clN G.cl ci).2.2 → ∀ b, b < (clN G.cl ci).2.2 → a ≠ b → ((clN G.cl ci).2.1 a).2.1 ≠ ((clN G.cl ci).2.1 b).2.1)) ∧
  tys.map (fun q => q.2) = G.tyL ∧ G.tyL[0]? = some .int ∧ G.tyL[3]? = some (.array .int)
theorem clN_at {cl : List vw_C} {ci : Nat} (h : ci < cl.length) : cl[ci]? = some ((clN cl ci).1, (clN cl ci).2.1, (clN cl ci).2.2) := by
  unfold clN
  rw [List.getD_eq_getElem?_getD, List.getElem?_eq_getElem h]
  rfl
theorem tys_at {G : PG} {tys : List (ClassId × FieldType)} (h : tys.map (fun q => q.2) = G.tyL) {t : Nat} {ty : FieldType} (ht : G.tyL[t]? = some ty) : tys[t]? = some (cAt tys t, ty) := by
  rw [← h, List.getElem?_map] at ht
  cases hq : tys[t]? with
  | none => rw [hq] at ht; cases ht
  | some q =>
    rw [hq] at ht
    cases ht
    unfold cAt
    rw [List.getD_eq_getElem?_getD, hq]
    rfl
/-- the heap of the machine against the abstract one; cells and slots made since the method began -/
def SR (G : PG) (D : va_G) (tys : List (ClassId × FieldType)) (b bs : Nat) (s : State) (h0 h : AH) (H : Heap) (locs : List Loc) (cells slots : Nat) : Prop :=
  va_P D G.cl (wld b bs (cAt tys) h) H ∧ va_S (fun q => b ≤ q) s.heap H locs ∧ cells = h.1 - h0.1 ∧ slots = h.2.1 - h0.2.1 ∧ Gr h0 h
theorem fs_map {b bs : Nat} {fs : List Value} {k : Nat} {v : Value} (h : fs[k]? = some v) : (fs.map (vmv b bs))[k]? = some (vmv b bs v) := by
  rw [List.getElem?_map, h]
  rfl
theorem look_mem {L : List (Nat × Nat × Nat)} {c : Nat} {q : Nat × Nat} (h : look L c = some q) : (c, q.1, q.2) ∈ L := by
  induction L with
  | nil => cases h
  | cons a r ih =>
    unfold look at h
    split at h
    · next e => cases h; rw [← e]; exact List.mem_cons_self
    · exact List.mem_cons_of_mem _ (ih h)
theorem dfl_map (b bs : Nat) (L : List (Nat × Nat × Nat)) : (dfl L).map (vmv b bs) = dfl L := by
  unfold dfl
  rw [List.map_map]
  apply List.map_congr_left
  intro q _
  show vmv b bs (if q.1 = 0 then .int 0 else .null) = _
  split <;> rfl
theorem casts_spec {G : PG} {k : Nat} {C E : String} (h : casts G k C E = true) : C = E ∨ Cond.castable C E ∈ G.xw := by
  unfold casts at h
  rw [Bool.or_eq_true, decide_eq_true_eq] at h
  exact h.imp id xat_spec
section HeapS
variable {G : PG} {D : va_G} {tys : List (ClassId × FieldType)} {b bs : Nat} {sc : Nat × (Nat → Int32)} {mi : Nat} {h0 : AH}
variable {p : Program} {l : Launch} {e : Env} {R : Room} {s : State} {m : MethodId} {args : Array Value} {below : List Frame} {meth : Method} {c : Code} {H : Heap} {locs : List Loc} {cells slots : Nat} {Q : State → Prop}
/-- one cell written -/
theorem SR.put {h : AH} {q : Nat} {cq : va_E} {H1 : Heap} {locs1 : List Loc} (hR : SR G D tys b bs s h0 h H locs cells slots) (hP : va_P D G.cl ((wld b bs (cAt tys) h).set q (b + q, trE b bs (cAt tys) cq)) H1) (hS : va_S (fun q => b ≤ q) s.heap H1 locs1) : SR G D tys b bs s h0 (hset h q cq) H1 locs1 cells slots := by
  rw [wld_set] at hP
  exact ⟨hP, hS, hR.2.2.1, hR.2.2.2.1, hR.2.2.2.2⟩
theorem SR.lo {h : AH} (hR : SR G D tys b bs s h0 h H locs cells slots) (hsz : s.heap.size = b + h0.1) : b + h.1 ≤ H.size := by
  have h1 : s.heap.size ≤ H.size := hR.2.1.1
  by_cases hz : h.1 = 0
  · omega
  · have hk : h.1 - 1 < h.1 := by omega
    have h2 := (hR.1 (h.1 - 1) _ (wld_get hk)).lt
    dsimp only at h2
    omega
theorem SR.size {h : AH} (hR : SR G D tys b bs s h0 h H locs cells slots) (hsz : s.heap.size = b + h0.1) (hu : H.size ≤ s.heap.size + cells) : H.size = b + h.1 := by
  have h1 := hR.lo hsz
  have h2 := hR.2.2.1
  have h3 := hR.2.2.2.2.1
  omega
/-- one cell made -/
theorem SR.push {h : AH} {cq : va_E} {n : Nat} {H1 : Heap} (hR : SR G D tys b bs s h0 h H locs cells slots) (hz : H.size = b + h.1) (hP : va_P D G.cl (wld b bs (cAt tys) h ++ [(H.size, trE b bs (cAt tys) cq)]) H1) (hS : va_S (fun q => b ≤ q) s.heap H1 locs) : SR G D tys b bs s h0 (hpush h cq n) H1 locs (cells + 1) (slots + n) := by
  rw [hz, ← wld_push (n := n)] at hP
  obtain ⟨-, -, h3, h4, h5, h6⟩ := hR
  exact ⟨hP, hS, by show cells + 1 = h.1 + 1 - h0.1; omega, by show slots + n = h.2.1 + n - h0.2.1; omega, Nat.le_succ_of_le h5, Nat.le_add_right_of_le h6⟩
set_option maxHeartbeats 4000000 in
/-- an instruction of the heap -/
theorem hst_sound (hG : GOK G tys) (hF : FC G D tys b bs sc mi p s m args meth c h0) {z : Bool} {pc len nx : Nat} {i : Instr} {o : Opd} {st : List Value} {h : AH} {lr : Array Slot} {F : List Value → AH → Option Res} {x : Res} (hok : okI G mi pc len i o nx = true) (hp : hst sc z i o st h F = some x) (hR : SR G D tys b bs s h0 h H locs cells slots) (hgr : ∀ st' h', F st' h' = some x → Gr h' x.2) (hRc : x.2.1 - h0.1 ≤ R.cells) (hRs : x.2.2.1 - h0.2.1 ≤ R.slots)
    (kk : ∀ (st' : List Value) (h' : AH) (H' : Heap) (locs' : List Loc) (cells' slots' : Nat), F st' h' = some x → SR G D tys b bs s h0 h' H' locs' cells' slots' → W p l e R s m args below meth c H' locs' cells' slots' Q (F0 m nx lr (st'.map (vmv b bs)))) : W p l e R s m args below meth c H locs cells slots Q (F0 m pc lr (st.map (vmv b bs))) := by
  obtain ⟨hx, hb, hml, hr, hown, hts, hnm, hlk, hK, hX, hbs, hsz⟩ := hF
  obtain ⟨gC, gT, g0, g3⟩ := hG
  have hP := hR.1
  have hS := hR.2.1
  have hD := wld_D (b := b) (bs := bs) (cA := cAt tys) (h := h)
  cases i
  case idiv =>
    simp only [okI, dcd, Bool.and_eq_true, decide_eq_true_eq] at hok
    obtain ⟨⟨hd, rfl⟩, rfl⟩ := hok
    simp only [hst] at hp
    split at hp
    · split at hp
      · cases hp
      · next hy => exact lv_idiv hx hb hd hy (kk _ _ _ _ _ _ hp hR)
    · cases hp
  case irem =>
    simp only [okI, dcd, Bool.and_eq_true, decide_eq_true_eq] at hok
    obtain ⟨⟨hd, rfl⟩, rfl⟩ := hok
    simp only [hst] at hp
    split at hp
    · split at hp
      · cases hp
      · next hy => exact lv_irem hx hb hd hy (kk _ _ _ _ _ _ hp hR)
    · cases hp
  case ldiv =>
    simp only [okI, dcd, Bool.and_eq_true, decide_eq_true_eq] at hok
    obtain ⟨⟨hd, rfl⟩, rfl⟩ := hok
    simp only [hst] at hp
    split at hp
    · split at hp
      · cases hp
      · next hy => exact lv_ldiv hx hb hd hy (kk _ _ _ _ _ _ hp hR)
    · cases hp
  case lrem =>
    simp only [okI, dcd, Bool.and_eq_true, decide_eq_true_eq] at hok
    obtain ⟨⟨hd, rfl⟩, rfl⟩ := hok
    simp only [hst] at hp
    split at hp
    · split at hp
      · cases hp
      · next hy => exact lv_lrem hx hb hd hy (kk _ _ _ _ _ _ hp hR)
    · cases hp
  case getfield k =>
    simp only [okI, dcd, Bool.and_eq_true, decide_eq_true_eq] at hok
    obtain ⟨⟨⟨⟨⟨hd, rfl⟩, rfl⟩, hci⟩, hkk⟩, hw⟩ := hok
    split at hw
    · next w _ =>
      have hl := hts _ (wat_spec hw)
      simp only [hst, oB] at hp
      split at hp
      · next q r =>
        split at hp
        · split at hp
          · next y hy =>
            obtain ⟨fs, hc, hf⟩ := gI_get hy
            exact va_get hx hb hts (gC _ hci).1 hown hK.1 hP q (wld_at hc) (clN_at hci) _ hkk hl (fun _ h9 => h9) (fs_map hf) hd (kk _ _ _ _ _ _ hp hR)
          · cases hp
        · split at hp
          · next y hy =>
            obtain ⟨fs, hc, hf⟩ := gR_get hy
            exact va_get hx hb hts (gC _ hci).1 hown hK.1 hP q (wld_at hc) (clN_at hci) _ hkk hl (fun _ h9 => h9) (fs_map hf) hd (kk _ _ _ _ _ _ hp hR)
          · cases hp
      · cases hp
    · cases hw
  case putfield k =>
    simp only [okI, dcd, Bool.and_eq_true, decide_eq_true_eq] at hok
    obtain ⟨⟨⟨⟨⟨⟨⟨hd, rfl⟩, rfl⟩, hci⟩, hkk⟩, hw⟩, hfin⟩, hty⟩ := hok
    split at hw
    · next w _ =>
      have hl := hts _ (wat_spec hw)
      obtain ⟨g1, g2, g3'⟩ := gC _ hci
      have key : ∀ (q : Nat) (v : Value) (h' : AH) (r : List Value) (ty : FieldType), pV h q o.2.1 o.2.2.1 v = some h' → F r h' = some x → parseFieldDescriptor ((clN G.cl o.2.1).2.1 o.2.2.1).2.2.1 = some ty → narrow ty (vmv b bs v) = vmv b bs v → fits ty (vmv b bs v) = true → W p l e R s m args below meth c H locs cells slots Q (F0 m pc lr (vmv b bs v :: .ref (b + q) :: r.map (vmv b bs))) := by
        intro q v h' r ty hpv hF' hpd hn hft
        obtain ⟨fs, hc, hlt, rfl⟩ := pV_set hpv
        have hlt' : o.2.2.1 < (fs.map (vmv b bs)).length := by rw [List.length_map]; exact hlt
        have kk' : ∀ (H1 : Heap) (locs1 : List Loc), va_P D G.cl ((wld b bs (cAt tys) h).set q (b + q, .inr (o.2.1, (fs.map (vmv b bs)).set o.2.2.1 (vmv b bs v)))) H1 → va_D (fun q => b ≤ q) ((wld b bs (cAt tys) h).set q (b + q, .inr (o.2.1, (fs.map (vmv b bs)).set o.2.2.1 (vmv b bs v)))) → va_S (fun q => b ≤ q) s.heap H1 locs1 → W p l e R s m args below meth c H1 locs1 cells slots Q (F0 m (pc + 3) lr (r.map (vmv b bs))) := by
          intro H1 locs1 hP1 _ hS1
          rw [← List.map_set] at hP1
          exact kk _ _ _ _ _ _ hF' (hR.put (cq := .inr (o.2.1, fs.set o.2.2.1 v)) hP1 hS1)
        cases hfl : ((clN G.cl o.2.1).2.1 o.2.2.1).2.2.2 with
        | false => exact va_put hx hb hts g1 _ g2 g3' hown hK.1 hP hD hS q (wld_at hc) (clN_at hci) _ hkk hl (fun _ h9 => h9) hfl hpd hn hft hlt' hd kk'
        | true =>
          rw [hfl] at hfin
          simp only [Bool.and_eq_true, decide_eq_true_eq] at hfin
          exact va_putF hx hb hts g1 _ g2 g3' hown hK.1 hP hD hS q (wld_at hc) (clN_at hci) _ hkk hl (fun _ h9 => h9) hfl (hnm hfin.1) hfin.2 hpd hn hft hlt' hd kk'
      simp only [hst, oB] at hp
      split at hp
      · next y q r =>
        split at hp
        · next v hv =>
          rw [hv] at hty
          split at hp
          · next hv1 =>
            subst hv1
            split at hp
            · next hy =>
              split at hp
              · next h' hpv =>
                split at hty
                · next e1 _ => cases e1; simp at hty
                · next e1 e2 => exact key q (.int y) h' r .boolean hpv hp e2 (by rcases hy with rfl | rfl <;> rfl) (by rcases hy with rfl | rfl <;> rfl)
                · next e1 _ => cases e1
                · next e1 _ => cases e1
                · cases hty
              · cases hp
            · cases hp
          · next hv1 =>
            split at hp
            · next h' hpv =>
              split at hty
              · next e1 e2 => exact key q (.int y) h' r .int hpv hp e2 rfl rfl
              · next e1 _ => cases e1; exact absurd (by simpa using hty) hv1
              · next e1 _ => cases e1
              · next e1 _ => cases e1
              · cases hty
            · cases hp
        · cases hp
      · next y q r =>
        split at hp
        · next hv =>
          rw [hv] at hty
          split at hp
          · next h' hpv =>
            split at hty
            · next e1 _ => cases e1
            · next e1 _ => cases e1
            · next e1 e2 => exact key q (.ref y) h' r _ hpv hp e2 rfl rfl
            · next e1 e2 => exact key q (.ref y) h' r _ hpv hp e2 rfl rfl
            · cases hty
          · cases hp
        · cases hp
      · cases hp
    · cases hw
  case iaload =>
    simp only [okI, dcd, Bool.and_eq_true, decide_eq_true_eq] at hok
    obtain ⟨⟨hd, rfl⟩, rfl⟩ := hok
    simp only [hst, oB] at hp
    split at hp
    · next i q r =>
      split at hp
      · next y hy =>
        obtain ⟨n, f, hc, hin, rfl⟩ := aI_get hy
        exact va_iald hx hb hK.1 hP q 0 (wld_at hc) (tys_at gT g0) hin hd (kk _ _ _ _ _ _ hp hR)
      · cases hp
    · next i q r =>
      split at hp
      · cases hp
      · next hin => exact va_sld hx hb hX (by omega) (by show ¬ b ≤ bs; omega) hS hin hd (kk _ _ _ _ _ _ hp hR)
    · cases hp
  case iastore =>
    simp only [okI, dcd, Bool.and_eq_true, decide_eq_true_eq] at hok
    obtain ⟨⟨hd, rfl⟩, rfl⟩ := hok
    simp only [hst, oB] at hp
    split at hp
    · next y i q r =>
      split at hp
      · next h' hy =>
        obtain ⟨n, f, hc, hin, rfl⟩ := sI_set hy
        exact va_iast hx hb hK.1 hP hD hS q 0 (wld_at hc) (tys_at gT g0) hin hd (fun H1 locs1 hP1 _ hS1 => kk _ _ _ _ _ _ hp (hR.put (cq := .inl (0, n, .inl (upd f i.toNatClampNeg y))) hP1 hS1))
      · cases hp
    · cases hp
  case aaload =>
    simp only [okI, dcd, Bool.and_eq_true, decide_eq_true_eq] at hok
    obtain ⟨⟨⟨hd, rfl⟩, rfl⟩, hty⟩ := hok
    simp only [hst, oB] at hp
    split at hp
    · next i q r =>
      split at hp
      · next y hy =>
        obtain ⟨n, f, hc, hin, hf⟩ := aR_get hy
        split at hty
        · next ty ht =>
          refine rw_aald hx hb hK.1 hP q o.2.1 (wld_at hc) (tys_at gT ht) hty hin hd ?_
          rw [hf]
          exact kk _ _ _ _ _ _ hp hR
        · cases hty
      · cases hp
    · cases hp
  case aastore =>
    simp only [okI, dcd, Bool.and_eq_true, decide_eq_true_eq] at hok
    obtain ⟨⟨⟨hd, rfl⟩, rfl⟩, hty⟩ := hok
    split at hty
    · next E hE =>
      simp only [hst, oB] at hp
      split at hp
      · next v i q r =>
        split at hp
        · next t _ hcq =>
          split at hp
          · next ht =>
            subst ht
            split at hp
            · next cv hcv =>
              split at hp
              · next qv hlook =>
                split at hp
                · next h' hs =>
                  obtain ⟨fv, hfv⟩ := clsOf_get hcv
                  have hall := List.all_eq_true.mp hty _ (look_mem hlook)
                  simp only [Bool.and_eq_true, decide_eq_true_eq] at hall
                  obtain ⟨hcl, hcs⟩ := hall
                  obtain ⟨t', n, f, hc, hin, rfl⟩ := sR_set hs
                  have ht' : t' = o.2.1 := by rw [hcq] at hc; cases hc; rfl
                  subst ht'
                  have hany : va_Any E s H (b + v) := by
                    refine va_rAny hK.1 hP (wld_at hfv) (clN_at hcl) fun comp c0 h1 h2 => ?_
                    rcases casts_spec hcs with hce | hce
                    · have hcat := (hK.1.1 _ _ (clN_at hcl)).2
                      dsimp only at hcat h2
                      have e1 : c0 = D.1 cv := Option.some.inj (h2.symm.trans hcat.1)
                      have e2 : comp = c0 := by
                        rw [hce] at h2
                        exact Option.some.inj (h1.symm.trans h2)
                      rw [e2, e1]
                      exact va_assign hcat
                    · obtain ⟨c1, t1, f1, f2, f3⟩ := Cond.castable_spec (va_Nw.use (A := args) rfl (hK.2.1 _ hce))
                      cases h2.symm.trans f1
                      cases h1.symm.trans f2
                      exact f3
                  refine va_astqM hx hb hK.1 hP hD hS q o.2.1 (wld_at hc) (tys_at gT hE) hany hin hd fun H1 locs1 hP1 _ hS1 => kk _ _ _ _ _ _ hp (hR.put (cq := .inl (o.2.1, n, .inr (.inr (.inr (.inr (va_up f i.toNatClampNeg (some v))))))) ?_ hS1)
                  have e9 : (fun i_1 => Option.map (fun x => b + x) (va_up f i.toNatClampNeg (some v) i_1)) = va_up (fun i => Option.map (fun x => b + x) (f i)) i.toNatClampNeg (some (b + v)) := by
                    funext j
                    unfold va_up
                    split <;> rfl
                  show va_P D G.cl ((wld b bs (cAt tys) h).set q (b + q, .inl (cAt tys o.2.1, n, .inr (.inr (.inr (.inr (fun i_1 => Option.map (fun x => b + x) (va_up f i.toNatClampNeg (some v) i_1)))))))) H1
                  rw [e9]
                  exact hP1
                · cases hp
              · cases hp
            · cases hp
          · cases hp
        · cases hp
      · cases hp
    · cases hty
  case arraylength =>
    simp only [okI, dcd, Bool.and_eq_true, decide_eq_true_eq] at hok
    obtain ⟨⟨hd, rfl⟩, rfl⟩ := hok
    simp only [hst, oB] at hp
    split at hp
    · exact va_slen hx hb hX (by omega) (by show ¬ b ≤ bs; omega) hS hd (kk _ _ _ _ _ _ hp hR)
    · cases hp
  case instanceof k =>
    simp only [okI, dcd, Bool.and_eq_true, decide_eq_true_eq] at hok
    obtain ⟨⟨⟨hd, rfl⟩, rfl⟩, hw⟩ := hok
    split at hw
    · next w nm _ =>
      simp only [Bool.and_eq_true, decide_eq_true_eq] at hw
      obtain ⟨⟨hnm', hlk'⟩, hall⟩ := hw
      have hl := hts _ (wat_spec hlk')
      simp only [hst, oB] at hp
      split at hp
      · next q r =>
        obtain ⟨cv, qv, hcv, hlook, hp⟩ := vdis_inv hp
        obtain ⟨fv, hfv⟩ := clsOf_get hcv
        have ha := List.all_eq_true.mp hall _ (look_mem hlook)
        simp only [Bool.and_eq_true, decide_eq_true_eq] at ha
        obtain ⟨hcl, ha⟩ := ha
        have hrec := va_recv hK.1 hP (clN_at hcl) (wld_at hfv)
        split at ha
        · next h1 =>
          rw [h1] at hp
          rcases casts_spec ha with hce | hce
          · have hcat := (hK.1.1 _ _ (clN_at hnm')).2
            dsimp only at hrec
            rw [hce] at hrec
            exact va_instS hx hb hown hl hcat hrec hd (kk _ _ _ _ _ _ hp hR)
          · exact va_instY hx hb hown hl (hK.2.1 _ hce) hrec hd (kk _ _ _ _ _ _ hp hR)
        · simp only [Bool.and_eq_true, decide_eq_true_eq] at ha
          rw [ha.1] at hp
          exact va_instNo hx hb hown hl (hK.2.2 _ (List.mem_of_getElem? ha.2)) hrec hd (kk _ _ _ _ _ _ hp hR)
      · cases hp
    · cases hw
  case new k =>
    simp only [okI, dcd, Bool.and_eq_true, decide_eq_true_eq] at hok
    obtain ⟨⟨⟨⟨⟨⟨hd, rfl⟩, rfl⟩, hci⟩, hln⟩, hw⟩, hdf⟩ := hok
    split at hw
    · next w1 w2 w3 _ _ =>
      simp only [Bool.and_eq_true] at hw
      obtain ⟨⟨hw1, hw2⟩, hw3⟩ := hw
      simp only [hst, oB] at hp
      have hg := hgr _ _ hp
      have hn1 : (newO h o.2.1 o.2.2.2.1).1 = h.1 + 1 := rfl
      have hn2 : (newO h o.2.1 o.2.2.2.1).2.1 = h.2.1 + o.2.2.2.1.length := rfl
      have hc1 := hR.2.2.1
      have hc2 := hR.2.2.2.1
      have hc3 := hR.2.2.2.2
      have q1 := hg.1
      have q2 := hg.2
      rw [hn1] at q1
      rw [hn2] at q2
      have q3 := hc3.1
      have q4 := hc3.2
      refine rw_size fun hu => ?_
      have hz := hR.size hsz hu
      refine rw_new (ci := o.2.1) (fs := dfl o.2.2.2.1) hx hb hts (gC _ hci).1 _ (gC _ hci).2.1 hown (hts _ (wat_spec hw1)) (hts _ (wat_spec hw2)) (hts _ (wat_spec hw3)) hK.1 hP hS (clN_at hci) (fun j hj => ?_) (by omega) (by rw [← hln]; omega) hd fun H1 hz1 hP1 hS1 => ?_
      · have := List.all_eq_true.mp hdf j (List.mem_range.mpr hj)
        exact of_decide_eq_true this
      · rw [← hln]
        have hP2 : va_P D G.cl (wld b bs (cAt tys) h ++ [(H.size, trE b bs (cAt tys) (.inr (o.2.1, dfl o.2.2.2.1)))]) H1 := by
          show va_P D G.cl (wld b bs (cAt tys) h ++ [(H.size, .inr (o.2.1, (dfl o.2.2.2.1).map (vmv b bs)))]) H1
          rw [dfl_map]
          exact hP1
        have := kk _ _ _ _ _ _ hp (hR.push (n := o.2.2.2.1.length) hz hP2 hS1)
        rw [hz]
        exact this
    · cases hw
  case newarray k =>
    cases k
    case int =>
      simp only [okI, dcd, Bool.and_eq_true, decide_eq_true_eq] at hok
      obtain ⟨⟨⟨hd, rfl⟩, rfl⟩, hw⟩ := hok
      split at hw
      · next w _ =>
        simp only [hst, oB] at hp
        split at hp
        · next n r =>
          split at hp
          · cases hp
          · next hn =>
            have hn0 : ¬ n < 0 := fun q => hn (Or.inl q)
            have hn1 : n.toNatClampNeg ≤ 100000 := Decidable.byContradiction fun q => hn (Or.inr q)
            have hg := hgr _ _ hp
            have q1 : h.1 + 1 ≤ x.2.1 := hg.1
            have q2 : h.2.1 + n.toNatClampNeg ≤ x.2.2.1 := hg.2
            have hc1 := hR.2.2.1
            have hc2 := hR.2.2.2.1
            have q3 := hR.2.2.2.2.1
            have q4 := hR.2.2.2.2.2
            refine rw_size fun hu => ?_
            have hz := hR.size hsz hu
            refine rw_newI hx hb (hts _ (wat_spec hw)) hP hS (hK.1.2 0 _ (tys_at gT g0)).2 hn0 (by omega) (by omega) (by omega) hd fun H1 hz1 hP1 hS1 => ?_
            have := kk _ _ _ _ _ _ hp (hR.push (cq := .inl (0, n.toNatClampNeg, .inl (fun _ => 0))) (n := n.toNatClampNeg) hz hP1 hS1)
            rw [hz]
            exact this
        · cases hp
      · cases hw
    all_goals (exact absurd hp (by simp [hst]))
  case anewarray k =>
    simp only [okI, dcd, Bool.and_eq_true, decide_eq_true_eq] at hok
    obtain ⟨⟨⟨hd, rfl⟩, rfl⟩, hw⟩ := hok
    split at hw
    · next C w y _ hC _ =>
      simp only [Bool.and_eq_true] at hw
      obtain ⟨hw1, hw2⟩ := hw
      simp only [hst, oB] at hp
      split at hp
      · next n r =>
        split at hp
        · cases hp
        · next hn =>
          have hn0 : ¬ n < 0 := fun q => hn (Or.inl q)
          have hn1 : n.toNatClampNeg ≤ 100000 := Decidable.byContradiction fun q => hn (Or.inr q)
          have hg := hgr _ _ hp
          have q1 : h.1 + 1 ≤ x.2.1 := hg.1
          have q2 : h.2.1 + n.toNatClampNeg ≤ x.2.2.1 := hg.2
          have hc1 := hR.2.2.1
          have hc2 := hR.2.2.2.1
          have q3 := hR.2.2.2.2.1
          have q4 := hR.2.2.2.2.2
          obtain ⟨kA, comp, r1, r2, r3, r4⟩ := (hK.1.2 o.2.1 _ (tys_at gT hC)).2
          refine rw_size fun hu => ?_
          have hz := hR.size hsz hu
          refine rw_newR hx hb hown (hts _ (wat_spec hw1)) (hK.2.1 _ (xat_spec hw2)) hP hS r4 hn0 (by omega) (by omega) (by omega) hd fun H1 hz1 hP1 hS1 => ?_
          have := kk _ _ _ _ _ _ hp (hR.push (cq := .inl (o.2.1, n.toNatClampNeg, .inr (.inr (.inr (.inr (fun _ => none)))))) (n := n.toNatClampNeg) hz hP1 hS1)
          rw [hz]
          exact this
      · cases hp
    · cases hw
  case multianewarray k n =>
    simp only [okI, dcd, Bool.and_eq_true, decide_eq_true_eq] at hok
    obtain ⟨⟨⟨⟨hd, rfl⟩, rfl⟩, rfl⟩, hw⟩ := hok
    split at hw
    · next w y v _ _ =>
      simp only [Bool.and_eq_true] at hw
      obtain ⟨⟨hw1, hw2⟩, hw3⟩ := hw
      simp only [hst] at hp
      split at hp
      · next kk' nn r =>
        split at hp
        · cases hp
        · next hn =>
          have hn0 : ¬ nn < 0 := fun q => hn (Or.inl q)
          have hk0 : ¬ kk' < 0 := fun q => hn (Or.inr (Or.inl q))
          have hn1 : nn.toNatClampNeg ≤ 1000 := Decidable.byContradiction fun q => hn (Or.inr (Or.inr (Or.inl q)))
          have hk1 : kk'.toNatClampNeg ≤ 1000 := Decidable.byContradiction fun q => hn (Or.inr (Or.inr (Or.inr q)))
          have hg := hgr _ _ hp
          have q1 : h.1 + 1 + nn.toNatClampNeg ≤ x.2.1 := hg.1
          have q2 : h.2.1 + (nn.toNatClampNeg + nn.toNatClampNeg * kk'.toNatClampNeg) ≤ x.2.2.1 := hg.2
          have hc1 := hR.2.2.1
          have hc2 := hR.2.2.2.1
          have q3 := hR.2.2.2.2.1
          have q4 := hR.2.2.2.2.2
          refine rw_size fun hu => ?_
          have hz := hR.size hsz hu
          refine rw_newM hx hb hown (hts _ (wat_spec hw1)) (hK.2.1 _ (xat_spec hw2)) (hts _ (wat_spec hw3)) (hK.1.2 0 _ (tys_at gT g0)).2 (hK.1.2 3 _ (tys_at gT g3)).2 hP hS hn0 hk0 hn1 hk1 (by omega) (by omega) hd fun H1 o1 e1 r1 hP1 hS1 => ?_
          have hSR : SR G D tys b bs s h0 (newM h nn.toNatClampNeg kk'.toNatClampNeg) H1 locs (cells + 1 + nn.toNatClampNeg) (slots + nn.toNatClampNeg + nn.toNatClampNeg * kk'.toNatClampNeg) := by
            refine ⟨fun j q hj => ?_, hS1, ?_, ?_, ?_, ?_⟩
            · have hjl : j < h.1 + 1 + nn.toNatClampNeg := by
                have := (List.getElem?_eq_some_iff.mp hj).1
                simpa [wld, newM] using this
              rw [wld_get (h := newM h nn.toNatClampNeg kk'.toNatClampNeg) hjl] at hj
              cases hj
              by_cases j1 : j < h.1
              · have e9 : (newM h nn.toNatClampNeg kk'.toNatClampNeg).2.2 j = h.2.2 j := by
                  show (if j = h.1 then _ else if h.1 < j ∧ j ≤ h.1 + nn.toNatClampNeg then _ else h.2.2 j) = _
                  rw [if_neg (by omega), if_neg (by omega)]
                rw [e9]
                exact hP1 j _ (wld_get j1)
              · by_cases j2 : j = h.1
                · subst j2
                  have e9 : (newM h nn.toNatClampNeg kk'.toNatClampNeg).2.2 h.1 = .inl (3, nn.toNatClampNeg, .inr (.inr (.inr (.inr (fun i => if i < nn.toNatClampNeg then some (h.1 + 1 + i) else none))))) := by
                    show (if h.1 = h.1 then _ else _) = _
                    rw [if_pos rfl]
                  rw [e9]
                  show H1[b + h.1]? = some (vp_cell _ _)
                  rw [← hz, e1]
                  congr 3
                  refine congrArg (fun f => Sum.inr (Sum.inr (Sum.inr (Sum.inr f)))) (funext fun i => ?_)
                  show (if i < nn.toNatClampNeg then some (H.size + 1 + i) else none) = Option.map (fun x => b + x) (if i < nn.toNatClampNeg then some (h.1 + 1 + i) else none)
                  split
                  · show some (H.size + 1 + i) = some (b + (h.1 + 1 + i))
                    congr 1
                    omega
                  · rfl
                · obtain ⟨i, hi, rfl⟩ : ∃ i, i < nn.toNatClampNeg ∧ j = h.1 + 1 + i := ⟨j - (h.1 + 1), by omega, by omega⟩
                  have e9 : (newM h nn.toNatClampNeg kk'.toNatClampNeg).2.2 (h.1 + 1 + i) = .inl (0, kk'.toNatClampNeg, .inl (fun _ => 0)) := by
                    show (if h.1 + 1 + i = h.1 then _ else if h.1 < h.1 + 1 + i ∧ h.1 + 1 + i ≤ h.1 + nn.toNatClampNeg then _ else h.2.2 (h.1 + 1 + i)) = _
                    rw [if_neg (by omega), if_pos (by omega)]
                  rw [e9]
                  show H1[b + (h.1 + 1 + i)]? = some (vp_cell _ _)
                  rw [show b + (h.1 + 1 + i) = H.size + 1 + i by omega, r1 i hi]
                  rfl
            · show cells + 1 + nn.toNatClampNeg = h.1 + 1 + nn.toNatClampNeg - h0.1
              omega
            · show slots + nn.toNatClampNeg + nn.toNatClampNeg * kk'.toNatClampNeg = h.2.1 + (nn.toNatClampNeg + nn.toNatClampNeg * kk'.toNatClampNeg) - h0.2.1
              omega
            · show h0.1 ≤ h.1 + 1 + nn.toNatClampNeg
              omega
            · show h0.2.1 ≤ h.2.1 + (nn.toNatClampNeg + nn.toNatClampNeg * kk'.toNatClampNeg)
              omega
          have := kk _ _ _ _ _ _ hp hSR
          rw [hz]
          exact this
      · cases hp
    · cases hw
  all_goals (exact absurd hp (by simp [hst]))
end HeapS
end
section
/-! the machine does what the abstract one says: jumps, calls, returns; a block -/
def PreA (G : PG) (D : va_G) (tys : List (ClassId × FieldType)) (b bs : Nat) (sc : Nat × (Nat → Int32)) (as : List Value) (h : AH) : Array Value → State → Prop := va_Pc (as.map (vmv b bs)) (fun U => U.heap.size = b + h.1 ∧ va_P D G.cl (wld b bs (cAt tys) h) U.heap ∧ KS G D tys U ∧ va_X bs sc.1 sc.2 U U.heap)
/-- the contract of a method, of one run of the abstract machine -/
def MetA (G : PG) (D : va_G) (tys : List (ClassId × FieldType)) (b bs : Nat) (sc : Nat × (Nat → Int32)) (l : Launch) (c : Nat) (as : List Value) (h : AH) (r : Option Value) (h' : AH) (d : Nat) : Prop :=
  Met l (G.M c).1 (.code (G.M c).1 (G.M c).2.1 (G.M c).2.2.1 (G.M c).2.2.2.1 :: TS G) ({ frames := d, cells := h'.1 - h.1, slots := h'.2.1 - h.2.1, locals := 40 * d }) (PreA G D tys b bs sc as h) (Post D G.cl b bs (cAt tys) r h') (h'.1 - h.1) (h'.2.1 - h.2.1) (fun q => b ≤ q)
/-- the words of nests keep as the tables warm -/
def XwOk (G : PG) : Prop := ∀ w ∈ G.xw, ∀ u U : State, u.WarmedH U.vm → va_Nw w u → va_Nw w U
def MOk (G : PG) : Prop := ∀ mi, mi < G.nM → (∃ q, okC G mi q = true) ∧ okM G mi = true
theorem KS.moved {G : PG} {D : va_G} {tys : List (ClassId × FieldType)} {u U : State} (hx : XwOk G) (hW : u.WarmedH U.vm) (h : KS G D tys u) : KS G D tys U := ⟨va_K.moved hW.alike h.1, fun w hw => hx w hw u U hW (h.2.1 w hw), fun q hq => va_Nc.moved hW.alike (h.2.2 q hq)⟩
theorem PreA.blind {G : PG} {D : va_G} {tys : List (ClassId × FieldType)} {b bs : Nat} {sc : Nat × (Nat → Int32)} (hx : XwOk G) (as : List Value) (h : AH) : FrameBlind (PreA G D tys b bs sc as h) := by
  intro a U g mk q
  obtain ⟨q1, q2, q3, q4, q5⟩ := q
  exact ⟨q1, q2, q3, KS.moved (u := U) (U := U.calling g mk a) hx (State.WarmedH.refl U) q4, va_X.moved (u := U) (U := U.calling g mk a) (Vm.Alike.refl U.vm) q5⟩
theorem retK_inv {k : Nat} {o : Option Res} {r : List Value} {F : List Value → AH → Option Res} {x : Res} (hx : retK k o r F = some x) : ∃ v h', o = some (v, h') ∧ F (v.toList ++ r) h' = some x := by
  unfold retK at hx
  split at hx
  · unfold cV at hx
    split at hx
    · exact ⟨_, _, rfl, hx⟩
    · cases hx
  · unfold cI at hx
    split at hx
    · exact ⟨_, _, rfl, hx⟩
    · cases hx
  · unfold cL at hx
    split at hx
    · exact ⟨_, _, rfl, hx⟩
    · cases hx
  · unfold cR at hx
    split at hx
    · exact ⟨_, _, rfl, hx⟩
    · cases hx
theorem popN_spec : ∀ (n : Nat) (acc st as r : List Value), popN n acc st = some (as, r) → ∃ l, l.length = n ∧ as = l ++ acc ∧ st = l.reverse ++ r := by
  intro n
  induction n with
  | zero => intro acc st as r h; cases h; exact ⟨[], rfl, rfl, rfl⟩
  | succ n ih =>
    intro acc st as r h
    cases st with
    | nil => cases h
    | cons v st =>
      obtain ⟨l, h1, h2, h3⟩ := ih _ _ _ _ h
      exact ⟨l ++ [v], by simp [h1], by simp [h2], by simp [h3]⟩
theorem popN_at {n : Nat} {st as r : List Value} (h : popN n [] st = some (as, r)) : as.length = n ∧ st = as.reverse ++ r := by
  obtain ⟨l, h1, h2, h3⟩ := popN_spec n [] st as r h
  rw [List.append_nil] at h2
  subst h2
  exact ⟨h1, h3⟩
theorem catS_map (b bs : Nat) (r : List Value) : ((r.map (vmv b bs)).map fun v => v.category).sum = catS r := by
  unfold catS
  rw [List.map_map]
  congr 1
  apply List.map_congr_left
  intro v _
  exact vmv_cat b bs v
theorem toL_map (b bs : Nat) (v : Option Value) (r : List Value) : (v.map (vmv b bs)).toList ++ r.map (vmv b bs) = (v.toList ++ r).map (vmv b bs) := by
  cases v <;> simp
theorem good_TS {G : PG} {w : Cond} (h : w ∈ TS G) : goodWord w = true := (List.mem_filter.mp h).2
theorem goodIn_TS {G : PG} {w : Cond} (hw : w ∈ TS G) : GoodIn (TS G) (w :: TS G) := by
  intro v hv
  have hm : v ∈ TS G := by
    rcases List.mem_cons.mp hv with rfl | h
    · exact hw
    · exact h
  exact ⟨hm, good_of_word (good_TS hm)⟩
theorem tsw_spec {x : Int} {L : List (Nat × Nat × Nat)} {K : Nat → Nat → Option Res} {a m : Nat} {z : Res} (h : swk x L K a m = some z) : (∃ q ∈ L, x = (q.1 : Int) ∧ K q.2.1 q.2.2 = some z) ∨ ((∀ q ∈ L, ¬ x = (q.1 : Int)) ∧ K a m = some z) := by
  induction L with
  | nil => exact Or.inr ⟨fun _ h => absurd h List.not_mem_nil, h⟩
  | cons q r ih =>
    obtain ⟨k, b1, m1⟩ := q
    unfold swk at h
    split at h
    · next e => exact Or.inl ⟨_, List.mem_cons_self, e, h⟩
    · next e =>
      rcases ih h with ⟨q, h1, h2⟩ | ⟨h1, h2⟩
      · exact Or.inl ⟨q, List.mem_cons_of_mem _ h1, h2⟩
      · refine Or.inr ⟨fun q hq => ?_, h2⟩
        rcases List.mem_cons.mp hq with rfl | hq
        · exact e
        · exact h1 q hq
section Lst
variable {G : PG} {D : va_G} {tys : List (ClassId × FieldType)} {b bs : Nat} {sc : Nat × (Nat → Int32)} {mi : Nat} {h0 : AH}
variable {p : Program} {l : Launch} {e : Env} {R : Room} {s : State} {m : MethodId} {args : Array Value} {below : List Frame} {meth : Method} {c : Code} {H : Heap} {locs : List Loc} {cells slots : Nat} {Q : State → Prop}
/-- the method's end, as its caller wants it -/
def RetOk (G : PG) (D : va_G) (tys : List (ClassId × FieldType)) (b bs : Nat) (mi : Nat) (h0 : AH) (p : Program) (l : Launch) (e : Env) (R : Room) (s : State) (m : MethodId) (args : Array Value) (below : List Frame) (meth : Method) (c : Code) (Q : State → Prop) (x : Res) : Prop :=
  (∀ (H : Heap) (locs : List Loc) (cells slots pc : Nat) (lr : Array Slot) (v : Int32) (ty : FieldType), x.1 = some (.int v) → (G.M mi).2.2.2.1 = some ty → narrow ty (.int v) = .int v → decode (G.M mi).2.1 pc = .ok (.ireturn, 1) → SR G D tys b bs s h0 x.2 H locs cells slots → W p l e R s m args below meth c H locs cells slots Q (F0 m pc lr [.int v])) ∧
  (∀ (H : Heap) (locs : List Loc) (cells slots pc : Nat) (lr : Array Slot) (v : Int64), x.1 = some (.long v) → (G.M mi).2.2.2.1 = some .long → decode (G.M mi).2.1 pc = .ok (.lreturn, 1) → SR G D tys b bs s h0 x.2 H locs cells slots → W p l e R s m args below meth c H locs cells slots Q (F0 m pc lr [.long v])) ∧
  (∀ (H : Heap) (locs : List Loc) (cells slots pc : Nat) (lr : Array Slot) (v : Nat) (n : String), x.1 = some (.ref v) → (G.M mi).2.2.2.1 = some (.object n) → decode (G.M mi).2.1 pc = .ok (.areturn, 1) → SR G D tys b bs s h0 x.2 H locs cells slots → W p l e R s m args below meth c H locs cells slots Q (F0 m pc lr [.ref (b + v)])) ∧
  (∀ (H : Heap) (locs : List Loc) (cells slots pc : Nat) (lr : Array Slot), x.1 = none → (G.M mi).2.2.2.1 = none → decode (G.M mi).2.1 pc = .ok (.return_, 1) → SR G D tys b bs s h0 x.2 H locs cells slots → W p l e R s m args below meth c H locs cells slots Q (F0 m pc lr []))
/-- behind a call -/
theorem SR.called {h h' : AH} {H1 : Heap} {locs1 : List Loc} (hR : SR G D tys b bs s h0 h H locs cells slots) (hg : Gr h h') (hP : va_P D G.cl (wld b bs (cAt tys) h') H1) (hS : va_S (fun q => b ≤ q) s.heap H1 locs1) : SR G D tys b bs s h0 h' H1 locs1 (cells + (h'.1 - h.1)) (slots + (h'.2.1 - h.2.1)) := by
  obtain ⟨-, -, h3, h4, h5, h6⟩ := hR
  have g1 := hg.1
  have g2 := hg.2
  exact ⟨hP, hS, by omega, by omega, Nat.le_trans h5 g1, Nat.le_trans h6 g2⟩
/-- what the callee may take for granted -/
theorem SR.pre {h : AH} (hF : FC G D tys b bs sc mi p s m args meth c h0) (hx : XwOk G) (hR : SR G D tys b bs s h0 h H locs cells slots) (hu : H.size ≤ s.heap.size + cells) (as : List Value) : ∀ U : State, U.heap = H → s.WarmedH U.vm → PreA G D tys b bs sc as h (as.map (vmv b bs)).toArray U := by
  obtain ⟨-, -, -, -, -, -, -, -, hK, hX, hbs, hsz⟩ := hF
  intro U hU hW
  refine ⟨rfl, ?_, ?_, KS.moved hx hW hK, ?_⟩
  · rw [hU]; exact hR.size hsz hu
  · rw [hU]; exact hR.1
  · rw [hU]
    exact va_X.moved hW.alike (hX.kept (hR.2.1.2.1 bs (by omega) (by show ¬ b ≤ bs; omega)))
end Lst
end
section
/-! a block of instructions, walked by the machine -/
section Blk
variable {G : PG} {D : va_G} {tys : List (ClassId × FieldType)} {b bs : Nat} {sc : Nat × (Nat → Int32)} {mi : Nat} {h0 : AH}
variable {p : Program} {l : Launch} {e : Env} {R : Room} {s : State} {m : MethodId} {args : Array Value} {below : List Frame} {meth : Method} {c : Code} {Q : State → Prop}
/-- the callee's place in the tables -/
theorem cle_facts (hM : MOk G) {cl mL n k : Nat} (h : cleOk G cl mL n k = true) : cl < G.nM ∧ (G.M cl).2.2.1 = mL ∧ mL ≤ 21 ∧ (parseMethodDescriptor (G.M cl).1.desc).map (fun d => d.parameters.length) = some n ∧ Cond.code (G.M cl).1 (G.M cl).2.1 (G.M cl).2.2.1 (G.M cl).2.2.2.1 ∈ TS G ∧ Cond.initialized (G.M cl).1.cls ∈ TS G ∧ (G.M cl).1.cls ≠ "java/lang/invoke/MethodHandle" ∧ (G.M cl).1.cls ≠ "java/lang/invoke/VarHandle" := by
  unfold cleOk at h
  simp only [Bool.and_eq_true, decide_eq_true_eq] at h
  obtain ⟨⟨⟨⟨h1, h2⟩, h3⟩, -⟩, h4⟩ := h
  obtain ⟨⟨q, hq⟩, -⟩ := hM cl h1
  unfold okC at hq
  simp only [Bool.and_eq_true, decide_eq_true_eq] at hq
  obtain ⟨⟨⟨⟨⟨q1, q2⟩, -⟩, q3⟩, q4⟩, -⟩ := hq
  exact ⟨h1, h2, h3, h4, wat_spec q1, wat_spec q2, q3, q4⟩
set_option maxHeartbeats 8000000 in
theorem blk_sound (hG : GOK G tys) (hM : MOk G) (hXw : XwOk G) (hF : FC G D tys b bs sc mi p s m args meth c h0) {d : Nat} (hRf : d ≤ R.frames) (hRl : 40 * d ≤ R.locals) {z : Bool} (hz : z = true → 1 ≤ d) {C : Nat → List Value → AH → Option Res} {K : Nat → List Value → List Value → AH → Option Res} {x : Res}
    (hCg : ∀ c as h x, C c as h = some x → Gr h x.2) (hKg : ∀ b ls st h x, K b ls st h = some x → Gr h x.2) (hRc : x.2.1 - h0.1 ≤ R.cells) (hRs : x.2.2.1 - h0.2.1 ≤ R.slots)
    (hC : ∀ (cl : Nat) (as : List Value) (h : AH) (r : Option Value) (h' : AH), cl < G.nM → callE C cl (G.M cl).2.2.1 as h = some (r, h') → ∃ d', d = d' + 1 ∧ MetA G D tys b bs sc l cl as h r h' d')
    (hK : ∀ (bk : Nat) (ls st : List Value) (h : AH), K bk ls st h = some x → ∀ (H : Heap) (locs : List Loc) (cells slots : Nat) (lr : Array Slot), SR G D tys b bs s h0 h H locs cells slots → LR b bs (G.M mi).2.2.1 ls lr → W p l e R s m args below meth c H locs cells slots Q (F0 m (bpc G.M mi bk) lr (st.map (vmv b bs))))
    (hRet : RetOk G D tys b bs mi h0 p l e R s m args below meth c Q x) :
    ∀ (is : List Ins) (ls st : List Value) (h : AH), okL G mi is = true → runL sc z C K is ls st h = some x → ∀ (H : Heap) (locs : List Loc) (cells slots : Nat) (lr : Array Slot), SR G D tys b bs s h0 h H locs cells slots → LR b bs (G.M mi).2.2.1 ls lr → W p l e R s m args below meth c H locs cells slots Q (F0 m (nxt is) lr (st.map (vmv b bs))) := by
  intro is
  induction is with
  | nil => intro ls st h _ hx; cases hx
  | cons a is ih =>
    obtain ⟨pc, len, i, o⟩ := a
    intro ls st h hok hp H locs cells slots lr hR hL
    have hrg : ∀ (ls st : List Value) (h : AH), runL sc z C K is ls st h = some x → Gr h x.2 := fun ls st h q => runL_gr hCg hKg is ls st h x q
    have hF0 := hF
    obtain ⟨hx, hb, hml, hr, hown, hts, hnm, hlk, hKS, hX, hbs, hsz⟩ := hF
    unfold okL at hok
    rw [Bool.and_eq_true] at hok
    obtain ⟨hok, hoks⟩ := hok
    have ih' := fun ls st h q => ih ls st h hoks q
    show W p l e R s m args below meth c H locs cells slots Q (F0 m pc lr (st.map (vmv b bs)))
    -- a call that comes back
    have hcall : ∀ (cl : Nat) (as : List Value) (r : Option Value) (h' : AH) (rest : List Value) (av : Array Value), Gr h h' → runL sc z C K is ls (r.toList ++ rest) h' = some x → nxt is = pc + 3 → va_Run p l e R s m args below meth c H locs cells slots (h'.1 - h.1) (h'.2.1 - h.2.1) (F0 m pc lr (st.map (vmv b bs))) (rest.map (vmv b bs)) (Post D G.cl b bs (cAt tys) r h' av) (fun q => b ≤ q) → W p l e R s m args below meth c H locs cells slots Q (F0 m pc lr (st.map (vmv b bs))) := by
      intro cl as r h' rest av hg hq hn hrun
      refine rw_call hrun hR.2.1 (fun q hq => hq) fun H1 locs1 hP1 hS1 _ => ?_
      rw [toL_map, ← hn]
      exact ih' _ _ _ hq _ _ _ _ _ (hR.called hg hP1 hS1) hL
    have hroom : ∀ (d' : Nat) (r : Option Value) (h' : AH) (mL : Nat), d = d' + 1 → mL ≤ 21 → ({ frames := d', cells := h'.1 - h.1, slots := h'.2.1 - h.2.1, locals := 40 * d' } : Room).frames + 1 ≤ R.frames ∧ 8 + (mL + 11) + ({ frames := d', cells := h'.1 - h.1, slots := h'.2.1 - h.2.1, locals := 40 * d' } : Room).locals ≤ R.locals := by
      intro d' r h' mL hd hm
      constructor
      · show d' + 1 ≤ R.frames
        omega
      · show 8 + (mL + 11) + 40 * d' ≤ R.locals
        omega
    have hfit : ∀ (h' : AH), Gr h h' → Gr h' x.2 → cells + (h'.1 - h.1) ≤ R.cells ∧ slots + (h'.2.1 - h.2.1) ≤ R.slots := by
      intro h' g1 g2
      have a1 := hR.2.2.1
      have a2 := hR.2.2.2.1
      have a3 := hR.2.2.2.2.1
      have a4 := hR.2.2.2.2.2
      have a5 := g1.1
      have a6 := g1.2
      have a7 := g2.1
      have a8 := g2.2
      exact ⟨by omega, by omega⟩
    cases i
    case nop =>
      simp only [okI, decide_eq_true_eq] at hok
      rw [hok]
      exact hK _ _ _ _ hp _ _ _ _ _ hR (hL.msk _)
    case goto off =>
      simp only [okI, dcd, Bool.and_eq_true, decide_eq_true_eq] at hok
      obtain ⟨⟨hd, rfl⟩, ht⟩ := hok
      simp only [runL] at hp
      split at hp
      · next hv =>
        rw [hv] at ht
        simp only [decide_eq_true_eq] at ht
        exact lv_goto hx hb hd ht (ih' _ _ _ hp _ _ _ _ _ hR hL)
      · next hv =>
        split at ht
        · next hv' => exact absurd hv' hv
        · simp only [decide_eq_true_eq] at ht
          exact lv_goto hx hb hd ht (hK _ _ _ _ hp _ _ _ _ _ hR (hL.msk _))
    case ifCond cc off =>
      simp only [okI, dcd, Bool.and_eq_true, decide_eq_true_eq] at hok
      obtain ⟨⟨⟨hd, hn⟩, rfl⟩, ht⟩ := hok
      simp only [runL] at hp
      split at hp
      · next y r =>
        have kt : K o.2.1 (mskN o.2.2.1 ls) r h = some x → W p l e R s m args below meth c H locs cells slots Q (F0 m (bpc G.M mi o.2.1) lr (r.map (vmv b bs))) := fun q => hK _ _ _ _ q _ _ _ _ _ hR (hL.msk _)
        have kf : runL sc z C K is ls r h = some x → W p l e R s m args below meth c H locs cells slots Q (F0 m (pc + 3) lr (r.map (vmv b bs))) := fun q => by rw [← hn]; exact ih' _ _ _ q _ _ _ _ _ hR hL
        cases cc
        · exact lv_if_eq hx hb hd ht (fun q => kt (by rw [icc, if_pos q] at hp; exact hp)) (fun q => kf (by rw [icc, if_neg q] at hp; exact hp))
        · exact lv_if_ne hx hb hd ht (fun q => kt (by rw [icc, if_neg q] at hp; exact hp)) (fun q => kf (by rw [icc, if_pos q] at hp; exact hp))
        · exact lv_if_lt hx hb hd ht (fun q => kt (by rw [icc, if_pos q] at hp; exact hp)) (fun q => kf (by rw [icc, if_neg q] at hp; exact hp))
        · exact lv_if_ge hx hb hd ht (fun q => kt (by rw [icc, if_pos q] at hp; exact hp)) (fun q => kf (by rw [icc, if_neg q] at hp; exact hp))
        · exact lv_if_gt hx hb hd ht (fun q => kt (by rw [icc, if_pos q] at hp; exact hp)) (fun q => kf (by rw [icc, if_neg q] at hp; exact hp))
        · exact lv_if_le hx hb hd ht (fun q => kt (by rw [icc, if_pos q] at hp; exact hp)) (fun q => kf (by rw [icc, if_neg q] at hp; exact hp))
      · cases hp
    case if_icmp cc off =>
      simp only [okI, dcd, Bool.and_eq_true, decide_eq_true_eq] at hok
      obtain ⟨⟨⟨hd, hn⟩, rfl⟩, ht⟩ := hok
      simp only [runL] at hp
      split at hp
      · next y1 y r =>
        have kt : K o.2.1 (mskN o.2.2.1 ls) r h = some x → W p l e R s m args below meth c H locs cells slots Q (F0 m (bpc G.M mi o.2.1) lr (r.map (vmv b bs))) := fun q => hK _ _ _ _ q _ _ _ _ _ hR (hL.msk _)
        have kf : runL sc z C K is ls r h = some x → W p l e R s m args below meth c H locs cells slots Q (F0 m (pc + 3) lr (r.map (vmv b bs))) := fun q => by rw [← hn]; exact ih' _ _ _ q _ _ _ _ _ hR hL
        cases cc
        · exact lv_icmp_eq hx hb hd ht (fun q => kt (by rw [icc, if_pos q] at hp; exact hp)) (fun q => kf (by rw [icc, if_neg q] at hp; exact hp))
        · exact lv_icmp_ne hx hb hd ht (fun q => kt (by rw [icc, if_neg q] at hp; exact hp)) (fun q => kf (by rw [icc, if_pos q] at hp; exact hp))
        · exact lv_icmp_lt hx hb hd ht (fun q => kt (by rw [icc, if_pos q] at hp; exact hp)) (fun q => kf (by rw [icc, if_neg q] at hp; exact hp))
        · exact lv_icmp_ge hx hb hd ht (fun q => kt (by rw [icc, if_pos q] at hp; exact hp)) (fun q => kf (by rw [icc, if_neg q] at hp; exact hp))
        · exact lv_icmp_gt hx hb hd ht (fun q => kt (by rw [icc, if_pos q] at hp; exact hp)) (fun q => kf (by rw [icc, if_neg q] at hp; exact hp))
        · exact lv_icmp_le hx hb hd ht (fun q => kt (by rw [icc, if_pos q] at hp; exact hp)) (fun q => kf (by rw [icc, if_neg q] at hp; exact hp))
      · cases hp
    case tableswitch dflt lo hi offs =>
      simp only [okI, dcd, Bool.and_eq_true, decide_eq_true_eq] at hok
      obtain ⟨⟨⟨⟨hd, ht⟩, hkeys⟩, hhi⟩, htg⟩ := hok
      simp only [runL] at hp
      split at hp
      · next y r =>
        have at' : ∀ (j : Nat) (q : Nat × Nat × Nat), o.2.2.2.1[j]? = some q → (q.1 : Int) = lo + (j : Int) ∧ offs[j]? = some ((bpc G.M mi q.2.1 : Int) - (pc : Int)) := by
          intro j q hq
          have hj : j < o.2.2.2.1.length := (List.getElem?_eq_some_iff.mp hq).1
          have e1 := congrArg (fun l => l[j]?) hkeys
          have e2 := congrArg (fun l => l[j]?) htg
          simp only [List.getElem?_map, hq, List.getElem?_range hj, Option.map_some, Option.some.injEq] at e1 e2
          exact ⟨e1, e2.symm⟩
        rcases tsw_spec hp with ⟨q, hq, hy, hk⟩ | ⟨hno, hk⟩
        · obtain ⟨j, hj⟩ := List.getElem?_of_mem hq
          obtain ⟨e1, e2⟩ := at' j q hj
          have hjl : j < o.2.2.2.1.length := (List.getElem?_eq_some_iff.mp hj).1
          have hyj : y.toInt - lo = (j : Int) := by omega
          exact lv_tableIn hx hb hd (by omega) (by omega) (off := (bpc G.M mi q.2.1 : Int) - (pc : Int)) (tgt := bpc G.M mi q.2.1) (by rw [hyj]; exact e2) (by omega) (hK _ _ _ _ hk _ _ _ _ _ hR (hL.msk _))
        · refine lv_tableOut hx hb hd ?_ ht (hK _ _ _ _ hk _ _ _ _ _ hR (hL.msk _))
          rcases Int.lt_or_le y.toInt lo with hlo | hlo
          · exact Or.inl hlo
          · rcases Int.lt_or_le hi y.toInt with hh | hh
            · exact Or.inr hh
            · exfalso
              have hj : (y.toInt - lo).toNat < o.2.2.2.1.length := by omega
              obtain ⟨e1, -⟩ := at' _ _ (List.getElem?_eq_getElem hj)
              exact hno _ (List.getElem_mem hj) (by omega)
      · cases hp
    case lookupswitch dflt ps =>
      simp only [okI, dcd, Bool.and_eq_true, decide_eq_true_eq] at hok
      obtain ⟨⟨⟨hd, ht⟩, hso⟩, hps⟩ := hok
      simp only [runL] at hp
      split at hp
      · next y r =>
        have key : ∀ (L : List (Nat × Nat × Nat)), swk y.toInt L (fun b' m' => K b' (mskN m' ls) r h) o.2.1 o.2.2.1 = some x → ∃ bk mk, K bk (mskN mk ls) r h = some x ∧ (pc : Int) + Op.lookupswitch.offset (L.map (fun q => ((q.1 : Int), (bpc G.M mi q.2.1 : Int) - (pc : Int)))) dflt y.toInt = (bpc G.M mi bk : Int) := by
          intro L
          induction L with
          | nil => intro q; exact ⟨_, _, q, ht⟩
          | cons q r' ihL =>
            obtain ⟨k1, b1, m1⟩ := q
            intro hq
            unfold swk at hq
            rw [List.map_cons, Op.lookupswitch.offset_cons]
            split at hq
            · next e1 =>
              refine ⟨b1, m1, hq, ?_⟩
              rw [if_pos (by simpa using e1.symm)]
              dsimp only
              omega
            · next e1 =>
              rw [if_neg (by intro q9; exact e1 (by simpa using q9.symm))]
              exact ihL hq
        obtain ⟨bk, mk, hk, htg⟩ := key _ hp
        rw [hps] at htg
        exact lv_lookup hx hb hd hso rfl htg (hK _ _ _ _ hk _ _ _ _ _ hR (hL.msk _))
      · cases hp
    case ireturn =>
      simp only [okI, dcd, Bool.and_eq_true, decide_eq_true_eq] at hok
      obtain ⟨⟨hd, rfl⟩, ht⟩ := hok
      simp only [runL] at hp
      split at hp
      · next v =>
        split at ht
        · next e1 =>
          simp only [decide_eq_true_eq] at ht
          rw [ht] at hp
          simp at hp
          subst hp
          exact hRet.1 _ _ _ _ _ _ v _ rfl e1 rfl hd hR
        · next e1 =>
          simp only [decide_eq_true_eq] at ht
          rw [ht] at hp
          simp at hp
          obtain ⟨hv, hp⟩ := hp
          subst hp
          exact hRet.1 _ _ _ _ _ _ v _ rfl e1 (by rcases hv with rfl | rfl <;> rfl) hd hR
        · cases ht
      · cases hp
    case lreturn =>
      simp only [okI, dcd, Bool.and_eq_true, decide_eq_true_eq] at hok
      obtain ⟨⟨hd, rfl⟩, ht⟩ := hok
      simp only [runL] at hp
      split at hp
      · next v => cases hp; exact hRet.2.1 _ _ _ _ _ _ v rfl ht hd hR
      · cases hp
    case areturn =>
      simp only [okI, dcd, Bool.and_eq_true, decide_eq_true_eq] at hok
      obtain ⟨⟨hd, rfl⟩, ht⟩ := hok
      simp only [runL] at hp
      split at hp
      · next v =>
        cases hp
        split at ht
        · next n e1 => exact hRet.2.2.1 _ _ _ _ _ _ v n rfl e1 hd hR
        · cases ht
      · cases hp
    case return_ =>
      simp only [okI, dcd, Bool.and_eq_true, decide_eq_true_eq] at hok
      obtain ⟨⟨hd, rfl⟩, ht⟩ := hok
      simp only [runL] at hp
      split at hp
      · cases hp; exact hRet.2.2.2 _ _ _ _ _ _ rfl ht hd hR
      · cases hp
    case invokestatic k =>
      simp only [okI, dcd, Bool.and_eq_true, decide_eq_true_eq] at hok
      obtain ⟨⟨⟨hd, hn⟩, rfl⟩, hw⟩ := hok
      split at hw
      · next nst cl mL w v _ hL1 hL2 =>
        simp only [Bool.and_eq_true] at hw
        obtain ⟨⟨hw1, hw2⟩, hw3⟩ := hw
        obtain ⟨f1, f2, f3, f4, f5, f6, f7, f8⟩ := cle_facts hM hw1
        simp only [runL, hL1] at hp
        split at hp
        · next as r hpop =>
          split at hp
          · next hcs =>
            obtain ⟨v', h', hcl, hq⟩ := retK_inv hp
            have hg := callE_gr hCg _ hcl
            rw [← f2] at hcl
            obtain ⟨d', hd', hmet⟩ := hC _ _ _ _ _ f1 hcl
            obtain ⟨hlen, hst⟩ := popN_at hpop
            refine rw_size fun hu => ?_
            refine hcall cl as v' h' r (as.map (vmv b bs)).toArray hg hq hn ?_
            have hstk : (F0 m pc lr (st.map (vmv b bs))).stack = (as.map (vmv b bs)).reverse ++ r.map (vmv b bs) := by
              show st.map (vmv b bs) = _
              rw [hst, List.map_append, List.map_reverse]
            have hlen' : (as.map (vmv b bs)).length = o.2.1 := by rw [List.length_map]; exact hlen
            split at hw3
            · exact va_runS (As := as.map (vmv b bs)) (rest := r.map (vmv b bs)) ⟨hx, hb, hml, hown, hts⟩ hmet ⟨callB_of o.2.1 hts (goodIn_TS f5) rfl rfl rfl (hts _ f6) (hts _ (wat_spec hw3)) ⟨f7, f8, f4⟩ (hroom d' v' h' _ hd' (by rw [f2]; exact f3)), hts _ (wat_spec hw2)⟩ ⟨PreA.blind hXw _ _, hR.pre hF0 hXw hu as⟩ rfl hlen' hL.2.1 hstk (lv_room (by rw [catS_map]; exact hcs)) hd (hfit h' hg (hrg _ _ _ hq))
            · exact va_runSN (As := as.map (vmv b bs)) (rest := r.map (vmv b bs)) ⟨hx, hb, hml, hown, hts⟩ hmet ⟨va_cnB o.2.1 hts (goodIn_TS f5) rfl rfl rfl (hKS.2.1 _ (xat_spec hw3)) (hts _ f6) ⟨f7, f8, f4⟩ (hroom d' v' h' _ hd' (by rw [f2]; exact f3)), hts _ (wat_spec hw2), trivial⟩ ⟨PreA.blind hXw _ _, hR.pre hF0 hXw hu as⟩ rfl hlen' hL.2.1 hstk (lv_room (by rw [catS_map]; exact hcs)) hd (hfit h' hg (hrg _ _ _ hq))
          · cases hp
        · cases hp
      · next w v u t _ hL1 hL2 =>
        simp only [runL, hL1] at hp
        split at hp
        · next hz1 =>
          have hd1 := hz hz1
          have hsz1 : c.maxLocals = lr.size := by rw [hml]; exact hL.2.1.symm
          have hgx := intr_gr (fun _ _ => hrg _ _ _) hp
          have hfx := hfit h Gr.rf hgx
          have hc0 : cells ≤ R.cells := by omega
          have hs0 : slots ≤ R.slots := by omega
          split at hw
          · next e1 =>
            simp only [Bool.and_eq_true] at hw
            rw [e1] at hp
            simp only [intr] at hp
            split at hp
            · next y1 y r =>
              split at hp
              · next hcs => exact va_mmin hx hb hsz1 hown (hts _ (wat_spec hw.1.1.1)) (hts _ (wat_spec hw.1.1.2)) (hts _ (wat_spec hw.1.2)) (hts _ (wat_spec hw.2)) (by omega) (by rw [catS_map]; omega) hc0 hs0 hd (by rw [← hn]; exact ih' _ _ _ hp _ _ _ _ _ hR hL)
              · cases hp
            · cases hp
          · next e1 =>
            simp only [Bool.and_eq_true] at hw
            rw [e1] at hp
            simp only [intr] at hp
            split at hp
            · next y1 y r =>
              split at hp
              · next hcs => exact va_mmax hx hb hsz1 hown (hts _ (wat_spec hw.1.1.1)) (hts _ (wat_spec hw.1.1.2)) (hts _ (wat_spec hw.1.2)) (hts _ (wat_spec hw.2)) (by omega) (by rw [catS_map]; omega) hc0 hs0 hd (by rw [← hn]; exact ih' _ _ _ hp _ _ _ _ _ hR hL)
              · cases hp
            · cases hp
          · next e1 =>
            simp only [Bool.and_eq_true] at hw
            rw [e1] at hp
            simp only [intr] at hp
            split at hp
            · next y1 y r =>
              split at hp
              · next hcs => exact va_mmax_long hx hb hsz1 hown (hts _ (wat_spec hw.1.1.1)) (hts _ (wat_spec hw.1.1.2)) (hts _ (wat_spec hw.1.2)) (hts _ (wat_spec hw.2)) (by omega) (by rw [catS_map]; omega) hc0 hs0 hd (by rw [← hn]; exact ih' _ _ _ hp _ _ _ _ _ hR hL)
              · cases hp
            · cases hp
          · next e1 =>
            simp only [Bool.and_eq_true] at hw
            rw [e1] at hp
            simp only [intr] at hp
            split at hp
            · next nn dp dd sp ss r =>
              split at hp
              · next hcs =>
                obtain ⟨h2, hcp, hp⟩ := oB_inv hp
                obtain ⟨n0, f, n1, g, q1, q2, q3, q4, q5, q6, q7, rfl⟩ := cpA_set hcp
                have hnf : nativeFrameWords "java/lang/System" "arraycopy" 5 ≤ 19 := by decide
                refine va_copyi hx hb hsz1 hown (hts _ (wat_spec hw.1.1.1)) (hts _ (wat_spec hw.2)) (hts _ (wat_spec hw.1.1.2)) (hts _ (wat_spec hw.1.2)) hKS.1 hR.1 wld_D hR.2.1 ss dd 0 0 (wld_at q1) (wld_at q2) (tys_at hG.2.1 hG.2.2.1) (tys_at hG.2.1 hG.2.2.1) rfl q3 q4 q5 q6 q7 (fun _ _ => rfl) (by omega) (by rw [catS_map]; omega) hd fun H1 locs1 hP1 _ hS1 => ?_
                rw [← hn]
                exact ih' _ _ _ hp _ _ _ _ _ (hR.put (cq := .inl (0, n1, .inl (va_cpy f g sp.toNatClampNeg dp.toNatClampNeg nn.toNatClampNeg))) hP1 hS1) hL
              · cases hp
            · cases hp
          · cases hw
        · cases hp
      · cases hw
    case invokevirtual k =>
      simp only [okI, dcd, Bool.and_eq_true, decide_eq_true_eq] at hok
      obtain ⟨⟨⟨hd, hn⟩, rfl⟩, hw⟩ := hok
      simp only [runL] at hp
      split at hp
      · next as q r hpop =>
        split at hp
        · next hcs =>
          obtain ⟨ci, ⟨cl, mL⟩, hci, hlook, hp⟩ := vdis_inv hp
          obtain ⟨v', h', hcl, hq⟩ := retK_inv hp
          obtain ⟨hlen, hst⟩ := popN_at hpop
          obtain ⟨fv, hfv⟩ := clsOf_get hci
          have hg := callE_gr hCg _ hcl
          have hlen' : (as.map (vmv b bs)).length = o.2.1 := by rw [List.length_map]; exact hlen
          have hstk : (F0 m pc lr (st.map (vmv b bs))).stack = (as.map (vmv b bs)).reverse ++ .ref (b + q) :: r.map (vmv b bs) := by
            show st.map (vmv b bs) = _
            rw [hst, List.map_append, List.map_reverse]
            rfl
          refine rw_size fun hu => ?_
          refine hcall cl as v' h' r ((.ref q :: as).map (vmv b bs)).toArray hg hq hn ?_
          split at hw
          · next w v u _ =>
            split at hw
            · next ci' cl' mL' hL1 =>
              simp only [Bool.and_eq_true, decide_eq_true_eq] at hw
              obtain ⟨⟨⟨⟨⟨w0, w1⟩, w2⟩, w3⟩, w4⟩, w5⟩ := hw
              rw [hL1] at hlook
              unfold look at hlook
              split at hlook
              · next hce =>
                cases hlook
                have hce' : ci' = ci := hce
                subst hce'
                obtain ⟨f1, f2, f3, f4, f5, f6, f7, f8⟩ := cle_facts hM w1
                rw [← f2] at hcl
                obtain ⟨d', hd', hmet⟩ := hC _ _ _ _ _ f1 hcl
                exact va_runV (C := (clN G.cl ci').1) (As := as.map (vmv b bs)) (rest := r.map (vmv b bs)) ⟨hx, hb, hml, hown, hts⟩ hmet ⟨callB_of o.2.1 hts (goodIn_TS f5) rfl rfl rfl (hts _ f6) (hts _ (wat_spec w3)) ⟨f7, f8, f4⟩ (hroom d' v' h' _ hd' (by rw [f2]; exact f3)), hts _ (wat_spec w4), hts _ (wat_spec w5)⟩ ⟨PreA.blind hXw _ _, va_recv hKS.1 hR.1 (clN_at w0) (wld_at hfv), hR.pre hF0 hXw hu (.ref q :: as)⟩ rfl hlen' hL.2.1 hstk (lv_room (by rw [catS_map]; exact hcs)) hd (hfit h' hg (hrg _ _ _ hq))
              · cases hlook
            · cases hw
          · next w sm ix xm ws _ =>
            simp only [Bool.and_eq_true, decide_eq_true_eq] at hw
            obtain ⟨⟨⟨⟨⟨w0, w1⟩, w2⟩, w3⟩, w4⟩, w5⟩ := hw
            have hpoly : ∀ (L : List (Nat × Nat × Nat)) (ws : List Nat), polyOk G xm o.2.1 o.2.2.1 L ws = true → look L ci = some (cl, mL) → ci < G.cl.length ∧ cleOk G cl mL o.2.1 o.2.2.1 = true ∧ Cond.selects (clN G.cl ci).1 (G.M xm).1 (G.M cl).1 ∈ TS G ∧ Cond.instanceMethod (G.M cl).1 ∈ TS G := by
              intro L
              induction L with
              | nil => intro ws _ hl; cases hl
              | cons a r' ihL =>
                intro ws hw hl
                obtain ⟨c1, c2, c3⟩ := a
                match ws, hw with
                | a1 :: b1 :: ws, hw =>
                  simp only [polyOk, Bool.and_eq_true, decide_eq_true_eq] at hw
                  obtain ⟨⟨⟨⟨u0, u1⟩, u2⟩, u3⟩, u4⟩ := hw
                  unfold look at hl
                  split at hl
                  · next hce =>
                    cases hl
                    have hce' : c1 = ci := hce
                    subst hce'
                    exact ⟨u0, u1, wat_spec u2, wat_spec u3⟩
                  · exact ihL ws u4 hl
                | [], hw => simp [polyOk] at hw
                | [_], hw => simp [polyOk] at hw
            obtain ⟨u0, u1, u2, u3⟩ := hpoly _ _ w5 hlook
            obtain ⟨f1, f2, f3, f4, f5, f6, f7, f8⟩ := cle_facts hM u1
            obtain ⟨⟨qx, hqx⟩, -⟩ := hM xm w0
            unfold okC at hqx
            simp only [Bool.and_eq_true, decide_eq_true_eq] at hqx
            obtain ⟨⟨⟨⟨⟨x1, x2⟩, -⟩, x3⟩, x4⟩, -⟩ := hqx
            rw [← f2] at hcl
            obtain ⟨d', hd', hmet⟩ := hC _ _ _ _ _ f1 hcl
            have hGo : GoodIn (TS G) (va_wsO (G.M mi).1.cls k (clN G.cl ci).1 (G.M xm).1.cls (G.M xm).1 (G.M cl).1 (.code (G.M cl).1 (G.M cl).2.1 (G.M cl).2.2.1 (G.M cl).2.2.2.1 :: TS G)) := by
              intro v9 hv9
              have hm9 : v9 ∈ TS G := by
                unfold va_wsO at hv9
                rcases List.mem_append.mp hv9 with h9 | h9
                · simp only [List.mem_cons, List.not_mem_nil, or_false] at h9
                  rcases h9 with rfl | rfl | rfl | rfl | rfl | rfl
                  · exact wat_spec w2
                  · exact wat_spec w3
                  · exact wat_spec w4
                  · exact u2
                  · exact u3
                  · exact f6
                · rcases List.mem_cons.mp h9 with rfl | h9
                  · exact f5
                  · exact h9
              exact ⟨hm9, good_of_word (good_TS hm9)⟩
            exact va_runU (C := (clN G.cl ci).1) (As := as.map (vmv b bs)) (rest := r.map (vmv b bs)) ⟨hx, hb, hml, hown, hts⟩ hmet (va_cwO o.2.1 hts hGo rfl rfl rfl (wat_spec x1) ⟨x3, x4, w1⟩ (hroom d' v' h' _ hd' (by rw [f2]; exact f3))) ⟨PreA.blind hXw _ _, va_recv hKS.1 hR.1 (clN_at u0) (wld_at hfv), hR.pre hF0 hXw hu (.ref q :: as)⟩ rfl hlen' hL.2.1 hstk (lv_room (by rw [catS_map]; exact hcs)) hd (hfit h' hg (hrg _ _ _ hq))
          · cases hw
        · cases hp
      · cases hp
    case invokespecial k =>
      simp only [okI, dcd, Bool.and_eq_true, decide_eq_true_eq] at hok
      obtain ⟨⟨⟨hd, hn⟩, rfl⟩, hw⟩ := hok
      simp only [runL] at hp
      split at hp
      · next as q r hpop =>
        split at hp
        · next hcs =>
          obtain ⟨hlen, hst⟩ := popN_at hpop
          have hlen' : (as.map (vmv b bs)).length = o.2.1 := by rw [List.length_map]; exact hlen
          have hstk : (F0 m pc lr (st.map (vmv b bs))).stack = (as.map (vmv b bs)).reverse ++ .ref (b + q) :: r.map (vmv b bs) := by
            show st.map (vmv b bs) = _
            rw [hst, List.map_append, List.map_reverse]
            rfl
          split at hw
          · next ks cl mL w v ws hL1 hL2 =>
            rw [hL1] at hp
            dsimp only at hp
            obtain ⟨ci, hci, hp⟩ := oB_inv hp
            · obtain ⟨v', h', hcl, hq⟩ := retK_inv hp
              obtain ⟨fv, hfv⟩ := clsOf_get hci
              have hg := callE_gr hCg _ hcl
              simp only [Bool.and_eq_true] at hw
              obtain ⟨⟨w1, w2⟩, w3⟩ := hw
              obtain ⟨f1, f2, f3, f4, f5, f6, f7, f8⟩ := cle_facts hM w1
              rw [← f2] at hcl
              obtain ⟨d', hd', hmet⟩ := hC _ _ _ _ _ f1 hcl
              refine rw_size fun hu => ?_
              refine hcall cl as v' h' r ((.ref q :: as).map (vmv b bs)).toArray hg hq hn ?_
              have hrm := hroom d' v' h' (G.M cl).2.2.1 hd' (by rw [f2]; exact f3)
              unfold MetA at hmet
              split at w3
              · simp only [Bool.and_eq_true, decide_eq_true_eq] at w3
                obtain ⟨⟨y1, y2⟩, y3⟩ := w3
                rw [y2] at hmet f5
                exact va_runI (As := as.map (vmv b bs)) (rest := r.map (vmv b bs)) ⟨hx, hb, hml, hown, hts⟩ hmet ⟨callB_of o.2.1 hts (goodIn_TS f5) rfl rfl rfl (hts _ f6) (hts _ (wat_spec y3)) ⟨f7, f8, f4⟩ hrm, y1, hts _ (wat_spec w2)⟩ ⟨PreA.blind hXw _ _, hR.pre hF0 hXw hu (.ref q :: as)⟩ rfl hlen' hL.2.1 hstk (lv_room (by rw [catS_map]; exact hcs)) hd (hfit h' hg (hrg _ _ _ hq))
              · simp only [Bool.and_eq_true, decide_eq_true_eq] at w3
                obtain ⟨⟨y1, y2⟩, y3⟩ := w3
                rw [y2] at hmet f5
                exact va_runIN (As := as.map (vmv b bs)) (rest := r.map (vmv b bs)) ⟨hx, hb, hml, hown, hts⟩ hmet ⟨va_cnB o.2.1 hts (goodIn_TS f5) rfl rfl rfl (hKS.2.1 _ (xat_spec y3)) (hts _ f6) ⟨f7, f8, f4⟩ hrm, y1, hts _ (wat_spec w2)⟩ ⟨PreA.blind hXw _ _, hR.pre hF0 hXw hu (.ref q :: as)⟩ rfl hlen' hL.2.1 hstk (lv_room (by rw [catS_map]; exact hcs)) hd (hfit h' hg (hrg _ _ _ hq))
              · split at w3
                · next a1 b1 =>
                  simp only [Bool.and_eq_true, decide_eq_true_eq] at w3
                  obtain ⟨⟨⟨y1, y2⟩, y3⟩, y4⟩ := w3
                  have hcl9 : ci < G.cl.length := by
                    obtain ⟨r9, h9, -⟩ := hR.1 q _ (wld_at hfv)
                    exact (List.getElem?_eq_some_iff.mp h9).1
                  have hGo : GoodIn (TS G) (va_wsSU (G.M mi).1.cls k (G.M cl).1 (.code (G.M cl).1 (G.M cl).2.1 (G.M cl).2.2.1 (G.M cl).2.2.2.1 :: TS G)) := by
                    intro v9 hv9
                    have hm9 : v9 ∈ TS G := by
                      unfold va_wsSU at hv9
                      rcases List.mem_append.mp hv9 with h9 | h9
                      · simp only [List.mem_cons, List.not_mem_nil, or_false] at h9
                        rcases h9 with rfl | rfl | rfl | rfl | rfl
                        · exact wat_spec y2
                        · exact wat_spec y3
                        · exact wat_spec y4
                        · exact wat_spec w2
                        · exact f6
                      · rcases List.mem_cons.mp h9 with rfl | h9
                        · exact f5
                        · exact h9
                    exact ⟨hm9, good_of_word (good_TS hm9)⟩
                  exact va_runSU (C := (clN G.cl ci).1) (As := as.map (vmv b bs)) (rest := r.map (vmv b bs)) (hKS.1.1 _ _ (clN_at hcl9)).2 ⟨hx, hb, hml, hown, hts⟩ hmet (va_cwSU o.2.1 hts hGo rfl rfl rfl ⟨y1, f4⟩ hrm) ⟨PreA.blind hXw _ _, va_recv hKS.1 hR.1 (clN_at hcl9) (wld_at hfv), hR.pre hF0 hXw hu (.ref q :: as)⟩ rfl hlen' hL.2.1 hstk (lv_room (by rw [catS_map]; exact hcs)) hd (hfit h' hg (hrg _ _ _ hq))
                · cases w3
          · next w v u _ hL1 hL2 =>
            rw [hL1] at hp
            dsimp only at hp
            split at hp
            · next hz1 =>
              have hd1 := hz hz1
              simp only [Bool.and_eq_true, decide_eq_true_eq] at hw
              obtain ⟨⟨⟨w0, w1⟩, w2⟩, w3⟩ := hw
              have has : as = [] := List.eq_nil_of_length_eq_zero (hlen.trans w0)
              subst has
              refine W.objInit hx hb hown (hts _ (wat_spec w1)) (hts _ (wat_spec w2)) (hts _ (wat_spec w3)) rfl (by rw [hml]; exact hL.2.1) (a := b + q) (rest := r.map (vmv b bs)) hstk hd (by omega) ?_ ?_
              · have hro := lv_room (m := m) (pc := pc) (ls := lr) (rest := st.map (vmv b bs)) (st := r.map (vmv b bs)) (by rw [catS_map]; exact hcs)
                omega
              · have := ih' _ _ _ hp _ _ _ _ _ hR hL
                rw [hn] at this
                exact this
            · cases hp
          · cases hw
        · cases hp
      · cases hp
    case idiv => exact hst_sound (z := z) hG hF0 hok hp hR (fun _ _ => hrg _ _ _) hRc hRs (fun _ _ _ _ _ _ q hR' => ih' _ _ _ q _ _ _ _ _ hR' hL)
    case irem => exact hst_sound (z := z) hG hF0 hok hp hR (fun _ _ => hrg _ _ _) hRc hRs (fun _ _ _ _ _ _ q hR' => ih' _ _ _ q _ _ _ _ _ hR' hL)
    case ldiv => exact hst_sound (z := z) hG hF0 hok hp hR (fun _ _ => hrg _ _ _) hRc hRs (fun _ _ _ _ _ _ q hR' => ih' _ _ _ q _ _ _ _ _ hR' hL)
    case lrem => exact hst_sound (z := z) hG hF0 hok hp hR (fun _ _ => hrg _ _ _) hRc hRs (fun _ _ _ _ _ _ q hR' => ih' _ _ _ q _ _ _ _ _ hR' hL)
    case getfield k => exact hst_sound (z := z) hG hF0 hok hp hR (fun _ _ => hrg _ _ _) hRc hRs (fun _ _ _ _ _ _ q hR' => ih' _ _ _ q _ _ _ _ _ hR' hL)
    case putfield k => exact hst_sound (z := z) hG hF0 hok hp hR (fun _ _ => hrg _ _ _) hRc hRs (fun _ _ _ _ _ _ q hR' => ih' _ _ _ q _ _ _ _ _ hR' hL)
    case iaload => exact hst_sound (z := z) hG hF0 hok hp hR (fun _ _ => hrg _ _ _) hRc hRs (fun _ _ _ _ _ _ q hR' => ih' _ _ _ q _ _ _ _ _ hR' hL)
    case iastore => exact hst_sound (z := z) hG hF0 hok hp hR (fun _ _ => hrg _ _ _) hRc hRs (fun _ _ _ _ _ _ q hR' => ih' _ _ _ q _ _ _ _ _ hR' hL)
    case aaload => exact hst_sound (z := z) hG hF0 hok hp hR (fun _ _ => hrg _ _ _) hRc hRs (fun _ _ _ _ _ _ q hR' => ih' _ _ _ q _ _ _ _ _ hR' hL)
    case aastore => exact hst_sound (z := z) hG hF0 hok hp hR (fun _ _ => hrg _ _ _) hRc hRs (fun _ _ _ _ _ _ q hR' => ih' _ _ _ q _ _ _ _ _ hR' hL)
    case arraylength => exact hst_sound (z := z) hG hF0 hok hp hR (fun _ _ => hrg _ _ _) hRc hRs (fun _ _ _ _ _ _ q hR' => ih' _ _ _ q _ _ _ _ _ hR' hL)
    case instanceof k => exact hst_sound (z := z) hG hF0 hok hp hR (fun _ _ => hrg _ _ _) hRc hRs (fun _ _ _ _ _ _ q hR' => ih' _ _ _ q _ _ _ _ _ hR' hL)
    case new k => exact hst_sound (z := z) hG hF0 hok hp hR (fun _ _ => hrg _ _ _) hRc hRs (fun _ _ _ _ _ _ q hR' => ih' _ _ _ q _ _ _ _ _ hR' hL)
    case newarray k => exact hst_sound (z := z) hG hF0 hok hp hR (fun _ _ => hrg _ _ _) hRc hRs (fun _ _ _ _ _ _ q hR' => ih' _ _ _ q _ _ _ _ _ hR' hL)
    case anewarray k => exact hst_sound (z := z) hG hF0 hok hp hR (fun _ _ => hrg _ _ _) hRc hRs (fun _ _ _ _ _ _ q hR' => ih' _ _ _ q _ _ _ _ _ hR' hL)
    case multianewarray k n => exact hst_sound (z := z) hG hF0 hok hp hR (fun _ _ => hrg _ _ _) hRc hRs (fun _ _ _ _ _ _ q hR' => ih' _ _ _ q _ _ _ _ _ hR' hL)
    all_goals (
      simp only [runL] at hp
      split at hp
      · next ls' st' hps => exact pst_sound hF0 hok hps hL (fun lr' hL' => ih' _ _ _ hp _ _ _ _ _ hR hL')
      · cases hp)
end Blk
end
section
/-! what the abstract machine answers of a method, the machine does: contracts, by induction on the fuel -/
section Snd
variable {G : PG} {D : va_G} {tys : List (ClassId × FieldType)} {b bs : Nat} {sc : Nat × (Nat → Int32)}
/-- a frame, from a block on -/
def FrmOk (G : PG) (D : va_G) (tys : List (ClassId × FieldType)) (b bs : Nat) (sc : Nat × (Nat → Int32)) (l : Launch) (n : Nat) : Prop :=
  ∀ (mi : Nat) (h0 : AH) (p : Program) (e : Env) (R : Room) (s : State) (m : MethodId) (args : Array Value) (below : List Frame) (meth : Method) (c : Code) (Q : State → Prop) (d bk : Nat) (ls st : List Value) (h : AH) (x : Res),
    okM G mi = true → FC G D tys b bs sc mi p s m args meth c h0 → d ≤ R.frames → 40 * d ≤ R.locals → x.2.1 - h0.1 ≤ R.cells → x.2.2.1 - h0.2.1 ≤ R.slots → RetOk G D tys b bs mi h0 p l e R s m args below meth c Q x → exec (PB G.M) sc n d mi bk ls st h = some x →
    ∀ (H : Heap) (locs : List Loc) (cells slots : Nat) (lr : Array Slot), SR G D tys b bs s h0 h H locs cells slots → LR b bs (G.M mi).2.2.1 ls lr → W p l e R s m args below meth c H locs cells slots Q (F0 m (bpc G.M mi bk) lr (st.map (vmv b bs)))
def MetOk (G : PG) (D : va_G) (tys : List (ClassId × FieldType)) (b bs : Nat) (sc : Nat × (Nat → Int32)) (l : Launch) (n : Nat) : Prop :=
  ∀ (cl d : Nat) (as : List Value) (h : AH) (r : Option Value) (h' : AH), cl < G.nM → (layL as).length ≤ (G.M cl).2.2.1 → exec (PB G.M) sc n d cl 0 (entL (G.M cl).2.2.1 as) [] h = some (r, h') → MetA G D tys b bs sc l cl as h r h' d
set_option maxHeartbeats 2000000 in
theorem met_of_frm (hM : MOk G) (hbs : bs < b) {l : Launch} {n : Nat} (hFr : FrmOk G D tys b bs sc l n) : MetOk G D tys b bs sc l n := by
  intro cl d as h r h' hcl hlen hex
  obtain ⟨⟨q, hq⟩, hokm⟩ := hM cl hcl
  have hcw := hq
  unfold okC at hq
  simp only [Bool.and_eq_true, decide_eq_true_eq] at hq
  obtain ⟨⟨⟨⟨⟨q1, q2⟩, q3⟩, q4⟩, q5⟩, q6⟩ := hq
  have hg := exec_gr _ _ _ _ _ _ _ _ _ _ hex
  unfold MetA
  refine Met.ofW (cc := (G.M cl).2.1) (maxL := (G.M cl).2.2.1) (ret := (G.M cl).2.2.2.1) q3 rfl ?_
  intro p e s m args below meth c s₁ B hml hv
  obtain ⟨rfl, hsz, hP, hK, hX⟩ := hv
  have hts0 := atoms_spec (ws := .code (G.M cl).1 (G.M cl).2.1 (G.M cl).2.2.1 (G.M cl).2.2.2.1 :: TS G) B.pre
  have hts : ∀ w ∈ TS G, w.before (as.map (vmv b bs)).toArray s = true := fun w hw => hts0 w (List.mem_cons_of_mem _ hw)
  have hlocks := B.notSynchronized
  have hFC : FC G D tys b bs sc cl p s m (as.map (vmv b bs)).toArray meth c h := ⟨B.exec, B.bytes, hml, B.returns, findClass_of_methodNamed B.named, hts, fun q => (name_of_methodNamed B.named B.method).1.trans q, hlocks, hK, hX, hbs, hsz⟩
  have hS0 : SR G D tys b bs s h h s.heap [] 0 0 := ⟨hP, va_S.rf, by omega, by omega, Gr.rf⟩
  rw [lg_entry_eq]
  have key := hFr cl h p e ({ frames := d, cells := h'.1 - h.1, slots := h'.2.1 - h.2.1, locals := 40 * d }) s m (as.map (vmv b bs)).toArray below meth c (MQ below (Post D G.cl b bs (cAt tys) r h') (as.map (vmv b bs)).toArray s (h'.1 - h.1) (h'.2.1 - h.2.1) (fun q => b ≤ q)) d 0 (entL (G.M cl).2.2.1 as) [] h (r, h') hokm hFC (Nat.le_refl _) (Nat.le_refl _) (Nat.le_refl _) (Nat.le_refl _) ?_ hex s.heap [] 0 0 _ hS0 (LR.entry hlen)
  · rw [q6] at key
    exact key
  · have hend : ∀ (H : Heap) (locs : List Loc) (t : State), t.heap = H → va_P D G.cl (wld b bs (cAt tys) h') H → va_S (fun q => b ≤ q) s.heap H locs → Post D G.cl b bs (cAt tys) r h' (as.map (vmv b bs)).toArray s (.returned (r.map (vmv b bs))) t := fun H locs t ht hP1 hS1 => ⟨⟨rfl, by rw [ht]; exact hP1⟩, hS1.F ht⟩
    refine ⟨?_, ?_, ?_, ?_⟩
    · intro H locs cells slots pc lr v ty hr hty hn hd hR
      obtain ⟨hP1, hS1, rfl, rfl, -⟩ := hR
      have hr' : r = some (.int v) := hr
      refine W.zret (v := v) B.exec B.bytes (B.returns.trans hty) hn (fun t ht _ => ?_) hS1.2.2 hd
      have := hend H locs t ht hP1 hS1
      rw [hr'] at this ⊢
      exact this
    · intro H locs cells slots pc lr v hr hty hd hR
      obtain ⟨hP1, hS1, rfl, rfl, -⟩ := hR
      have hr' : r = some (.long v) := hr
      refine W.lret (v := v) B.exec B.bytes (B.returns.trans hty) (fun t ht _ => ?_) hS1.2.2 hd
      have := hend H locs t ht hP1 hS1
      rw [hr'] at this ⊢
      exact this
    · intro H locs cells slots pc lr v n hr hty hd hR
      obtain ⟨hP1, hS1, rfl, rfl, -⟩ := hR
      have hr' : r = some (.ref v) := hr
      refine W.aret (v := .ref (b + v)) B.exec B.bytes (B.returns.trans hty) (Or.inl ⟨n, rfl⟩) (Or.inr ⟨_, rfl⟩) (fun t ht _ => ?_) hS1.2.2 hd
      have := hend H locs t ht hP1 hS1
      rw [hr'] at this ⊢
      exact this
    · intro H locs cells slots pc lr hr hty hd hR
      obtain ⟨hP1, hS1, rfl, rfl, -⟩ := hR
      have hr' : r = none := hr
      refine W.vret B.exec B.bytes (B.returns.trans hty) (fun t ht _ => ?_) hS1.2.2 hd
      have := hend H locs t ht hP1 hS1
      rw [hr'] at this ⊢
      exact this
theorem frm_sound (hG : GOK G tys) (hM : MOk G) (hXw : XwOk G) (hbs : bs < b) (l : Launch) : ∀ n, FrmOk G D tys b bs sc l n := by
  intro n
  induction n with
  | zero => intro mi h0 p e R s m args below meth c Q d bk ls st h x _ _ _ _ _ _ _ hex; cases hex
  | succ n ih =>
    intro mi h0 p e R s m args below meth c Q d bk ls st h x hok hF hRf hRl hRc hRs hRet hex H locs cells slots lr hR hL
    have hmet := met_of_frm hM hbs ih
    have hblk := blk_sound (Q := Q) (x := x) hG hM hXw hF hRf hRl (z := decide (d ≠ 0)) (fun q => by have := of_decide_eq_true q; omega) (C := fun c as h' => match (generalizing := false) d with | 0 => none | d' + 1 => exec (PB G.M) sc n d' c 0 as [] h') (K := fun b' ls' st' h' => exec (PB G.M) sc n d mi b' ls' st' h')
      (fun c as h x hx => by
        cases d with
        | zero => cases hx
        | succ d => exact exec_gr _ _ _ _ _ _ _ _ _ _ hx)
      (fun b' ls st h x hx => exec_gr _ _ _ _ _ _ _ _ _ _ hx) hRc hRs
      (fun cl as h r h' hcl hx => by
        unfold callE at hx
        split at hx
        · next hlen =>
          cases d with
          | zero => cases hx
          | succ d => exact ⟨d, rfl, hmet cl d as h r h' hcl hlen hx⟩
        · cases hx)
      (fun bk ls st h hx H locs cells slots lr hR hL => ih mi h0 p e R s m args below meth c Q d bk ls st h x hok hF hRf hRl hRc hRs hRet hx H locs cells slots lr hR hL)
      hRet (PB G.M mi bk) ls st h (okM_blk hok bk) hex H locs cells slots lr hR hL
    exact hblk
end Snd
end
section
-- ===== PART A: goes FIRST, ahead of the names: the tables' words, and 'selects' of the private methods out of them =====
/-- a private method of a class that the tables say can be made, by its rows of tables_1 -/
def lw_okq (q : MethodName × Nat) : Prop := (q.1.cls ≠ "java/lang/invoke/MethodHandle" ∧ q.1.cls ≠ "java/lang/invoke/VarHandle") ∧ Cond.instantiable q.1.cls q.2 ∈ tables_1 ∧ Cond.privateMethod q.1 ∈ tables_1 ∧ Cond.instanceMethod q.1 ∈ tables_1
theorem lw_p0 : lw_okq (⟨"LetterChute", "found", "(I)I"⟩, 13) := ⟨⟨by decide +kernel, by decide +kernel⟩, List.mem_of_getElem? (i := 18) (by decide +kernel), List.mem_of_getElem? (i := 304) (by decide +kernel), List.mem_of_getElem? (i := 305) (by decide +kernel)⟩
theorem lw_p1 : lw_okq (⟨"LetterChute", "foundNothing", "(I)I"⟩, 13) := ⟨⟨by decide +kernel, by decide +kernel⟩, List.mem_of_getElem? (i := 18) (by decide +kernel), List.mem_of_getElem? (i := 313) (by decide +kernel), List.mem_of_getElem? (i := 314) (by decide +kernel)⟩
theorem lw_p2 : lw_okq (⟨"LetterChute$Reader", "readLaw", "(LLetterChute$House;)Z"⟩, 5) := ⟨⟨by decide +kernel, by decide +kernel⟩, List.mem_of_getElem? (i := 47) (by decide +kernel), List.mem_of_getElem? (i := 368) (by decide +kernel), List.mem_of_getElem? (i := 369) (by decide +kernel)⟩
theorem lw_p3 : lw_okq (⟨"LetterChute$Reader", "passSign", "(I)Z"⟩, 5) := ⟨⟨by decide +kernel, by decide +kernel⟩, List.mem_of_getElem? (i := 47) (by decide +kernel), List.mem_of_getElem? (i := 372) (by decide +kernel), List.mem_of_getElem? (i := 373) (by decide +kernel)⟩
theorem lw_p4 : lw_okq (⟨"LetterChute$Reader", "byteAt", "(I)I"⟩, 5) := ⟨⟨by decide +kernel, by decide +kernel⟩, List.mem_of_getElem? (i := 47) (by decide +kernel), List.mem_of_getElem? (i := 376) (by decide +kernel), List.mem_of_getElem? (i := 377) (by decide +kernel)⟩
theorem lw_p5 : lw_okq (⟨"LetterChute$Reader", "fails", "(I)Z"⟩, 5) := ⟨⟨by decide +kernel, by decide +kernel⟩, List.mem_of_getElem? (i := 47) (by decide +kernel), List.mem_of_getElem? (i := 381) (by decide +kernel), List.mem_of_getElem? (i := 382) (by decide +kernel)⟩
theorem lw_p6 : lw_okq (⟨"LetterChute$Reader", "passNumber", "(II)Z"⟩, 5) := ⟨⟨by decide +kernel, by decide +kernel⟩, List.mem_of_getElem? (i := 47) (by decide +kernel), List.mem_of_getElem? (i := 385) (by decide +kernel), List.mem_of_getElem? (i := 386) (by decide +kernel)⟩
theorem lw_p7 : lw_okq (⟨"LetterChute$Reader", "readLetter", "(LLetterChute$House;)Z"⟩, 5) := ⟨⟨by decide +kernel, by decide +kernel⟩, List.mem_of_getElem? (i := 47) (by decide +kernel), List.mem_of_getElem? (i := 396) (by decide +kernel), List.mem_of_getElem? (i := 397) (by decide +kernel)⟩
theorem lw_p8 : lw_okq (⟨"LetterChute", "standAs", "(LLetterChute$House;)V"⟩, 13) := ⟨⟨by decide +kernel, by decide +kernel⟩, List.mem_of_getElem? (i := 18) (by decide +kernel), List.mem_of_getElem? (i := 408) (by decide +kernel), List.mem_of_getElem? (i := 409) (by decide +kernel)⟩
theorem lw_p9 : lw_okq (⟨"LetterChute", "hasNoHouse", "()Z"⟩, 13) := ⟨⟨by decide +kernel, by decide +kernel⟩, List.mem_of_getElem? (i := 18) (by decide +kernel), List.mem_of_getElem? (i := 434) (by decide +kernel), List.mem_of_getElem? (i := 435) (by decide +kernel)⟩
theorem lw_p10 : lw_okq (⟨"LetterChute", "keepForUndo", "()V"⟩, 13) := ⟨⟨by decide +kernel, by decide +kernel⟩, List.mem_of_getElem? (i := 18) (by decide +kernel), List.mem_of_getElem? (i := 438) (by decide +kernel), List.mem_of_getElem? (i := 439) (by decide +kernel)⟩
theorem lw_p11 : lw_okq (⟨"LetterChute$House", "letFall", "(I)V"⟩, 15) := ⟨⟨by decide +kernel, by decide +kernel⟩, List.mem_of_getElem? (i := 139) (by decide +kernel), List.mem_of_getElem? (i := 449) (by decide +kernel), List.mem_of_getElem? (i := 450) (by decide +kernel)⟩
theorem lw_p12 : lw_okq (⟨"LetterChute$House", "hasRoom", "(II)Z"⟩, 15) := ⟨⟨by decide +kernel, by decide +kernel⟩, List.mem_of_getElem? (i := 139) (by decide +kernel), List.mem_of_getElem? (i := 461) (by decide +kernel), List.mem_of_getElem? (i := 462) (by decide +kernel)⟩
theorem lw_p13 : lw_okq (⟨"LetterChute", "isLetter", "(I)Z"⟩, 13) := ⟨⟨by decide +kernel, by decide +kernel⟩, List.mem_of_getElem? (i := 18) (by decide +kernel), List.mem_of_getElem? (i := 477) (by decide +kernel), List.mem_of_getElem? (i := 478) (by decide +kernel)⟩
theorem lw_p14 : lw_okq (⟨"LetterChute", "isFloor", "(I)Z"⟩, 13) := ⟨⟨by decide +kernel, by decide +kernel⟩, List.mem_of_getElem? (i := 18) (by decide +kernel), List.mem_of_getElem? (i := 491) (by decide +kernel), List.mem_of_getElem? (i := 492) (by decide +kernel)⟩
theorem lw_p15 : lw_okq (⟨"LetterChute$Oracle", "extendOrder", "(LLetterChute$House;III)V"⟩, 8) := ⟨⟨by decide +kernel, by decide +kernel⟩, List.mem_of_getElem? (i := 217) (by decide +kernel), List.mem_of_getElem? (i := 579) (by decide +kernel), List.mem_of_getElem? (i := 580) (by decide +kernel)⟩
def lw_privs_1 : List (MethodName × Nat) := [(⟨"LetterChute", "found", "(I)I"⟩, 13), (⟨"LetterChute", "foundNothing", "(I)I"⟩, 13), (⟨"LetterChute$Reader", "readLaw", "(LLetterChute$House;)Z"⟩, 5), (⟨"LetterChute$Reader", "passSign", "(I)Z"⟩, 5), (⟨"LetterChute$Reader", "byteAt", "(I)I"⟩, 5), (⟨"LetterChute$Reader", "fails", "(I)Z"⟩, 5), (⟨"LetterChute$Reader", "passNumber", "(II)Z"⟩, 5), (⟨"LetterChute$Reader", "readLetter", "(LLetterChute$House;)Z"⟩, 5), (⟨"LetterChute", "standAs", "(LLetterChute$House;)V"⟩, 13), (⟨"LetterChute", "hasNoHouse", "()Z"⟩, 13), (⟨"LetterChute", "keepForUndo", "()V"⟩, 13), (⟨"LetterChute$House", "letFall", "(I)V"⟩, 15), (⟨"LetterChute$House", "hasRoom", "(II)Z"⟩, 15), (⟨"LetterChute", "isLetter", "(I)Z"⟩, 13), (⟨"LetterChute", "isFloor", "(I)Z"⟩, 13), (⟨"LetterChute$Oracle", "extendOrder", "(LLetterChute$House;III)V"⟩, 8)]
theorem lw_r1 : ∀ q ∈ lw_privs_1, lw_okq q := List.forall_mem_cons.mpr ⟨lw_p0, List.forall_mem_cons.mpr ⟨lw_p1, List.forall_mem_cons.mpr ⟨lw_p2, List.forall_mem_cons.mpr ⟨lw_p3, List.forall_mem_cons.mpr ⟨lw_p4, List.forall_mem_cons.mpr ⟨lw_p5, List.forall_mem_cons.mpr ⟨lw_p6, List.forall_mem_cons.mpr ⟨lw_p7, List.forall_mem_cons.mpr ⟨lw_p8, List.forall_mem_cons.mpr ⟨lw_p9, List.forall_mem_cons.mpr ⟨lw_p10, List.forall_mem_cons.mpr ⟨lw_p11, List.forall_mem_cons.mpr ⟨lw_p12, List.forall_mem_cons.mpr ⟨lw_p13, List.forall_mem_cons.mpr ⟨lw_p14, List.forall_mem_cons.mpr ⟨lw_p15, fun _ h => absurd h List.not_mem_nil⟩⟩⟩⟩⟩⟩⟩⟩⟩⟩⟩⟩⟩⟩⟩⟩
theorem lw_p16 : lw_okq (⟨"LetterChute$Oracle", "weighOrder", "(LLetterChute$House;I)V"⟩, 8) := ⟨⟨by decide +kernel, by decide +kernel⟩, List.mem_of_getElem? (i := 217) (by decide +kernel), List.mem_of_getElem? (i := 583) (by decide +kernel), List.mem_of_getElem? (i := 584) (by decide +kernel)⟩
theorem lw_p17 : lw_okq (⟨"LetterChute$Oracle", "couldStandEarlier", "(LLetterChute$House;II)Z"⟩, 8) := ⟨⟨by decide +kernel, by decide +kernel⟩, List.mem_of_getElem? (i := 217) (by decide +kernel), List.mem_of_getElem? (i := 595) (by decide +kernel), List.mem_of_getElem? (i := 596) (by decide +kernel)⟩
theorem lw_p18 : lw_okq (⟨"LetterChute", "setsSoThick", "(II)I"⟩, 13) := ⟨⟨by decide +kernel, by decide +kernel⟩, List.mem_of_getElem? (i := 18) (by decide +kernel), List.mem_of_getElem? (i := 620) (by decide +kernel), List.mem_of_getElem? (i := 621) (by decide +kernel)⟩
theorem lw_p19 : lw_okq (⟨"LetterChute", "stampsFor", "(II)I"⟩, 13) := ⟨⟨by decide +kernel, by decide +kernel⟩, List.mem_of_getElem? (i := 18) (by decide +kernel), List.mem_of_getElem? (i := 632) (by decide +kernel), List.mem_of_getElem? (i := 633) (by decide +kernel)⟩
theorem lw_p20 : lw_okq (⟨"LetterChute$Oracle", "playTurns", "(IIIII)I"⟩, 8) := ⟨⟨by decide +kernel, by decide +kernel⟩, List.mem_of_getElem? (i := 217) (by decide +kernel), List.mem_of_getElem? (i := 644) (by decide +kernel), List.mem_of_getElem? (i := 645) (by decide +kernel)⟩
theorem lw_p21 : lw_okq (⟨"LetterChute", "whoFits", "(II)I"⟩, 13) := ⟨⟨by decide +kernel, by decide +kernel⟩, List.mem_of_getElem? (i := 18) (by decide +kernel), List.mem_of_getElem? (i := 667) (by decide +kernel), List.mem_of_getElem? (i := 668) (by decide +kernel)⟩
theorem lw_p22 : lw_okq (⟨"LetterChute$Oracle", "varyTrial", "(III)V"⟩, 8) := ⟨⟨by decide +kernel, by decide +kernel⟩, List.mem_of_getElem? (i := 217) (by decide +kernel), List.mem_of_getElem? (i := 675) (by decide +kernel), List.mem_of_getElem? (i := 676) (by decide +kernel)⟩
theorem lw_p23 : lw_okq (⟨"LetterChute$Oracle", "trialFits", "()Z"⟩, 8) := ⟨⟨by decide +kernel, by decide +kernel⟩, List.mem_of_getElem? (i := 217) (by decide +kernel), List.mem_of_getElem? (i := 683) (by decide +kernel), List.mem_of_getElem? (i := 684) (by decide +kernel)⟩
theorem lw_p24 : lw_okq (⟨"LetterChute$Oracle", "isBoxedWithout", "(LLetterChute$House;III)Z"⟩, 8) := ⟨⟨by decide +kernel, by decide +kernel⟩, List.mem_of_getElem? (i := 217) (by decide +kernel), List.mem_of_getElem? (i := 708) (by decide +kernel), List.mem_of_getElem? (i := 709) (by decide +kernel)⟩
theorem lw_p25 : lw_okq (⟨"LetterChute", "sortOf", "(I)LLetterChute$Letter;"⟩, 13) := ⟨⟨by decide +kernel, by decide +kernel⟩, List.mem_of_getElem? (i := 18) (by decide +kernel), List.mem_of_getElem? (i := 749) (by decide +kernel), List.mem_of_getElem? (i := 750) (by decide +kernel)⟩
theorem lw_p26 : lw_okq (⟨"LetterChuteModel", "found", "(I)I"⟩, 35) := ⟨⟨by decide +kernel, by decide +kernel⟩, List.mem_of_getElem? (i := 832) (by decide +kernel), List.mem_of_getElem? (i := 958) (by decide +kernel), List.mem_of_getElem? (i := 959) (by decide +kernel)⟩
theorem lw_p27 : lw_okq (⟨"LetterChuteModel", "well", "(I)I"⟩, 35) := ⟨⟨by decide +kernel, by decide +kernel⟩, List.mem_of_getElem? (i := 832) (by decide +kernel), List.mem_of_getElem? (i := 963) (by decide +kernel), List.mem_of_getElem? (i := 964) (by decide +kernel)⟩
theorem lw_p28 : lw_okq (⟨"LetterChuteModel", "isSpan", "(III)Z"⟩, 35) := ⟨⟨by decide +kernel, by decide +kernel⟩, List.mem_of_getElem? (i := 832) (by decide +kernel), List.mem_of_getElem? (i := 975) (by decide +kernel), List.mem_of_getElem? (i := 976) (by decide +kernel)⟩
theorem lw_p29 : lw_okq (⟨"LetterChuteModel", "readAll", "()I"⟩, 35) := ⟨⟨by decide +kernel, by decide +kernel⟩, List.mem_of_getElem? (i := 832) (by decide +kernel), List.mem_of_getElem? (i := 993) (by decide +kernel), List.mem_of_getElem? (i := 994) (by decide +kernel)⟩
theorem lw_p30 : lw_okq (⟨"LetterChuteModel", "law", "()I"⟩, 35) := ⟨⟨by decide +kernel, by decide +kernel⟩, List.mem_of_getElem? (i := 832) (by decide +kernel), List.mem_of_getElem? (i := 997) (by decide +kernel), List.mem_of_getElem? (i := 998) (by decide +kernel)⟩
theorem lw_p31 : lw_okq (⟨"LetterChuteModel", "sign", "(I)I"⟩, 35) := ⟨⟨by decide +kernel, by decide +kernel⟩, List.mem_of_getElem? (i := 832) (by decide +kernel), List.mem_of_getElem? (i := 1001) (by decide +kernel), List.mem_of_getElem? (i := 1002) (by decide +kernel)⟩
def lw_privs_2 : List (MethodName × Nat) := [(⟨"LetterChute$Oracle", "weighOrder", "(LLetterChute$House;I)V"⟩, 8), (⟨"LetterChute$Oracle", "couldStandEarlier", "(LLetterChute$House;II)Z"⟩, 8), (⟨"LetterChute", "setsSoThick", "(II)I"⟩, 13), (⟨"LetterChute", "stampsFor", "(II)I"⟩, 13), (⟨"LetterChute$Oracle", "playTurns", "(IIIII)I"⟩, 8), (⟨"LetterChute", "whoFits", "(II)I"⟩, 13), (⟨"LetterChute$Oracle", "varyTrial", "(III)V"⟩, 8), (⟨"LetterChute$Oracle", "trialFits", "()Z"⟩, 8), (⟨"LetterChute$Oracle", "isBoxedWithout", "(LLetterChute$House;III)Z"⟩, 8), (⟨"LetterChute", "sortOf", "(I)LLetterChute$Letter;"⟩, 13), (⟨"LetterChuteModel", "found", "(I)I"⟩, 35), (⟨"LetterChuteModel", "well", "(I)I"⟩, 35), (⟨"LetterChuteModel", "isSpan", "(III)Z"⟩, 35), (⟨"LetterChuteModel", "readAll", "()I"⟩, 35), (⟨"LetterChuteModel", "law", "()I"⟩, 35), (⟨"LetterChuteModel", "sign", "(I)I"⟩, 35)]
theorem lw_r2 : ∀ q ∈ lw_privs_2, lw_okq q := List.forall_mem_cons.mpr ⟨lw_p16, List.forall_mem_cons.mpr ⟨lw_p17, List.forall_mem_cons.mpr ⟨lw_p18, List.forall_mem_cons.mpr ⟨lw_p19, List.forall_mem_cons.mpr ⟨lw_p20, List.forall_mem_cons.mpr ⟨lw_p21, List.forall_mem_cons.mpr ⟨lw_p22, List.forall_mem_cons.mpr ⟨lw_p23, List.forall_mem_cons.mpr ⟨lw_p24, List.forall_mem_cons.mpr ⟨lw_p25, List.forall_mem_cons.mpr ⟨lw_p26, List.forall_mem_cons.mpr ⟨lw_p27, List.forall_mem_cons.mpr ⟨lw_p28, List.forall_mem_cons.mpr ⟨lw_p29, List.forall_mem_cons.mpr ⟨lw_p30, List.forall_mem_cons.mpr ⟨lw_p31, fun _ h => absurd h List.not_mem_nil⟩⟩⟩⟩⟩⟩⟩⟩⟩⟩⟩⟩⟩⟩⟩⟩
theorem lw_p32 : lw_okq (⟨"LetterChuteModel", "next", "()V"⟩, 35) := ⟨⟨by decide +kernel, by decide +kernel⟩, List.mem_of_getElem? (i := 832) (by decide +kernel), List.mem_of_getElem? (i := 1005) (by decide +kernel), List.mem_of_getElem? (i := 1006) (by decide +kernel)⟩
theorem lw_p33 : lw_okq (⟨"LetterChuteModel", "numberIn", "(II)I"⟩, 35) := ⟨⟨by decide +kernel, by decide +kernel⟩, List.mem_of_getElem? (i := 832) (by decide +kernel), List.mem_of_getElem? (i := 1016) (by decide +kernel), List.mem_of_getElem? (i := 1017) (by decide +kernel)⟩
theorem lw_p34 : lw_okq (⟨"LetterChuteModel", "letterItem", "()I"⟩, 35) := ⟨⟨by decide +kernel, by decide +kernel⟩, List.mem_of_getElem? (i := 832) (by decide +kernel), List.mem_of_getElem? (i := 1020) (by decide +kernel), List.mem_of_getElem? (i := 1021) (by decide +kernel)⟩
theorem lw_p35 : lw_okq (⟨"LetterChuteModel", "note", "()V"⟩, 35) := ⟨⟨by decide +kernel, by decide +kernel⟩, List.mem_of_getElem? (i := 832) (by decide +kernel), List.mem_of_getElem? (i := 1042) (by decide +kernel), List.mem_of_getElem? (i := 1043) (by decide +kernel)⟩
theorem lw_p36 : lw_okq (⟨"LetterChuteModel", "aside", "()V"⟩, 35) := ⟨⟨by decide +kernel, by decide +kernel⟩, List.mem_of_getElem? (i := 832) (by decide +kernel), List.mem_of_getElem? (i := 1046) (by decide +kernel), List.mem_of_getElem? (i := 1047) (by decide +kernel)⟩
theorem lw_p37 : lw_okq (⟨"LetterChuteModel", "goTicks", "(I)V"⟩, 35) := ⟨⟨by decide +kernel, by decide +kernel⟩, List.mem_of_getElem? (i := 832) (by decide +kernel), List.mem_of_getElem? (i := 1050) (by decide +kernel), List.mem_of_getElem? (i := 1051) (by decide +kernel)⟩
theorem lw_p38 : lw_okq (⟨"LetterChuteModel", "byNumbers", "()V"⟩, 35) := ⟨⟨by decide +kernel, by decide +kernel⟩, List.mem_of_getElem? (i := 832) (by decide +kernel), List.mem_of_getElem? (i := 1054) (by decide +kernel), List.mem_of_getElem? (i := 1055) (by decide +kernel)⟩
theorem lw_p39 : lw_okq (⟨"LetterChuteModel", "goTick", "()V"⟩, 35) := ⟨⟨by decide +kernel, by decide +kernel⟩, List.mem_of_getElem? (i := 832) (by decide +kernel), List.mem_of_getElem? (i := 1058) (by decide +kernel), List.mem_of_getElem? (i := 1059) (by decide +kernel)⟩
theorem lw_p40 : lw_okq (⟨"LetterChuteModel", "goFall", "(I)V"⟩, 35) := ⟨⟨by decide +kernel, by decide +kernel⟩, List.mem_of_getElem? (i := 832) (by decide +kernel), List.mem_of_getElem? (i := 1062) (by decide +kernel), List.mem_of_getElem? (i := 1063) (by decide +kernel)⟩
theorem lw_p41 : lw_okq (⟨"LetterChuteModel", "fallOf", "(I)I"⟩, 35) := ⟨⟨by decide +kernel, by decide +kernel⟩, List.mem_of_getElem? (i := 832) (by decide +kernel), List.mem_of_getElem? (i := 1066) (by decide +kernel), List.mem_of_getElem? (i := 1067) (by decide +kernel)⟩
theorem lw_p42 : lw_okq (⟨"LetterChuteModel", "kindNow", "(I)I"⟩, 35) := ⟨⟨by decide +kernel, by decide +kernel⟩, List.mem_of_getElem? (i := 832) (by decide +kernel), List.mem_of_getElem? (i := 1070) (by decide +kernel), List.mem_of_getElem? (i := 1071) (by decide +kernel)⟩
theorem lw_p43 : lw_okq (⟨"LetterChuteModel", "hasRoom", "(II)Z"⟩, 35) := ⟨⟨by decide +kernel, by decide +kernel⟩, List.mem_of_getElem? (i := 832) (by decide +kernel), List.mem_of_getElem? (i := 1074) (by decide +kernel), List.mem_of_getElem? (i := 1075) (by decide +kernel)⟩
theorem lw_p44 : lw_okq (⟨"LetterChuteModel", "fullBut", "(II)I"⟩, 35) := ⟨⟨by decide +kernel, by decide +kernel⟩, List.mem_of_getElem? (i := 832) (by decide +kernel), List.mem_of_getElem? (i := 1078) (by decide +kernel), List.mem_of_getElem? (i := 1079) (by decide +kernel)⟩
theorem lw_p45 : lw_okq (⟨"LetterChuteModel", "thickNow", "(I)I"⟩, 35) := ⟨⟨by decide +kernel, by decide +kernel⟩, List.mem_of_getElem? (i := 832) (by decide +kernel), List.mem_of_getElem? (i := 1082) (by decide +kernel), List.mem_of_getElem? (i := 1083) (by decide +kernel)⟩
theorem lw_p46 : lw_okq (⟨"LetterChuteModel", "take", "()V"⟩, 35) := ⟨⟨by decide +kernel, by decide +kernel⟩, List.mem_of_getElem? (i := 832) (by decide +kernel), List.mem_of_getElem? (i := 1086) (by decide +kernel), List.mem_of_getElem? (i := 1087) (by decide +kernel)⟩
theorem lw_p47 : lw_okq (⟨"LetterChuteModel", "boxed", "()I"⟩, 35) := ⟨⟨by decide +kernel, by decide +kernel⟩, List.mem_of_getElem? (i := 832) (by decide +kernel), List.mem_of_getElem? (i := 1090) (by decide +kernel), List.mem_of_getElem? (i := 1091) (by decide +kernel)⟩
def lw_privs_3 : List (MethodName × Nat) := [(⟨"LetterChuteModel", "next", "()V"⟩, 35), (⟨"LetterChuteModel", "numberIn", "(II)I"⟩, 35), (⟨"LetterChuteModel", "letterItem", "()I"⟩, 35), (⟨"LetterChuteModel", "note", "()V"⟩, 35), (⟨"LetterChuteModel", "aside", "()V"⟩, 35), (⟨"LetterChuteModel", "goTicks", "(I)V"⟩, 35), (⟨"LetterChuteModel", "byNumbers", "()V"⟩, 35), (⟨"LetterChuteModel", "goTick", "()V"⟩, 35), (⟨"LetterChuteModel", "goFall", "(I)V"⟩, 35), (⟨"LetterChuteModel", "fallOf", "(I)I"⟩, 35), (⟨"LetterChuteModel", "kindNow", "(I)I"⟩, 35), (⟨"LetterChuteModel", "hasRoom", "(II)Z"⟩, 35), (⟨"LetterChuteModel", "fullBut", "(II)I"⟩, 35), (⟨"LetterChuteModel", "thickNow", "(I)I"⟩, 35), (⟨"LetterChuteModel", "take", "()V"⟩, 35), (⟨"LetterChuteModel", "boxed", "()I"⟩, 35)]
theorem lw_r3 : ∀ q ∈ lw_privs_3, lw_okq q := List.forall_mem_cons.mpr ⟨lw_p32, List.forall_mem_cons.mpr ⟨lw_p33, List.forall_mem_cons.mpr ⟨lw_p34, List.forall_mem_cons.mpr ⟨lw_p35, List.forall_mem_cons.mpr ⟨lw_p36, List.forall_mem_cons.mpr ⟨lw_p37, List.forall_mem_cons.mpr ⟨lw_p38, List.forall_mem_cons.mpr ⟨lw_p39, List.forall_mem_cons.mpr ⟨lw_p40, List.forall_mem_cons.mpr ⟨lw_p41, List.forall_mem_cons.mpr ⟨lw_p42, List.forall_mem_cons.mpr ⟨lw_p43, List.forall_mem_cons.mpr ⟨lw_p44, List.forall_mem_cons.mpr ⟨lw_p45, List.forall_mem_cons.mpr ⟨lw_p46, List.forall_mem_cons.mpr ⟨lw_p47, fun _ h => absurd h List.not_mem_nil⟩⟩⟩⟩⟩⟩⟩⟩⟩⟩⟩⟩⟩⟩⟩⟩
theorem lw_p48 : lw_okq (⟨"LetterChuteModel", "isLetter", "(I)Z"⟩, 35) := ⟨⟨by decide +kernel, by decide +kernel⟩, List.mem_of_getElem? (i := 832) (by decide +kernel), List.mem_of_getElem? (i := 1103) (by decide +kernel), List.mem_of_getElem? (i := 1104) (by decide +kernel)⟩
theorem lw_p49 : lw_okq (⟨"LetterChuteModel", "isShaft", "(I)Z"⟩, 35) := ⟨⟨by decide +kernel, by decide +kernel⟩, List.mem_of_getElem? (i := 832) (by decide +kernel), List.mem_of_getElem? (i := 1107) (by decide +kernel), List.mem_of_getElem? (i := 1108) (by decide +kernel)⟩
theorem lw_p50 : lw_okq (⟨"LetterChuteModel", "goPoke", "(I)V"⟩, 35) := ⟨⟨by decide +kernel, by decide +kernel⟩, List.mem_of_getElem? (i := 832) (by decide +kernel), List.mem_of_getElem? (i := 1111) (by decide +kernel), List.mem_of_getElem? (i := 1112) (by decide +kernel)⟩
theorem lw_p51 : lw_okq (⟨"LetterChuteModel", "isFloor", "(I)Z"⟩, 35) := ⟨⟨by decide +kernel, by decide +kernel⟩, List.mem_of_getElem? (i := 832) (by decide +kernel), List.mem_of_getElem? (i := 1119) (by decide +kernel), List.mem_of_getElem? (i := 1120) (by decide +kernel)⟩
theorem lw_p52 : lw_okq (⟨"LetterChuteModel", "goPost", "(II)V"⟩, 35) := ⟨⟨by decide +kernel, by decide +kernel⟩, List.mem_of_getElem? (i := 832) (by decide +kernel), List.mem_of_getElem? (i := 1123) (by decide +kernel), List.mem_of_getElem? (i := 1124) (by decide +kernel)⟩
theorem lw_p53 : lw_okq (⟨"LetterChuteModel", "waiting", "()I"⟩, 35) := ⟨⟨by decide +kernel, by decide +kernel⟩, List.mem_of_getElem? (i := 832) (by decide +kernel), List.mem_of_getElem? (i := 1127) (by decide +kernel), List.mem_of_getElem? (i := 1128) (by decide +kernel)⟩
theorem lw_p54 : lw_okq (⟨"LetterChuteModel", "everyone", "()I"⟩, 35) := ⟨⟨by decide +kernel, by decide +kernel⟩, List.mem_of_getElem? (i := 832) (by decide +kernel), List.mem_of_getElem? (i := 1144) (by decide +kernel), List.mem_of_getElem? (i := 1145) (by decide +kernel)⟩
theorem lw_p55 : lw_okq (⟨"LetterChuteModel", "stuckAll", "()I"⟩, 35) := ⟨⟨by decide +kernel, by decide +kernel⟩, List.mem_of_getElem? (i := 832) (by decide +kernel), List.mem_of_getElem? (i := 1164) (by decide +kernel), List.mem_of_getElem? (i := 1165) (by decide +kernel)⟩
theorem lw_p56 : lw_okq (⟨"LetterChuteModel", "layOrder", "(I)Z"⟩, 35) := ⟨⟨by decide +kernel, by decide +kernel⟩, List.mem_of_getElem? (i := 832) (by decide +kernel), List.mem_of_getElem? (i := 1181) (by decide +kernel), List.mem_of_getElem? (i := 1182) (by decide +kernel)⟩
theorem lw_p57 : lw_okq (⟨"LetterChuteModel", "byMoves", "(IIIIII)I"⟩, 35) := ⟨⟨by decide +kernel, by decide +kernel⟩, List.mem_of_getElem? (i := 832) (by decide +kernel), List.mem_of_getElem? (i := 1214) (by decide +kernel), List.mem_of_getElem? (i := 1215) (by decide +kernel)⟩
theorem lw_p58 : lw_okq (⟨"LetterChuteModel", "porter", "(I)Z"⟩, 35) := ⟨⟨by decide +kernel, by decide +kernel⟩, List.mem_of_getElem? (i := 832) (by decide +kernel), List.mem_of_getElem? (i := 1218) (by decide +kernel), List.mem_of_getElem? (i := 1219) (by decide +kernel)⟩
theorem lw_p59 : lw_okq (⟨"LetterChuteModel", "boy", "(I)V"⟩, 35) := ⟨⟨by decide +kernel, by decide +kernel⟩, List.mem_of_getElem? (i := 832) (by decide +kernel), List.mem_of_getElem? (i := 1222) (by decide +kernel), List.mem_of_getElem? (i := 1223) (by decide +kernel)⟩
theorem lw_p60 : lw_okq (⟨"LetterChuteModel", "kindSet", "(IIII)I"⟩, 35) := ⟨⟨by decide +kernel, by decide +kernel⟩, List.mem_of_getElem? (i := 832) (by decide +kernel), List.mem_of_getElem? (i := 1231) (by decide +kernel), List.mem_of_getElem? (i := 1232) (by decide +kernel)⟩
theorem lw_p61 : lw_okq (⟨"LetterChuteModel", "isRowSo", "(III)Z"⟩, 35) := ⟨⟨by decide +kernel, by decide +kernel⟩, List.mem_of_getElem? (i := 832) (by decide +kernel), List.mem_of_getElem? (i := 1235) (by decide +kernel), List.mem_of_getElem? (i := 1236) (by decide +kernel)⟩
theorem lw_p62 : lw_okq (⟨"LetterChuteModel", "thickSet", "(IIII)I"⟩, 35) := ⟨⟨by decide +kernel, by decide +kernel⟩, List.mem_of_getElem? (i := 832) (by decide +kernel), List.mem_of_getElem? (i := 1239) (by decide +kernel), List.mem_of_getElem? (i := 1240) (by decide +kernel)⟩
theorem lw_p63 : lw_okq (⟨"LetterChuteModel", "floorSet", "(IIII)I"⟩, 35) := ⟨⟨by decide +kernel, by decide +kernel⟩, List.mem_of_getElem? (i := 832) (by decide +kernel), List.mem_of_getElem? (i := 1243) (by decide +kernel), List.mem_of_getElem? (i := 1244) (by decide +kernel)⟩
def lw_privs_4 : List (MethodName × Nat) := [(⟨"LetterChuteModel", "isLetter", "(I)Z"⟩, 35), (⟨"LetterChuteModel", "isShaft", "(I)Z"⟩, 35), (⟨"LetterChuteModel", "goPoke", "(I)V"⟩, 35), (⟨"LetterChuteModel", "isFloor", "(I)Z"⟩, 35), (⟨"LetterChuteModel", "goPost", "(II)V"⟩, 35), (⟨"LetterChuteModel", "waiting", "()I"⟩, 35), (⟨"LetterChuteModel", "everyone", "()I"⟩, 35), (⟨"LetterChuteModel", "stuckAll", "()I"⟩, 35), (⟨"LetterChuteModel", "layOrder", "(I)Z"⟩, 35), (⟨"LetterChuteModel", "byMoves", "(IIIIII)I"⟩, 35), (⟨"LetterChuteModel", "porter", "(I)Z"⟩, 35), (⟨"LetterChuteModel", "boy", "(I)V"⟩, 35), (⟨"LetterChuteModel", "kindSet", "(IIII)I"⟩, 35), (⟨"LetterChuteModel", "isRowSo", "(III)Z"⟩, 35), (⟨"LetterChuteModel", "thickSet", "(IIII)I"⟩, 35), (⟨"LetterChuteModel", "floorSet", "(IIII)I"⟩, 35)]
theorem lw_r4 : ∀ q ∈ lw_privs_4, lw_okq q := List.forall_mem_cons.mpr ⟨lw_p48, List.forall_mem_cons.mpr ⟨lw_p49, List.forall_mem_cons.mpr ⟨lw_p50, List.forall_mem_cons.mpr ⟨lw_p51, List.forall_mem_cons.mpr ⟨lw_p52, List.forall_mem_cons.mpr ⟨lw_p53, List.forall_mem_cons.mpr ⟨lw_p54, List.forall_mem_cons.mpr ⟨lw_p55, List.forall_mem_cons.mpr ⟨lw_p56, List.forall_mem_cons.mpr ⟨lw_p57, List.forall_mem_cons.mpr ⟨lw_p58, List.forall_mem_cons.mpr ⟨lw_p59, List.forall_mem_cons.mpr ⟨lw_p60, List.forall_mem_cons.mpr ⟨lw_p61, List.forall_mem_cons.mpr ⟨lw_p62, List.forall_mem_cons.mpr ⟨lw_p63, fun _ h => absurd h List.not_mem_nil⟩⟩⟩⟩⟩⟩⟩⟩⟩⟩⟩⟩⟩⟩⟩⟩
theorem lw_p64 : lw_okq (⟨"LetterChuteModel", "wideSet", "(III)I"⟩, 35) := ⟨⟨by decide +kernel, by decide +kernel⟩, List.mem_of_getElem? (i := 832) (by decide +kernel), List.mem_of_getElem? (i := 1247) (by decide +kernel), List.mem_of_getElem? (i := 1248) (by decide +kernel)⟩
theorem lw_p65 : lw_okq (⟨"LetterChuteModel", "size", "(I)I"⟩, 35) := ⟨⟨by decide +kernel, by decide +kernel⟩, List.mem_of_getElem? (i := 832) (by decide +kernel), List.mem_of_getElem? (i := 1286) (by decide +kernel), List.mem_of_getElem? (i := 1287) (by decide +kernel)⟩
theorem lw_p66 : lw_okq (⟨"LetterChuteModel", "parcelSize", "(I)I"⟩, 35) := ⟨⟨by decide +kernel, by decide +kernel⟩, List.mem_of_getElem? (i := 832) (by decide +kernel), List.mem_of_getElem? (i := 1290) (by decide +kernel), List.mem_of_getElem? (i := 1291) (by decide +kernel)⟩
theorem lw_p67 : lw_okq (⟨"LetterChuteModel", "leaves", "(I)V"⟩, 35) := ⟨⟨by decide +kernel, by decide +kernel⟩, List.mem_of_getElem? (i := 832) (by decide +kernel), List.mem_of_getElem? (i := 1294) (by decide +kernel), List.mem_of_getElem? (i := 1295) (by decide +kernel)⟩
theorem lw_p68 : lw_okq (⟨"LetterChuteModel", "body13", "(I)I"⟩, 35) := ⟨⟨by decide +kernel, by decide +kernel⟩, List.mem_of_getElem? (i := 832) (by decide +kernel), List.mem_of_getElem? (i := 1298) (by decide +kernel), List.mem_of_getElem? (i := 1299) (by decide +kernel)⟩
theorem lw_p69 : lw_okq (⟨"LetterChuteModel", "body10", "(I)I"⟩, 35) := ⟨⟨by decide +kernel, by decide +kernel⟩, List.mem_of_getElem? (i := 832) (by decide +kernel), List.mem_of_getElem? (i := 1302) (by decide +kernel), List.mem_of_getElem? (i := 1303) (by decide +kernel)⟩
theorem lw_p70 : lw_okq (⟨"LetterChuteModel", "body11", "(I)I"⟩, 35) := ⟨⟨by decide +kernel, by decide +kernel⟩, List.mem_of_getElem? (i := 832) (by decide +kernel), List.mem_of_getElem? (i := 1306) (by decide +kernel), List.mem_of_getElem? (i := 1307) (by decide +kernel)⟩
theorem lw_p71 : lw_okq (⟨"LetterChuteModel", "cardMark", "(I)I"⟩, 35) := ⟨⟨by decide +kernel, by decide +kernel⟩, List.mem_of_getElem? (i := 832) (by decide +kernel), List.mem_of_getElem? (i := 1310) (by decide +kernel), List.mem_of_getElem? (i := 1311) (by decide +kernel)⟩
theorem lw_p72 : lw_okq (⟨"LetterChuteModel", "body21", "(I)I"⟩, 35) := ⟨⟨by decide +kernel, by decide +kernel⟩, List.mem_of_getElem? (i := 832) (by decide +kernel), List.mem_of_getElem? (i := 1314) (by decide +kernel), List.mem_of_getElem? (i := 1315) (by decide +kernel)⟩
theorem lw_p73 : lw_okq (⟨"LetterChuteModel", "body20", "(I)I"⟩, 35) := ⟨⟨by decide +kernel, by decide +kernel⟩, List.mem_of_getElem? (i := 832) (by decide +kernel), List.mem_of_getElem? (i := 1318) (by decide +kernel), List.mem_of_getElem? (i := 1319) (by decide +kernel)⟩
theorem lw_p74 : lw_okq (⟨"LetterChuteModel", "mark", "(I)I"⟩, 35) := ⟨⟨by decide +kernel, by decide +kernel⟩, List.mem_of_getElem? (i := 832) (by decide +kernel), List.mem_of_getElem? (i := 1322) (by decide +kernel), List.mem_of_getElem? (i := 1323) (by decide +kernel)⟩
def lw_privs_5 : List (MethodName × Nat) := [(⟨"LetterChuteModel", "wideSet", "(III)I"⟩, 35), (⟨"LetterChuteModel", "size", "(I)I"⟩, 35), (⟨"LetterChuteModel", "parcelSize", "(I)I"⟩, 35), (⟨"LetterChuteModel", "leaves", "(I)V"⟩, 35), (⟨"LetterChuteModel", "body13", "(I)I"⟩, 35), (⟨"LetterChuteModel", "body10", "(I)I"⟩, 35), (⟨"LetterChuteModel", "body11", "(I)I"⟩, 35), (⟨"LetterChuteModel", "cardMark", "(I)I"⟩, 35), (⟨"LetterChuteModel", "body21", "(I)I"⟩, 35), (⟨"LetterChuteModel", "body20", "(I)I"⟩, 35), (⟨"LetterChuteModel", "mark", "(I)I"⟩, 35)]
theorem lw_r5 : ∀ q ∈ lw_privs_5, lw_okq q := List.forall_mem_cons.mpr ⟨lw_p64, List.forall_mem_cons.mpr ⟨lw_p65, List.forall_mem_cons.mpr ⟨lw_p66, List.forall_mem_cons.mpr ⟨lw_p67, List.forall_mem_cons.mpr ⟨lw_p68, List.forall_mem_cons.mpr ⟨lw_p69, List.forall_mem_cons.mpr ⟨lw_p70, List.forall_mem_cons.mpr ⟨lw_p71, List.forall_mem_cons.mpr ⟨lw_p72, List.forall_mem_cons.mpr ⟨lw_p73, List.forall_mem_cons.mpr ⟨lw_p74, fun _ h => absurd h List.not_mem_nil⟩⟩⟩⟩⟩⟩⟩⟩⟩⟩⟩
def lw_privs : List (MethodName × Nat) := lw_privs_1 ++ (lw_privs_2 ++ (lw_privs_3 ++ (lw_privs_4 ++ (lw_privs_5))))
def lw_tbl : List Cond := k2_sels lw_privs ++ tables_1
theorem lw_privs_ok : ∀ q ∈ lw_privs, lw_okq q := by
  show ∀ q ∈ lw_privs_1 ++ (lw_privs_2 ++ (lw_privs_3 ++ (lw_privs_4 ++ (lw_privs_5)))), lw_okq q
  exact List.forall_mem_append.mpr ⟨lw_r1, List.forall_mem_append.mpr ⟨lw_r2, List.forall_mem_append.mpr ⟨lw_r3, List.forall_mem_append.mpr ⟨lw_r4, lw_r5⟩⟩⟩⟩
end
section
-- printed by TURN: names, fields
def RX0 : String := "LetterChute$Asking"
def TX0 : u_T := fun k => match k with
  | 0 => ("LetterChute$Asking", "bodies", "[I", true)
  | 1 => ("LetterChute$Asking", "traced", "I", false)
  | 2 => ("LetterChute$Asking", "number", "I", false)
  | 3 => ("LetterChute$Asking", "thick", "I", false)
  | _ => ("LetterChute$Asking", "stuck", "I", false)
def tyX0 : Nat → FieldType := fun k => match k with
  | 0 => .array .int
  | 1 => .int
  | 2 => .int
  | 3 => .int
  | _ => .int
theorem nmX0 : ∀ a, a < 5 → ∀ b, b < 5 → a ≠ b → (TX0 a).2.1 ≠ (TX0 b).2.1 := by decide +kernel
theorem tyX0_ok : ∀ k, k < 5 → parseFieldDescriptor (TX0 k).2.2.1 = some (tyX0 k) := by decide +kernel
abbrev cX0_init : ByteArray := prog_2_method_1_code
def yX0_init : MethodName := ⟨RX0, "<init>", "()V"⟩
abbrev cX0_begin : ByteArray := prog_2_method_2_code
def yX0_begin : MethodName := ⟨RX0, "begin", "(III)V"⟩
abbrev cX0_leave : ByteArray := prog_2_method_3_code
def yX0_leave : MethodName := ⟨RX0, "leave", "(I)V"⟩
def RX1 : String := "LetterChute$Card"
def TX1 : u_T := fun k => match k with
  | _ => ("", "", "", false)
def tyX1 : Nat → FieldType := fun k => match k with
  | _ => .int
theorem nmX1 : ∀ a, a < 0 → ∀ b, b < 0 → a ≠ b → (TX1 a).2.1 ≠ (TX1 b).2.1 := by decide +kernel
theorem tyX1_ok : ∀ k, k < 0 → parseFieldDescriptor (TX1 k).2.2.1 = some (tyX1 k) := by decide +kernel
abbrev cX1_init : ByteArray := prog_3_method_1_code
def yX1_init : MethodName := ⟨RX1, "<init>", "()V"⟩
abbrev cX1_sizeFor : ByteArray := prog_3_method_2_code
def yX1_sizeFor : MethodName := ⟨RX1, "sizeFor", "(LLetterChute$Asking;)I"⟩
abbrev cX1_markFor : ByteArray := prog_3_method_3_code
def yX1_markFor : MethodName := ⟨RX1, "markFor", "(LLetterChute$Asking;)I"⟩
def RX2 : String := "LetterChute$House"
def TX2 : u_T := fun k => match k with
  | 0 => ("LetterChute$House", "floors", "I", false)
  | 1 => ("LetterChute$House", "width", "I", false)
  | 2 => ("LetterChute$House", "tick", "I", false)
  | 3 => ("LetterChute$House", "letters", "I", false)
  | 4 => ("LetterChute$House", "neverPosted", "I", false)
  | 5 => ("LetterChute$House", "kinds", "[I", true)
  | 6 => ("LetterChute$House", "postedAt", "[I", true)
  | 7 => ("LetterChute$House", "thick", "[I", true)
  | 8 => ("LetterChute$House", "start", "[I", true)
  | 9 => ("LetterChute$House", "place", "[I", true)
  | 10 => ("LetterChute$House", "stuck", "[I", true)
  | 11 => ("LetterChute$House", "run", "[I", true)
  | 12 => ("LetterChute$House", "rank", "[I", true)
  | 13 => ("LetterChute$House", "lying", "[I", true)
  | _ => ("LetterChute$House", "load", "[I", true)
def tyX2 : Nat → FieldType := fun k => match k with
  | 0 => .int
  | 1 => .int
  | 2 => .int
  | 3 => .int
  | 4 => .int
  | 5 => .array .int
  | 6 => .array .int
  | 7 => .array .int
  | 8 => .array .int
  | 9 => .array .int
  | 10 => .array .int
  | 11 => .array .int
  | 12 => .array .int
  | 13 => .array .int
  | _ => .array .int
theorem nmX2 : ∀ a, a < 15 → ∀ b, b < 15 → a ≠ b → (TX2 a).2.1 ≠ (TX2 b).2.1 := by decide +kernel
theorem tyX2_ok : ∀ k, k < 15 → parseFieldDescriptor (TX2 k).2.2.1 = some (tyX2 k) := by decide +kernel
abbrev cX2_init : ByteArray := prog_4_method_1_code
def yX2_init : MethodName := ⟨RX2, "<init>", "()V"⟩
abbrev cX2_begin : ByteArray := prog_4_method_2_code
def yX2_begin : MethodName := ⟨RX2, "begin", "(II)V"⟩
abbrev cX2_add : ByteArray := prog_4_method_3_code
def yX2_add : MethodName := ⟨RX2, "add", "(IIII)V"⟩
abbrev cX2_copyFrom : ByteArray := prog_4_method_4_code
def yX2_copyFrom : MethodName := ⟨RX2, "copyFrom", "(LLetterChute$House;)V"⟩
abbrev cX2_tickOnce : ByteArray := prog_4_method_5_code
def yX2_tickOnce : MethodName := ⟨RX2, "tickOnce", "()V"⟩
abbrev cX2_pass : ByteArray := prog_4_method_6_code
def yX2_pass : MethodName := ⟨RX2, "pass", "(I)V"⟩
abbrev cX2_letFall : ByteArray := prog_4_method_7_code
def yX2_letFall : MethodName := ⟨RX2, "letFall", "(I)V"⟩
abbrev cX2_floorsToFall : ByteArray := prog_4_method_8_code
def yX2_floorsToFall : MethodName := ⟨RX2, "floorsToFall", "(I)I"⟩
abbrev cX2_hasRoom : ByteArray := prog_4_method_9_code
def yX2_hasRoom : MethodName := ⟨RX2, "hasRoom", "(II)Z"⟩
abbrev cX2_moveTo : ByteArray := prog_4_method_10_code
def yX2_moveTo : MethodName := ⟨RX2, "moveTo", "(II)V"⟩
abbrev cX2_postAnew : ByteArray := prog_4_method_11_code
def yX2_postAnew : MethodName := ⟨RX2, "postAnew", "(II)V"⟩
abbrev cX2_makeThick : ByteArray := prog_4_method_12_code
def yX2_makeThick : MethodName := ⟨RX2, "makeThick", "(II)V"⟩
abbrev cX2_below : ByteArray := prog_4_method_13_code
def yX2_below : MethodName := ⟨RX2, "below", "(I)I"⟩
abbrev cX2_isInShaft : ByteArray := prog_4_method_14_code
def yX2_isInShaft : MethodName := ⟨RX2, "isInShaft", "(I)Z"⟩
abbrev cX2_allLetters : ByteArray := prog_4_method_15_code
def yX2_allLetters : MethodName := ⟨RX2, "allLetters", "()I"⟩
abbrev cX2_lettersOutside : ByteArray := prog_4_method_16_code
def yX2_lettersOutside : MethodName := ⟨RX2, "lettersOutside", "()I"⟩
abbrev cX2_lettersInShaft : ByteArray := prog_4_method_17_code
def yX2_lettersInShaft : MethodName := ⟨RX2, "lettersInShaft", "()I"⟩
abbrev cX2_lettersBoxed : ByteArray := prog_4_method_18_code
def yX2_lettersBoxed : MethodName := ⟨RX2, "lettersBoxed", "()I"⟩
abbrev cX2_stuckTogether : ByteArray := prog_4_method_19_code
def yX2_stuckTogether : MethodName := ⟨RX2, "stuckTogether", "()I"⟩
abbrev cX2_thickTogether : ByteArray := prog_4_method_20_code
def yX2_thickTogether : MethodName := ⟨RX2, "thickTogether", "(I)I"⟩
def RX3 : String := "LetterChute$Letter"
def TX3 : u_T := fun k => match k with
  | _ => ("", "", "", false)
def tyX3 : Nat → FieldType := fun k => match k with
  | _ => .int
theorem nmX3 : ∀ a, a < 0 → ∀ b, b < 0 → a ≠ b → (TX3 a).2.1 ≠ (TX3 b).2.1 := by decide +kernel
theorem tyX3_ok : ∀ k, k < 0 → parseFieldDescriptor (TX3 k).2.2.1 = some (tyX3 k) := by decide +kernel
abbrev cX3_init : ByteArray := prog_5_method_1_code
def yX3_init : MethodName := ⟨RX3, "<init>", "()V"⟩
abbrev cX3_sizeFor : ByteArray := prog_5_method_2_code
def yX3_sizeFor : MethodName := ⟨RX3, "sizeFor", "(LLetterChute$Asking;)I"⟩
abbrev cX3_markFor : ByteArray := prog_5_method_3_code
def yX3_markFor : MethodName := ⟨RX3, "markFor", "(LLetterChute$Asking;)I"⟩
def RX4 : String := "LetterChute$Limp"
def TX4 : u_T := fun k => match k with
  | _ => ("", "", "", false)
def tyX4 : Nat → FieldType := fun k => match k with
  | _ => .int
theorem nmX4 : ∀ a, a < 0 → ∀ b, b < 0 → a ≠ b → (TX4 a).2.1 ≠ (TX4 b).2.1 := by decide +kernel
theorem tyX4_ok : ∀ k, k < 0 → parseFieldDescriptor (TX4 k).2.2.1 = some (tyX4 k) := by decide +kernel
abbrev cX4_init : ByteArray := prog_6_method_1_code
def yX4_init : MethodName := ⟨RX4, "<init>", "()V"⟩
abbrev cX4_markFor : ByteArray := prog_6_method_2_code
def yX4_markFor : MethodName := ⟨RX4, "markFor", "(LLetterChute$Asking;)I"⟩
def RX5 : String := "LetterChute$Oracle"
def TX5 : u_T := fun k => match k with
  | 0 => ("LetterChute$Oracle", "trial", "LLetterChute$House;", true)
  | 1 => ("LetterChute$Oracle", "stage", "LLetterChute$House;", true)
  | 2 => ("LetterChute$Oracle", "tried", "[I", true)
  | 3 => ("LetterChute$Oracle", "bestOrder", "[I", true)
  | 4 => ("LetterChute$Oracle", "fewestTicks", "I", false)
  | 5 => ("LetterChute$Oracle", "orderedFor", "I", false)
  | 6 => ("LetterChute$Oracle", "told", "[I", true)
  | _ => ("LetterChute$Oracle", "toldLength", "I", false)
def tyX5 : Nat → FieldType := fun k => match k with
  | 0 => .object "LetterChute$House"
  | 1 => .object "LetterChute$House"
  | 2 => .array .int
  | 3 => .array .int
  | 4 => .int
  | 5 => .int
  | 6 => .array .int
  | _ => .int
theorem nmX5 : ∀ a, a < 8 → ∀ b, b < 8 → a ≠ b → (TX5 a).2.1 ≠ (TX5 b).2.1 := by decide +kernel
theorem tyX5_ok : ∀ k, k < 8 → parseFieldDescriptor (TX5 k).2.2.1 = some (tyX5 k) := by decide +kernel
abbrev cX5_init : ByteArray := prog_7_method_1_code
def yX5_init : MethodName := ⟨RX5, "<init>", "()V"⟩
abbrev cX5_forget : ByteArray := prog_7_method_2_code
def yX5_forget : MethodName := ⟨RX5, "forget", "()V"⟩
abbrev cX5_behind : ByteArray := prog_7_method_3_code
def yX5_behind : MethodName := ⟨RX5, "behind", "(LLetterChute$House;I)LLetterChute$House;"⟩
abbrev cX5_ticksUntilPosted : ByteArray := prog_7_method_4_code
def yX5_ticksUntilPosted : MethodName := ⟨RX5, "ticksUntilPosted", "(LLetterChute$House;I)I"⟩
abbrev cX5_ticksUntilBoxed : ByteArray := prog_7_method_5_code
def yX5_ticksUntilBoxed : MethodName := ⟨RX5, "ticksUntilBoxed", "(LLetterChute$House;I)I"⟩
abbrev cX5_findOrder : ByteArray := prog_7_method_6_code
def yX5_findOrder : MethodName := ⟨RX5, "findOrder", "(LLetterChute$House;I)V"⟩
abbrev cX5_extendOrder : ByteArray := prog_7_method_7_code
def yX5_extendOrder : MethodName := ⟨RX5, "extendOrder", "(LLetterChute$House;III)V"⟩
abbrev cX5_couldStandEarlier : ByteArray := prog_7_method_8_code
def yX5_couldStandEarlier : MethodName := ⟨RX5, "couldStandEarlier", "(LLetterChute$House;II)Z"⟩
abbrev cX5_weighOrder : ByteArray := prog_7_method_9_code
def yX5_weighOrder : MethodName := ⟨RX5, "weighOrder", "(LLetterChute$House;I)V"⟩
abbrev cX5_leastWide : ByteArray := prog_7_method_10_code
def yX5_leastWide : MethodName := ⟨RX5, "leastWide", "(LLetterChute$House;I)I"⟩
abbrev cX5_latestStart : ByteArray := prog_7_method_11_code
def yX5_latestStart : MethodName := ⟨RX5, "latestStart", "(LLetterChute$House;II)I"⟩
abbrev cX5_boxedByTurns : ByteArray := prog_7_method_12_code
def yX5_boxedByTurns : MethodName := ⟨RX5, "boxedByTurns", "(LLetterChute$House;II)I"⟩
abbrev cX5_playTurns : ByteArray := prog_7_method_13_code
def yX5_playTurns : MethodName := ⟨RX5, "playTurns", "(IIIII)I"⟩
abbrev cX5_hear : ByteArray := prog_7_method_14_code
def yX5_hear : MethodName := ⟨RX5, "hear", "([III)V"⟩
abbrev cX5_trialFits : ByteArray := prog_7_method_15_code
def yX5_trialFits : MethodName := ⟨RX5, "trialFits", "()Z"⟩
abbrev cX5_fitting : ByteArray := prog_7_method_16_code
def yX5_fitting : MethodName := ⟨RX5, "fitting", "(LLetterChute$House;IIII)I"⟩
abbrev cX5_varyTrial : ByteArray := prog_7_method_17_code
def yX5_varyTrial : MethodName := ⟨RX5, "varyTrial", "(III)V"⟩
abbrev cX5_chanceOfBox : ByteArray := prog_7_method_18_code
def yX5_chanceOfBox : MethodName := ⟨RX5, "chanceOfBox", "(LLetterChute$House;IIII)J"⟩
abbrev cX5_isBoxedWithout : ByteArray := prog_7_method_19_code
def yX5_isBoxedWithout : MethodName := ⟨RX5, "isBoxedWithout", "(LLetterChute$House;III)Z"⟩
abbrev cX5_power : ByteArray := prog_7_method_20_code
def yX5_power : MethodName := ⟨RX5, "power", "(II)J"⟩
abbrev cX5_greatestDivisor : ByteArray := prog_7_method_21_code
def yX5_greatestDivisor : MethodName := ⟨RX5, "greatestDivisor", "(JJ)J"⟩
abbrev cX5_daysByDraws : ByteArray := prog_7_method_22_code
def yX5_daysByDraws : MethodName := ⟨RX5, "daysByDraws", "(LLetterChute$House;III)I"⟩
def RX6 : String := "LetterChute$Parcel"
def TX6 : u_T := fun k => match k with
  | _ => ("", "", "", false)
def tyX6 : Nat → FieldType := fun k => match k with
  | _ => .int
theorem nmX6 : ∀ a, a < 0 → ∀ b, b < 0 → a ≠ b → (TX6 a).2.1 ≠ (TX6 b).2.1 := by decide +kernel
theorem tyX6_ok : ∀ k, k < 0 → parseFieldDescriptor (TX6 k).2.2.1 = some (tyX6 k) := by decide +kernel
abbrev cX6_init : ByteArray := prog_8_method_1_code
def yX6_init : MethodName := ⟨RX6, "<init>", "()V"⟩
abbrev cX6_sizeFor : ByteArray := prog_8_method_2_code
def yX6_sizeFor : MethodName := ⟨RX6, "sizeFor", "(LLetterChute$Asking;)I"⟩
abbrev cX6_markFor : ByteArray := prog_8_method_3_code
def yX6_markFor : MethodName := ⟨RX6, "markFor", "(LLetterChute$Asking;)I"⟩
def RX7 : String := "LetterChute$Reader"
def TX7 : u_T := fun k => match k with
  | 0 => ("LetterChute$Reader", "tape", "[I", true)
  | 1 => ("LetterChute$Reader", "length", "I", false)
  | 2 => ("LetterChute$Reader", "place", "I", false)
  | 3 => ("LetterChute$Reader", "faultNumber", "I", false)
  | _ => ("LetterChute$Reader", "number", "I", false)
def tyX7 : Nat → FieldType := fun k => match k with
  | 0 => .array .int
  | 1 => .int
  | 2 => .int
  | 3 => .int
  | _ => .int
theorem nmX7 : ∀ a, a < 5 → ∀ b, b < 5 → a ≠ b → (TX7 a).2.1 ≠ (TX7 b).2.1 := by decide +kernel
theorem tyX7_ok : ∀ k, k < 5 → parseFieldDescriptor (TX7 k).2.2.1 = some (tyX7 k) := by decide +kernel
abbrev cX7_init : ByteArray := prog_9_method_1_code
def yX7_init : MethodName := ⟨RX7, "<init>", "()V"⟩
abbrev cX7_append : ByteArray := prog_9_method_2_code
def yX7_append : MethodName := ⟨RX7, "append", "(I)I"⟩
abbrev cX7_readInto : ByteArray := prog_9_method_3_code
def yX7_readInto : MethodName := ⟨RX7, "readInto", "(LLetterChute$House;)Z"⟩
abbrev cX7_readLaw : ByteArray := prog_9_method_4_code
def yX7_readLaw : MethodName := ⟨RX7, "readLaw", "(LLetterChute$House;)Z"⟩
abbrev cX7_readLetter : ByteArray := prog_9_method_5_code
def yX7_readLetter : MethodName := ⟨RX7, "readLetter", "(LLetterChute$House;)Z"⟩
abbrev cX7_passSign : ByteArray := prog_9_method_6_code
def yX7_passSign : MethodName := ⟨RX7, "passSign", "(I)Z"⟩
abbrev cX7_passNumber : ByteArray := prog_9_method_7_code
def yX7_passNumber : MethodName := ⟨RX7, "passNumber", "(II)Z"⟩
abbrev cX7_fails : ByteArray := prog_9_method_8_code
def yX7_fails : MethodName := ⟨RX7, "fails", "(I)Z"⟩
abbrev cX7_byteAt : ByteArray := prog_9_method_9_code
def yX7_byteAt : MethodName := ⟨RX7, "byteAt", "(I)I"⟩
abbrev cX7_isFigure : ByteArray := prog_9_method_10_code
def yX7_isFigure : MethodName := ⟨RX7, "isFigure", "(I)Z"⟩
abbrev cX7_kindBySign : ByteArray := prog_9_method_11_code
def yX7_kindBySign : MethodName := ⟨RX7, "kindBySign", "(I)I"⟩
def RX8 : String := "LetterChute$Roll"
def TX8 : u_T := fun k => match k with
  | _ => ("", "", "", false)
def tyX8 : Nat → FieldType := fun k => match k with
  | _ => .int
theorem nmX8 : ∀ a, a < 0 → ∀ b, b < 0 → a ≠ b → (TX8 a).2.1 ≠ (TX8 b).2.1 := by decide +kernel
theorem tyX8_ok : ∀ k, k < 0 → parseFieldDescriptor (TX8 k).2.2.1 = some (tyX8 k) := by decide +kernel
abbrev cX8_init : ByteArray := prog_10_method_1_code
def yX8_init : MethodName := ⟨RX8, "<init>", "()V"⟩
abbrev cX8_sizeFor : ByteArray := prog_10_method_2_code
def yX8_sizeFor : MethodName := ⟨RX8, "sizeFor", "(LLetterChute$Asking;)I"⟩
def RX9 : String := "LetterChute$Shelf"
def TX9 : u_T := fun k => match k with
  | 0 => ("LetterChute$Shelf", "lanes", "[I", true)
  | 1 => ("LetterChute$Shelf", "lengths", "[I", true)
  | _ => ("LetterChute$Shelf", "items", "[[I", true)
def tyX9 : Nat → FieldType := fun k => match k with
  | 0 => .array .int
  | 1 => .array .int
  | _ => .array (.array .int)
theorem nmX9 : ∀ a, a < 3 → ∀ b, b < 3 → a ≠ b → (TX9 a).2.1 ≠ (TX9 b).2.1 := by decide +kernel
theorem tyX9_ok : ∀ k, k < 3 → parseFieldDescriptor (TX9 k).2.2.1 = some (tyX9 k) := by decide +kernel
abbrev cX9_init : ByteArray := prog_11_method_1_code
def yX9_init : MethodName := ⟨RX9, "<init>", "()V"⟩
abbrev cX9_isMissing : ByteArray := prog_11_method_2_code
def yX9_isMissing : MethodName := ⟨RX9, "isMissing", "(I)Z"⟩
abbrev cX9_reaches : ByteArray := prog_11_method_3_code
def yX9_reaches : MethodName := ⟨RX9, "reaches", "(III)Z"⟩
abbrev cX9_make : ByteArray := prog_11_method_4_code
def yX9_make : MethodName := ⟨RX9, "make", "(III)V"⟩
abbrev cX9_put : ByteArray := prog_11_method_5_code
def yX9_put : MethodName := ⟨RX9, "put", "(III)I"⟩
abbrev cX9_remove : ByteArray := prog_11_method_6_code
def yX9_remove : MethodName := ⟨RX9, "remove", "(I)I"⟩
abbrev cX9_rowsThere : ByteArray := prog_11_method_7_code
def yX9_rowsThere : MethodName := ⟨RX9, "rowsThere", "()I"⟩
abbrev cX9_cutTo : ByteArray := prog_11_method_8_code
def yX9_cutTo : MethodName := ⟨RX9, "cutTo", "(II)I"⟩
def RX10 : String := "LetterChute$Slip"
def TX10 : u_T := fun k => match k with
  | _ => ("", "", "", false)
def tyX10 : Nat → FieldType := fun k => match k with
  | _ => .int
theorem nmX10 : ∀ a, a < 0 → ∀ b, b < 0 → a ≠ b → (TX10 a).2.1 ≠ (TX10 b).2.1 := by decide +kernel
theorem tyX10_ok : ∀ k, k < 0 → parseFieldDescriptor (TX10 k).2.2.1 = some (tyX10 k) := by decide +kernel
abbrev cX10_init : ByteArray := prog_12_method_1_code
def yX10_init : MethodName := ⟨RX10, "<init>", "()V"⟩
abbrev cX10_sizeFor : ByteArray := prog_12_method_2_code
def yX10_sizeFor : MethodName := ⟨RX10, "sizeFor", "(LLetterChute$Asking;)I"⟩
abbrev cX10_markFor : ByteArray := prog_12_method_3_code
def yX10_markFor : MethodName := ⟨RX10, "markFor", "(LLetterChute$Asking;)I"⟩
def RX11 : String := "LetterChute"
def TX11 : u_T := fun k => match k with
  | 0 => ("LetterChute", "shelf", "LLetterChute$Shelf;", true)
  | 1 => ("LetterChute", "reader", "LLetterChute$Reader;", true)
  | 2 => ("LetterChute", "asking", "LLetterChute$Asking;", true)
  | 3 => ("LetterChute", "sorts", "[LLetterChute$Letter;", true)
  | 4 => ("LetterChute", "now", "LLetterChute$House;", true)
  | 5 => ("LetterChute", "draft", "LLetterChute$House;", true)
  | 6 => ("LetterChute", "oracle", "LLetterChute$Oracle;", true)
  | 7 => ("LetterChute", "acts", "[LLetterChute$House;", true)
  | 8 => ("LetterChute", "images", "[LLetterChute$House;", true)
  | 9 => ("LetterChute", "actsKept", "I", false)
  | 10 => ("LetterChute", "nextAct", "I", false)
  | 11 => ("LetterChute", "latestFault", "I", false)
  | _ => ("LetterChute", "finding", "I", false)
def tyX11 : Nat → FieldType := fun k => match k with
  | 0 => .object "LetterChute$Shelf"
  | 1 => .object "LetterChute$Reader"
  | 2 => .object "LetterChute$Asking"
  | 3 => .array (.object "LetterChute$Letter")
  | 4 => .object "LetterChute$House"
  | 5 => .object "LetterChute$House"
  | 6 => .object "LetterChute$Oracle"
  | 7 => .array (.object "LetterChute$House")
  | 8 => .array (.object "LetterChute$House")
  | 9 => .int
  | 10 => .int
  | 11 => .int
  | _ => .int
theorem nmX11 : ∀ a, a < 13 → ∀ b, b < 13 → a ≠ b → (TX11 a).2.1 ≠ (TX11 b).2.1 := by decide +kernel
theorem tyX11_ok : ∀ k, k < 13 → parseFieldDescriptor (TX11 k).2.2.1 = some (tyX11 k) := by decide +kernel
abbrev cX11_init : ByteArray := prog_1_method_1_code
def yX11_init : MethodName := ⟨RX11, "<init>", "()V"⟩
abbrev cX11_row : ByteArray := prog_1_method_2_code
def yX11_row : MethodName := ⟨RX11, "row", "(III)I"⟩
abbrev cX11_set : ByteArray := prog_1_method_3_code
def yX11_set : MethodName := ⟨RX11, "set", "(III)I"⟩
abbrev cX11_copy : ByteArray := prog_1_method_4_code
def yX11_copy : MethodName := ⟨RX11, "copy", "(IIIII)I"⟩
abbrev cX11_drop : ByteArray := prog_1_method_5_code
def yX11_drop : MethodName := ⟨RX11, "drop", "(I)I"⟩
abbrev cX11_feed : ByteArray := prog_1_method_6_code
def yX11_feed : MethodName := ⟨RX11, "feed", "(I)I"⟩
abbrev cX11_house : ByteArray := prog_1_method_7_code
def yX11_house : MethodName := ⟨RX11, "house", "()I"⟩
abbrev cX11_fault : ByteArray := prog_1_method_8_code
def yX11_fault : MethodName := ⟨RX11, "fault", "()I"⟩
abbrev cX11_undo : ByteArray := prog_1_method_9_code
def yX11_undo : MethodName := ⟨RX11, "undo", "()I"⟩
abbrev cX11_ticks : ByteArray := prog_1_method_10_code
def yX11_ticks : MethodName := ⟨RX11, "ticks", "(I)I"⟩
abbrev cX11_wide : ByteArray := prog_1_method_11_code
def yX11_wide : MethodName := ⟨RX11, "wide", "(I)I"⟩
abbrev cX11_poke : ByteArray := prog_1_method_12_code
def yX11_poke : MethodName := ⟨RX11, "poke", "(I)I"⟩
abbrev cX11_post : ByteArray := prog_1_method_13_code
def yX11_post : MethodName := ⟨RX11, "post", "(II)I"⟩
abbrev cX11_letter : ByteArray := prog_1_method_14_code
def yX11_letter : MethodName := ⟨RX11, "letter", "(II)I"⟩
abbrev cX11_floor : ByteArray := prog_1_method_15_code
def yX11_floor : MethodName := ⟨RX11, "floor", "(II)I"⟩
abbrev cX11_stand : ByteArray := prog_1_method_16_code
def yX11_stand : MethodName := ⟨RX11, "stand", "(I)I"⟩
abbrev cX11_ahead : ByteArray := prog_1_method_17_code
def yX11_ahead : MethodName := ⟨RX11, "ahead", "(III)I"⟩
abbrev cX11_full : ByteArray := prog_1_method_18_code
def yX11_full : MethodName := ⟨RX11, "full", "(II)I"⟩
abbrev cX11_all : ByteArray := prog_1_method_19_code
def yX11_all : MethodName := ⟨RX11, "all", "(II)I"⟩
abbrev cX11_when : ByteArray := prog_1_method_20_code
def yX11_when : MethodName := ⟨RX11, "when", "(II)I"⟩
abbrev cX11_over : ByteArray := prog_1_method_21_code
def yX11_over : MethodName := ⟨RX11, "over", "()I"⟩
abbrev cX11_order : ByteArray := prog_1_method_22_code
def yX11_order : MethodName := ⟨RX11, "order", "(II)I"⟩
abbrev cX11_need : ByteArray := prog_1_method_23_code
def yX11_need : MethodName := ⟨RX11, "need", "(I)I"⟩
abbrev cX11_latest : ByteArray := prog_1_method_24_code
def yX11_latest : MethodName := ⟨RX11, "latest", "(II)I"⟩
abbrev cX11_sets : ByteArray := prog_1_method_25_code
def yX11_sets : MethodName := ⟨RX11, "sets", "(II)I"⟩
abbrev cX11_share : ByteArray := prog_1_method_26_code
def yX11_share : MethodName := ⟨RX11, "share", "(II)I"⟩
abbrev cX11_byTurns : ByteArray := prog_1_method_27_code
def yX11_byTurns : MethodName := ⟨RX11, "byTurns", "(II)I"⟩
abbrev cX11_who : ByteArray := prog_1_method_28_code
def yX11_who : MethodName := ⟨RX11, "who", "(IIIII)I"⟩
abbrev cX11_lost : ByteArray := prog_1_method_29_code
def yX11_lost : MethodName := ⟨RX11, "lost", "(IIII)J"⟩
abbrev cX11_drawn : ByteArray := prog_1_method_30_code
def yX11_drawn : MethodName := ⟨RX11, "drawn", "(III)I"⟩
abbrev cX11_image : ByteArray := prog_1_method_31_code
def yX11_image : MethodName := ⟨RX11, "image", "(I)I"⟩
abbrev cX11_restore : ByteArray := prog_1_method_32_code
def yX11_restore : MethodName := ⟨RX11, "restore", "(I)I"⟩
abbrev cX11_kind : ByteArray := prog_1_method_33_code
def yX11_kind : MethodName := ⟨RX11, "kind", "(I)I"⟩
abbrev cX11_as : ByteArray := prog_1_method_34_code
def yX11_as : MethodName := ⟨RX11, "as", "(II)I"⟩
abbrev cX11_ask : ByteArray := prog_1_method_35_code
def yX11_ask : MethodName := ⟨RX11, "ask", "(II)I"⟩
abbrev cX11_trace : ByteArray := prog_1_method_36_code
def yX11_trace : MethodName := ⟨RX11, "trace", "(I)I"⟩
abbrev cX11_count : ByteArray := prog_1_method_37_code
def yX11_count : MethodName := ⟨RX11, "count", "(I)I"⟩
abbrev cX11_status : ByteArray := prog_1_method_38_code
def yX11_status : MethodName := ⟨RX11, "status", "()I"⟩
abbrev cX11_within : ByteArray := prog_1_method_39_code
def yX11_within : MethodName := ⟨RX11, "within", "(III)Z"⟩
abbrev cX11_isRow : ByteArray := prog_1_method_40_code
def yX11_isRow : MethodName := ⟨RX11, "isRow", "(I)Z"⟩
abbrev cX11_isLetter : ByteArray := prog_1_method_41_code
def yX11_isLetter : MethodName := ⟨RX11, "isLetter", "(I)Z"⟩
abbrev cX11_isFloor : ByteArray := prog_1_method_42_code
def yX11_isFloor : MethodName := ⟨RX11, "isFloor", "(I)Z"⟩
abbrev cX11_hasNoHouse : ByteArray := prog_1_method_43_code
def yX11_hasNoHouse : MethodName := ⟨RX11, "hasNoHouse", "()Z"⟩
abbrev cX11_found : ByteArray := prog_1_method_44_code
def yX11_found : MethodName := ⟨RX11, "found", "(I)I"⟩
abbrev cX11_foundNothing : ByteArray := prog_1_method_45_code
def yX11_foundNothing : MethodName := ⟨RX11, "foundNothing", "(I)I"⟩
abbrev cX11_standAs : ByteArray := prog_1_method_46_code
def yX11_standAs : MethodName := ⟨RX11, "standAs", "(LLetterChute$House;)V"⟩
abbrev cX11_keepForUndo : ByteArray := prog_1_method_47_code
def yX11_keepForUndo : MethodName := ⟨RX11, "keepForUndo", "()V"⟩
abbrev cX11_setsSoThick : ByteArray := prog_1_method_48_code
def yX11_setsSoThick : MethodName := ⟨RX11, "setsSoThick", "(II)I"⟩
abbrev cX11_stampsFor : ByteArray := prog_1_method_49_code
def yX11_stampsFor : MethodName := ⟨RX11, "stampsFor", "(II)I"⟩
abbrev cX11_whoFits : ByteArray := prog_1_method_50_code
def yX11_whoFits : MethodName := ⟨RX11, "whoFits", "(II)I"⟩
abbrev cX11_lowestOf : ByteArray := prog_1_method_51_code
def yX11_lowestOf : MethodName := ⟨RX11, "lowestOf", "(I)I"⟩
abbrev cX11_sortOf : ByteArray := prog_1_method_52_code
def yX11_sortOf : MethodName := ⟨RX11, "sortOf", "(I)LLetterChute$Letter;"⟩
abbrev cX11_isOfKind : ByteArray := prog_1_method_53_code
def yX11_isOfKind : MethodName := ⟨RX11, "isOfKind", "(LLetterChute$Letter;I)Z"⟩
def RX12 : String := "LetterChuteModel"
def TX12 : u_T := fun k => match k with
  | 0 => ("LetterChuteModel", "items", "[I", true)
  | 1 => ("LetterChuteModel", "lanes", "[I", true)
  | 2 => ("LetterChuteModel", "sizes", "[I", true)
  | 3 => ("LetterChuteModel", "status", "I", false)
  | 4 => ("LetterChuteModel", "floors", "I", false)
  | 5 => ("LetterChuteModel", "letters", "I", false)
  | 6 => ("LetterChuteModel", "hasHouse", "Z", false)
  | 7 => ("LetterChuteModel", "kinds", "[I", true)
  | 8 => ("LetterChuteModel", "thick", "[I", true)
  | 9 => ("LetterChuteModel", "now", "[I", true)
  | 10 => ("LetterChuteModel", "before", "[I", true)
  | 11 => ("LetterChuteModel", "acts", "I", false)
  | 12 => ("LetterChuteModel", "images", "[I", true)
  | 13 => ("LetterChuteModel", "imaged", "I", false)
  | 14 => ("LetterChuteModel", "length", "I", false)
  | 15 => ("LetterChuteModel", "tape", "[I", true)
  | 16 => ("LetterChuteModel", "fault", "I", false)
  | 17 => ("LetterChuteModel", "trace", "[I", true)
  | 18 => ("LetterChuteModel", "traced", "I", false)
  | 19 => ("LetterChuteModel", "spot", "I", false)
  | 20 => ("LetterChuteModel", "begins", "I", false)
  | 21 => ("LetterChuteModel", "token", "I", false)
  | 22 => ("LetterChuteModel", "number", "I", false)
  | 23 => ("LetterChuteModel", "readKinds", "[I", true)
  | 24 => ("LetterChuteModel", "readThick", "[I", true)
  | 25 => ("LetterChuteModel", "readRow", "[I", true)
  | 26 => ("LetterChuteModel", "readFloors", "I", false)
  | 27 => ("LetterChuteModel", "readLetters", "I", false)
  | 28 => ("LetterChuteModel", "side", "[I", true)
  | 29 => ("LetterChuteModel", "otherOne", "I", false)
  | 30 => ("LetterChuteModel", "otherKind", "I", false)
  | 31 => ("LetterChuteModel", "otherThick", "I", false)
  | 32 => ("LetterChuteModel", "lay", "[I", true)
  | 33 => ("LetterChuteModel", "rank", "[I", true)
  | _ => ("LetterChuteModel", "bestOrder", "[I", true)
def tyX12 : Nat → FieldType := fun k => match k with
  | 0 => .array .int
  | 1 => .array .int
  | 2 => .array .int
  | 3 => .int
  | 4 => .int
  | 5 => .int
  | 6 => .boolean
  | 7 => .array .int
  | 8 => .array .int
  | 9 => .array .int
  | 10 => .array .int
  | 11 => .int
  | 12 => .array .int
  | 13 => .int
  | 14 => .int
  | 15 => .array .int
  | 16 => .int
  | 17 => .array .int
  | 18 => .int
  | 19 => .int
  | 20 => .int
  | 21 => .int
  | 22 => .int
  | 23 => .array .int
  | 24 => .array .int
  | 25 => .array .int
  | 26 => .int
  | 27 => .int
  | 28 => .array .int
  | 29 => .int
  | 30 => .int
  | 31 => .int
  | 32 => .array .int
  | 33 => .array .int
  | _ => .array .int
theorem nmX12 : ∀ a, a < 35 → ∀ b, b < 35 → a ≠ b → (TX12 a).2.1 ≠ (TX12 b).2.1 := by decide +kernel
theorem tyX12_ok : ∀ k, k < 35 → parseFieldDescriptor (TX12 k).2.2.1 = some (tyX12 k) := by decide +kernel
abbrev cX12_init : ByteArray := prog_14_method_1_code
def yX12_init : MethodName := ⟨RX12, "<init>", "()V"⟩
abbrev cX12_in : ByteArray := prog_14_method_2_code
def yX12_in : MethodName := ⟨RX12, "in", "(JJJ)Z"⟩
abbrev cX12_has : ByteArray := prog_14_method_3_code
def yX12_has : MethodName := ⟨RX12, "has", "(II)Z"⟩
abbrev cX12_ones : ByteArray := prog_14_method_4_code
def yX12_ones : MethodName := ⟨RX12, "ones", "(I)I"⟩
abbrev cX12_found : ByteArray := prog_14_method_5_code
def yX12_found : MethodName := ⟨RX12, "found", "(I)I"⟩
abbrev cX12_well : ByteArray := prog_14_method_6_code
def yX12_well : MethodName := ⟨RX12, "well", "(I)I"⟩
abbrev cX12_isRow : ByteArray := prog_14_method_7_code
def yX12_isRow : MethodName := ⟨RX12, "isRow", "(I)Z"⟩
abbrev cX12_row : ByteArray := prog_14_method_8_code
def yX12_row : MethodName := ⟨RX12, "row", "(III)I"⟩
abbrev cX12_set : ByteArray := prog_14_method_9_code
def yX12_set : MethodName := ⟨RX12, "set", "(III)I"⟩
abbrev cX12_isSpan : ByteArray := prog_14_method_10_code
def yX12_isSpan : MethodName := ⟨RX12, "isSpan", "(III)Z"⟩
abbrev cX12_copy : ByteArray := prog_14_method_11_code
def yX12_copy : MethodName := ⟨RX12, "copy", "(IIIII)I"⟩
abbrev cX12_drop : ByteArray := prog_14_method_12_code
def yX12_drop : MethodName := ⟨RX12, "drop", "(I)I"⟩
abbrev cX12_feed : ByteArray := prog_14_method_13_code
def yX12_feed : MethodName := ⟨RX12, "feed", "(I)I"⟩
abbrev cX12_isFigure : ByteArray := prog_14_method_14_code
def yX12_isFigure : MethodName := ⟨RX12, "isFigure", "(I)Z"⟩
abbrev cX12_next : ByteArray := prog_14_method_15_code
def yX12_next : MethodName := ⟨RX12, "next", "()V"⟩
abbrev cX12_sign : ByteArray := prog_14_method_16_code
def yX12_sign : MethodName := ⟨RX12, "sign", "(I)I"⟩
abbrev cX12_numberIn : ByteArray := prog_14_method_17_code
def yX12_numberIn : MethodName := ⟨RX12, "numberIn", "(II)I"⟩
abbrev cX12_law : ByteArray := prog_14_method_18_code
def yX12_law : MethodName := ⟨RX12, "law", "()I"⟩
abbrev cX12_kindOf : ByteArray := prog_14_method_19_code
def yX12_kindOf : MethodName := ⟨RX12, "kindOf", "(I)I"⟩
abbrev cX12_letterItem : ByteArray := prog_14_method_20_code
def yX12_letterItem : MethodName := ⟨RX12, "letterItem", "()I"⟩
abbrev cX12_readAll : ByteArray := prog_14_method_21_code
def yX12_readAll : MethodName := ⟨RX12, "readAll", "()I"⟩
abbrev cX12_house : ByteArray := prog_14_method_22_code
def yX12_house : MethodName := ⟨RX12, "house", "()I"⟩
abbrev cX12_fault : ByteArray := prog_14_method_23_code
def yX12_fault : MethodName := ⟨RX12, "fault", "()I"⟩
abbrev cX12_aside : ByteArray := prog_14_method_24_code
def yX12_aside : MethodName := ⟨RX12, "aside", "()V"⟩
abbrev cX12_take : ByteArray := prog_14_method_25_code
def yX12_take : MethodName := ⟨RX12, "take", "()V"⟩
abbrev cX12_kindNow : ByteArray := prog_14_method_26_code
def yX12_kindNow : MethodName := ⟨RX12, "kindNow", "(I)I"⟩
abbrev cX12_thickNow : ByteArray := prog_14_method_27_code
def yX12_thickNow : MethodName := ⟨RX12, "thickNow", "(I)I"⟩
abbrev cX12_fullBut : ByteArray := prog_14_method_28_code
def yX12_fullBut : MethodName := ⟨RX12, "fullBut", "(II)I"⟩
abbrev cX12_hasRoom : ByteArray := prog_14_method_29_code
def yX12_hasRoom : MethodName := ⟨RX12, "hasRoom", "(II)Z"⟩
abbrev cX12_isShaft : ByteArray := prog_14_method_30_code
def yX12_isShaft : MethodName := ⟨RX12, "isShaft", "(I)Z"⟩
abbrev cX12_fallOf : ByteArray := prog_14_method_31_code
def yX12_fallOf : MethodName := ⟨RX12, "fallOf", "(I)I"⟩
abbrev cX12_goFall : ByteArray := prog_14_method_32_code
def yX12_goFall : MethodName := ⟨RX12, "goFall", "(I)V"⟩
abbrev cX12_byNumbers : ByteArray := prog_14_method_33_code
def yX12_byNumbers : MethodName := ⟨RX12, "byNumbers", "()V"⟩
abbrev cX12_goTick : ByteArray := prog_14_method_34_code
def yX12_goTick : MethodName := ⟨RX12, "goTick", "()V"⟩
abbrev cX12_goTicks : ByteArray := prog_14_method_35_code
def yX12_goTicks : MethodName := ⟨RX12, "goTicks", "(I)V"⟩
abbrev cX12_boxed : ByteArray := prog_14_method_36_code
def yX12_boxed : MethodName := ⟨RX12, "boxed", "()I"⟩
abbrev cX12_waiting : ByteArray := prog_14_method_37_code
def yX12_waiting : MethodName := ⟨RX12, "waiting", "()I"⟩
abbrev cX12_everyone : ByteArray := prog_14_method_38_code
def yX12_everyone : MethodName := ⟨RX12, "everyone", "()I"⟩
abbrev cX12_stuckAll : ByteArray := prog_14_method_39_code
def yX12_stuckAll : MethodName := ⟨RX12, "stuckAll", "()I"⟩
abbrev cX12_isLetter : ByteArray := prog_14_method_40_code
def yX12_isLetter : MethodName := ⟨RX12, "isLetter", "(I)Z"⟩
abbrev cX12_isFloor : ByteArray := prog_14_method_41_code
def yX12_isFloor : MethodName := ⟨RX12, "isFloor", "(I)Z"⟩
abbrev cX12_note : ByteArray := prog_14_method_42_code
def yX12_note : MethodName := ⟨RX12, "note", "()V"⟩
abbrev cX12_undo : ByteArray := prog_14_method_43_code
def yX12_undo : MethodName := ⟨RX12, "undo", "()I"⟩
abbrev cX12_ticks : ByteArray := prog_14_method_44_code
def yX12_ticks : MethodName := ⟨RX12, "ticks", "(I)I"⟩
abbrev cX12_wide : ByteArray := prog_14_method_45_code
def yX12_wide : MethodName := ⟨RX12, "wide", "(I)I"⟩
abbrev cX12_goPoke : ByteArray := prog_14_method_46_code
def yX12_goPoke : MethodName := ⟨RX12, "goPoke", "(I)V"⟩
abbrev cX12_poke : ByteArray := prog_14_method_47_code
def yX12_poke : MethodName := ⟨RX12, "poke", "(I)I"⟩
abbrev cX12_goPost : ByteArray := prog_14_method_48_code
def yX12_goPost : MethodName := ⟨RX12, "goPost", "(II)V"⟩
abbrev cX12_post : ByteArray := prog_14_method_49_code
def yX12_post : MethodName := ⟨RX12, "post", "(II)I"⟩
abbrev cX12_letter : ByteArray := prog_14_method_50_code
def yX12_letter : MethodName := ⟨RX12, "letter", "(II)I"⟩
abbrev cX12_floor : ByteArray := prog_14_method_51_code
def yX12_floor : MethodName := ⟨RX12, "floor", "(II)I"⟩
abbrev cX12_stand : ByteArray := prog_14_method_52_code
def yX12_stand : MethodName := ⟨RX12, "stand", "(I)I"⟩
abbrev cX12_isAhead : ByteArray := prog_14_method_53_code
def yX12_isAhead : MethodName := ⟨RX12, "isAhead", "(I)Z"⟩
abbrev cX12_ahead : ByteArray := prog_14_method_54_code
def yX12_ahead : MethodName := ⟨RX12, "ahead", "(III)I"⟩
abbrev cX12_full : ByteArray := prog_14_method_55_code
def yX12_full : MethodName := ⟨RX12, "full", "(II)I"⟩
abbrev cX12_all : ByteArray := prog_14_method_56_code
def yX12_all : MethodName := ⟨RX12, "all", "(II)I"⟩
abbrev cX12_when : ByteArray := prog_14_method_57_code
def yX12_when : MethodName := ⟨RX12, "when", "(II)I"⟩
abbrev cX12_over : ByteArray := prog_14_method_58_code
def yX12_over : MethodName := ⟨RX12, "over", "()I"⟩
abbrev cX12_layOrder : ByteArray := prog_14_method_59_code
def yX12_layOrder : MethodName := ⟨RX12, "layOrder", "(I)Z"⟩
abbrev cX12_order : ByteArray := prog_14_method_60_code
def yX12_order : MethodName := ⟨RX12, "order", "(II)I"⟩
abbrev cX12_need : ByteArray := prog_14_method_61_code
def yX12_need : MethodName := ⟨RX12, "need", "(I)I"⟩
abbrev cX12_latest : ByteArray := prog_14_method_62_code
def yX12_latest : MethodName := ⟨RX12, "latest", "(II)I"⟩
abbrev cX12_sets : ByteArray := prog_14_method_63_code
def yX12_sets : MethodName := ⟨RX12, "sets", "(II)I"⟩
abbrev cX12_share : ByteArray := prog_14_method_64_code
def yX12_share : MethodName := ⟨RX12, "share", "(II)I"⟩
abbrev cX12_porter : ByteArray := prog_14_method_65_code
def yX12_porter : MethodName := ⟨RX12, "porter", "(I)Z"⟩
abbrev cX12_boy : ByteArray := prog_14_method_66_code
def yX12_boy : MethodName := ⟨RX12, "boy", "(I)V"⟩
abbrev cX12_byMoves : ByteArray := prog_14_method_67_code
def yX12_byMoves : MethodName := ⟨RX12, "byMoves", "(IIIIII)I"⟩
abbrev cX12_byTurns : ByteArray := prog_14_method_68_code
def yX12_byTurns : MethodName := ⟨RX12, "byTurns", "(II)I"⟩
abbrev cX12_isRowSo : ByteArray := prog_14_method_69_code
def yX12_isRowSo : MethodName := ⟨RX12, "isRowSo", "(III)Z"⟩
abbrev cX12_kindSet : ByteArray := prog_14_method_70_code
def yX12_kindSet : MethodName := ⟨RX12, "kindSet", "(IIII)I"⟩
abbrev cX12_thickSet : ByteArray := prog_14_method_71_code
def yX12_thickSet : MethodName := ⟨RX12, "thickSet", "(IIII)I"⟩
abbrev cX12_floorSet : ByteArray := prog_14_method_72_code
def yX12_floorSet : MethodName := ⟨RX12, "floorSet", "(IIII)I"⟩
abbrev cX12_wideSet : ByteArray := prog_14_method_73_code
def yX12_wideSet : MethodName := ⟨RX12, "wideSet", "(III)I"⟩
abbrev cX12_who : ByteArray := prog_14_method_74_code
def yX12_who : MethodName := ⟨RX12, "who", "(IIIII)I"⟩
abbrev cX12_lost : ByteArray := prog_14_method_75_code
def yX12_lost : MethodName := ⟨RX12, "lost", "(IIII)J"⟩
abbrev cX12_drawn : ByteArray := prog_14_method_76_code
def yX12_drawn : MethodName := ⟨RX12, "drawn", "(III)I"⟩
abbrev cX12_image : ByteArray := prog_14_method_77_code
def yX12_image : MethodName := ⟨RX12, "image", "(I)I"⟩
abbrev cX12_restore : ByteArray := prog_14_method_78_code
def yX12_restore : MethodName := ⟨RX12, "restore", "(I)I"⟩
abbrev cX12_kind : ByteArray := prog_14_method_79_code
def yX12_kind : MethodName := ⟨RX12, "kind", "(I)I"⟩
abbrev cX12_as : ByteArray := prog_14_method_80_code
def yX12_as : MethodName := ⟨RX12, "as", "(II)I"⟩
abbrev cX12_leaves : ByteArray := prog_14_method_81_code
def yX12_leaves : MethodName := ⟨RX12, "leaves", "(I)V"⟩
abbrev cX12_body10 : ByteArray := prog_14_method_82_code
def yX12_body10 : MethodName := ⟨RX12, "body10", "(I)I"⟩
abbrev cX12_body20 : ByteArray := prog_14_method_83_code
def yX12_body20 : MethodName := ⟨RX12, "body20", "(I)I"⟩
abbrev cX12_body21 : ByteArray := prog_14_method_84_code
def yX12_body21 : MethodName := ⟨RX12, "body21", "(I)I"⟩
abbrev cX12_cardMark : ByteArray := prog_14_method_85_code
def yX12_cardMark : MethodName := ⟨RX12, "cardMark", "(I)I"⟩
abbrev cX12_body11 : ByteArray := prog_14_method_86_code
def yX12_body11 : MethodName := ⟨RX12, "body11", "(I)I"⟩
abbrev cX12_body13 : ByteArray := prog_14_method_87_code
def yX12_body13 : MethodName := ⟨RX12, "body13", "(I)I"⟩
abbrev cX12_parcelSize : ByteArray := prog_14_method_88_code
def yX12_parcelSize : MethodName := ⟨RX12, "parcelSize", "(I)I"⟩
abbrev cX12_size : ByteArray := prog_14_method_89_code
def yX12_size : MethodName := ⟨RX12, "size", "(I)I"⟩
abbrev cX12_mark : ByteArray := prog_14_method_90_code
def yX12_mark : MethodName := ⟨RX12, "mark", "(I)I"⟩
abbrev cX12_ask : ByteArray := prog_14_method_91_code
def yX12_ask : MethodName := ⟨RX12, "ask", "(II)I"⟩
abbrev cX12_trace : ByteArray := prog_14_method_92_code
def yX12_trace : MethodName := ⟨RX12, "trace", "(I)I"⟩
abbrev cX12_count : ByteArray := prog_14_method_93_code
def yX12_count : MethodName := ⟨RX12, "count", "(I)I"⟩
abbrev cX12_status : ByteArray := prog_14_method_94_code
def yX12_status : MethodName := ⟨RX12, "status", "()I"⟩
def RJ6 : String := "java/lang/Integer"
def TJ6 : u_T := fun k => match k with
  | _ => ("", "", "", false)
def tyJ6 : Nat → FieldType := fun k => match k with
  | _ => .int
theorem nmJ6 : ∀ a, a < 0 → ∀ b, b < 0 → a ≠ b → (TJ6 a).2.1 ≠ (TJ6 b).2.1 := by decide +kernel
theorem tyJ6_ok : ∀ k, k < 0 → parseFieldDescriptor (TJ6 k).2.2.1 = some (tyJ6 k) := by decide +kernel
abbrev cJ6_numberOfTrailingZeros_0f7a4 : ByteArray := prog_15_method_48_code
def yJ6_numberOfTrailingZeros_0f7a4 : MethodName := ⟨RJ6, "numberOfTrailingZeros", "(I)I"⟩
abbrev cJ6_bitCount_0f7a4 : ByteArray := prog_15_method_49_code
def yJ6_bitCount_0f7a4 : MethodName := ⟨RJ6, "bitCount", "(I)I"⟩
def RL : String := "LetterChuteLaw"
abbrev cL_law : ByteArray := code
def yL_law : MethodName := ⟨RL, "law", "([I)Z"⟩
end
section
/-! the program as blocks of resolved instructions: written by wip/whole/gen_code.py out of what TURN printed -/
def k0_0 : List Ins := [(0, 1, .aload_n 0, (.null, 0, 0, [], [])), (1, 3, .invokespecial 3, (.null, 0, 0, [], [151, 98, 99])), (4, 1, .aload_n 0, (.null, 0, 0, [], [])), (5, 2, .bipush 16, (.int 16, 0, 0, [], [])), (7, 2, .newarray .int, (.null, 0, 0, [], [120])), (9, 3, .putfield 9, (.null, 0, 0, [], [152])), (12, 1, .aload_n 0, (.null, 0, 0, [], [])), (13, 1, .iconst 0, (.int 0, 0, 0, [], [])), (14, 3, .putfield 15, (.int 0, 0, 1, [], [154])), (17, 1, .aload_n 0, (.null, 0, 0, [], [])), (18, 1, .iconst 0, (.int 0, 0, 0, [], [])), (19, 3, .putfield 19, (.int 0, 0, 2, [], [156])), (22, 1, .aload_n 0, (.null, 0, 0, [], [])), (23, 1, .iconst 0, (.int 0, 0, 0, [], [])), (24, 3, .putfield 22, (.int 0, 0, 3, [], [158])), (27, 1, .aload_n 0, (.null, 0, 0, [], [])), (28, 1, .iconst 0, (.int 0, 0, 0, [], [])), (29, 3, .putfield 25, (.int 0, 0, 4, [], [160])), (32, 1, .return_, (.null, 0, 0, [], []))]
def m0 : MI := (yX0_init, cX0_init, 1, none, [k0_0])
def k1_0 : List Ins := [(0, 1, .aload_n 0, (.null, 0, 0, [], [])), (1, 1, .iconst 0, (.int 0, 0, 0, [], [])), (2, 3, .putfield 15, (.int 0, 0, 1, [], [154])), (5, 1, .aload_n 0, (.null, 0, 0, [], [])), (6, 1, .iload_n 1, (.null, 1, 0, [], [])), (7, 3, .putfield 19, (.int 0, 0, 2, [], [156])), (10, 1, .aload_n 0, (.null, 0, 0, [], [])), (11, 1, .iload_n 2, (.null, 2, 0, [], [])), (12, 3, .putfield 22, (.int 0, 0, 3, [], [158])), (15, 1, .aload_n 0, (.null, 0, 0, [], [])), (16, 1, .iload_n 3, (.null, 3, 0, [], [])), (17, 3, .putfield 25, (.int 0, 0, 4, [], [160])), (20, 1, .return_, (.null, 0, 0, [], []))]
def m1 : MI := (yX0_begin, cX0_begin, 4, none, [k1_0])
def k2_0 : List Ins := [(0, 1, .aload_n 0, (.null, 0, 0, [], [])), (1, 3, .getfield 15, (.int 0, 0, 1, [], [154])), (4, 2, .bipush 16, (.int 16, 0, 0, [], [])), (6, 3, .if_icmp .ge 23, (.null, 1, 0, [], [])), (9, 1, .aload_n 0, (.null, 0, 0, [], [])), (10, 3, .getfield 9, (.null, 0, 0, [], [152])), (13, 1, .aload_n 0, (.null, 0, 0, [], [])), (14, 3, .getfield 15, (.int 0, 0, 1, [], [154])), (17, 1, .iload_n 1, (.null, 1, 0, [], [])), (18, 1, .iastore, (.null, 0, 0, [], [])), (19, 1, .aload_n 0, (.null, 0, 0, [], [])), (20, 1, .dup, (.null, 0, 0, [], [])), (21, 3, .getfield 15, (.int 0, 0, 1, [], [154])), (24, 1, .iconst 1, (.int 1, 0, 0, [], [])), (25, 1, .iadd, (.null, 0, 0, [], [])), (26, 3, .putfield 15, (.int 0, 0, 1, [], [154])), (29, 0, .nop, (.null, 1, 0, [], []))]
def k2_1 : List Ins := [(29, 1, .return_, (.null, 0, 0, [], []))]
def m2 : MI := (yX0_leave, cX0_leave, 2, none, [k2_0, k2_1])
def k3_0 : List Ins := [(0, 1, .aload_n 0, (.null, 0, 0, [], [])), (1, 3, .invokespecial 1, (.null, 0, 0, [(1, 26, 1)], [5, 181])), (4, 1, .return_, (.null, 0, 0, [], []))]
def m3 : MI := (yX1_init, cX1_init, 1, none, [k3_0])
def k4_0 : List Ins := [(0, 1, .aload_n 1, (.null, 1, 0, [], [])), (1, 2, .bipush 11, (.int 11, 0, 0, [], [])), (3, 3, .invokevirtual 7, (.null, 1, 0, [(0, 2, 2)], [844, 845, 846])), (6, 1, .aload_n 0, (.null, 0, 0, [], [])), (7, 1, .aload_n 1, (.null, 1, 0, [], [])), (8, 3, .invokespecial 13, (.null, 1, 1, [(2, 27, 2)], [848, 839, 840, 184])), (11, 1, .istore_n 2, (.null, 2, 0, [], [])), (12, 1, .iload_n 2, (.null, 2, 0, [], [])), (13, 1, .aload_n 0, (.null, 0, 0, [], [])), (14, 1, .aload_n 1, (.null, 1, 0, [], [])), (15, 3, .invokevirtual 17, (.null, 1, 1, [(1, 5, 2), (9, 79, 2), (3, 30, 2)], [849, 852, 850, 5, 851, 850, 858, 859, 853, 854])), (18, 1, .iadd, (.null, 0, 0, [], [])), (19, 1, .ireturn, (.null, 0, 0, [], []))]
def m4 : MI := (yX1_sizeFor, cX1_sizeFor, 3, (some .int), [k4_0])
def k5_0 : List Ins := [(0, 1, .aload_n 1, (.null, 1, 0, [], [])), (1, 2, .bipush 21, (.int 21, 0, 0, [], [])), (3, 3, .invokevirtual 7, (.null, 1, 0, [(0, 2, 2)], [844, 845, 846])), (6, 1, .aload_n 0, (.null, 0, 0, [], [])), (7, 1, .aload_n 1, (.null, 1, 0, [], [])), (8, 3, .invokespecial 22, (.null, 1, 1, [(2, 28, 2)], [864, 865, 1412, 184])), (11, 1, .aload_n 1, (.null, 1, 0, [], [])), (12, 3, .getfield 23, (.int 0, 0, 4, [], [161])), (15, 1, .iadd, (.null, 0, 0, [], [])), (16, 1, .ireturn, (.null, 0, 0, [], []))]
def m5 : MI := (yX1_markFor, cX1_markFor, 2, (some .int), [k5_0])
def k6_0 : List Ins := [(0, 1, .aload_n 0, (.null, 0, 0, [], [])), (1, 3, .invokespecial 3, (.null, 0, 0, [], [218, 98, 99])), (4, 1, .aload_n 0, (.null, 0, 0, [], [])), (5, 1, .iconst 0, (.int 0, 0, 0, [], [])), (6, 3, .putfield 9, (.int 0, 2, 0, [], [219])), (9, 1, .aload_n 0, (.null, 0, 0, [], [])), (10, 1, .iconst 0, (.int 0, 0, 0, [], [])), (11, 3, .putfield 15, (.int 0, 2, 1, [], [223])), (14, 1, .aload_n 0, (.null, 0, 0, [], [])), (15, 1, .iconst 0, (.int 0, 0, 0, [], [])), (16, 3, .putfield 18, (.int 0, 2, 2, [], [226])), (19, 1, .aload_n 0, (.null, 0, 0, [], [])), (20, 1, .iconst 0, (.int 0, 0, 0, [], [])), (21, 3, .putfield 21, (.int 0, 2, 3, [], [229])), (24, 1, .aload_n 0, (.null, 0, 0, [], [])), (25, 1, .iconst 0, (.int 0, 0, 0, [], [])), (26, 3, .putfield 24, (.int 0, 2, 4, [], [233])), (29, 1, .aload_n 0, (.null, 0, 0, [], [])), (30, 2, .bipush 6, (.int 6, 0, 0, [], [])), (32, 2, .newarray .int, (.null, 0, 0, [], [120])), (34, 3, .putfield 27, (.null, 2, 5, [], [235])), (37, 1, .aload_n 0, (.null, 0, 0, [], [])), (38, 2, .bipush 6, (.int 6, 0, 0, [], [])), (40, 2, .newarray .int, (.null, 0, 0, [], [120])), (42, 3, .putfield 31, (.null, 2, 6, [], [238])), (45, 1, .aload_n 0, (.null, 0, 0, [], [])), (46, 2, .bipush 6, (.int 6, 0, 0, [], [])), (48, 2, .newarray .int, (.null, 0, 0, [], [120])), (50, 3, .putfield 34, (.null, 2, 7, [], [241])), (53, 1, .aload_n 0, (.null, 0, 0, [], [])), (54, 2, .bipush 6, (.int 6, 0, 0, [], [])), (56, 2, .newarray .int, (.null, 0, 0, [], [120])), (58, 3, .putfield 37, (.null, 2, 8, [], [243])), (61, 1, .aload_n 0, (.null, 0, 0, [], [])), (62, 2, .bipush 6, (.int 6, 0, 0, [], [])), (64, 2, .newarray .int, (.null, 0, 0, [], [120])), (66, 3, .putfield 40, (.null, 2, 9, [], [246])), (69, 1, .aload_n 0, (.null, 0, 0, [], [])), (70, 2, .bipush 6, (.int 6, 0, 0, [], [])), (72, 2, .newarray .int, (.null, 0, 0, [], [120])), (74, 3, .putfield 43, (.null, 2, 10, [], [249])), (77, 1, .aload_n 0, (.null, 0, 0, [], [])), (78, 2, .bipush 6, (.int 6, 0, 0, [], [])), (80, 2, .newarray .int, (.null, 0, 0, [], [120])), (82, 3, .putfield 46, (.null, 2, 11, [], [251])), (85, 1, .aload_n 0, (.null, 0, 0, [], [])), (86, 2, .bipush 6, (.int 6, 0, 0, [], [])), (88, 2, .newarray .int, (.null, 0, 0, [], [120])), (90, 3, .putfield 49, (.null, 2, 12, [], [253])), (93, 1, .aload_n 0, (.null, 0, 0, [], [])), (94, 2, .bipush 22, (.int 22, 0, 0, [], [])), (96, 2, .newarray .int, (.null, 0, 0, [], [120])), (98, 3, .putfield 52, (.null, 2, 13, [], [255])), (101, 1, .aload_n 0, (.null, 0, 0, [], [])), (102, 2, .bipush 22, (.int 22, 0, 0, [], [])), (104, 2, .newarray .int, (.null, 0, 0, [], [120])), (106, 3, .putfield 55, (.null, 2, 14, [], [258])), (109, 1, .return_, (.null, 0, 0, [], []))]
def m6 : MI := (yX2_init, cX2_init, 1, none, [k6_0])
def k7_0 : List Ins := [(0, 1, .aload_n 0, (.null, 0, 0, [], [])), (1, 1, .iload_n 1, (.null, 1, 0, [], [])), (2, 3, .putfield 9, (.int 0, 2, 0, [], [219])), (5, 1, .aload_n 0, (.null, 0, 0, [], [])), (6, 1, .iload_n 2, (.null, 2, 0, [], [])), (7, 3, .putfield 15, (.int 0, 2, 1, [], [223])), (10, 1, .aload_n 0, (.null, 0, 0, [], [])), (11, 1, .iconst 0, (.int 0, 0, 0, [], [])), (12, 3, .putfield 18, (.int 0, 2, 2, [], [226])), (15, 1, .aload_n 0, (.null, 0, 0, [], [])), (16, 1, .iconst 0, (.int 0, 0, 0, [], [])), (17, 3, .putfield 21, (.int 0, 2, 3, [], [229])), (20, 1, .aload_n 0, (.null, 0, 0, [], [])), (21, 1, .iconst 0, (.int 0, 0, 0, [], [])), (22, 3, .putfield 24, (.int 0, 2, 4, [], [233])), (25, 1, .iconst 0, (.int 0, 0, 0, [], [])), (26, 1, .istore_n 3, (.null, 3, 0, [], [])), (27, 0, .nop, (.null, 1, 9, [], []))]
def k7_1 : List Ins := [(27, 1, .iload_n 3, (.null, 3, 0, [], [])), (28, 2, .bipush 22, (.int 22, 0, 0, [], [])), (30, 3, .if_icmp .ge 23, (.null, 2, 0, [], [])), (33, 1, .aload_n 0, (.null, 0, 0, [], [])), (34, 3, .getfield 52, (.null, 2, 13, [], [255])), (37, 1, .iload_n 3, (.null, 3, 0, [], [])), (38, 1, .iconst 0, (.int 0, 0, 0, [], [])), (39, 1, .iastore, (.null, 0, 0, [], [])), (40, 1, .aload_n 0, (.null, 0, 0, [], [])), (41, 3, .getfield 55, (.null, 2, 14, [], [258])), (44, 1, .iload_n 3, (.null, 3, 0, [], [])), (45, 1, .iconst 0, (.int 0, 0, 0, [], [])), (46, 1, .iastore, (.null, 0, 0, [], [])), (47, 3, .iinc 3 1, (.int 1, 3, 0, [], [])), (50, 3, .goto (-23), (.int 0, 1, 9, [], []))]
def k7_2 : List Ins := [(53, 1, .return_, (.null, 0, 0, [], []))]
def m7 : MI := (yX2_begin, cX2_begin, 4, none, [k7_0, k7_1, k7_2])
def k8_0 : List Ins := [(0, 1, .aload_n 0, (.null, 0, 0, [], [])), (1, 3, .getfield 21, (.int 0, 2, 3, [], [229])), (4, 2, .istore 5, (.null, 5, 0, [], [])), (6, 1, .aload_n 0, (.null, 0, 0, [], [])), (7, 3, .getfield 27, (.null, 2, 5, [], [235])), (10, 2, .iload 5, (.null, 5, 0, [], [])), (12, 1, .iload_n 1, (.null, 1, 0, [], [])), (13, 1, .iastore, (.null, 0, 0, [], [])), (14, 1, .aload_n 0, (.null, 0, 0, [], [])), (15, 3, .getfield 31, (.null, 2, 6, [], [238])), (18, 2, .iload 5, (.null, 5, 0, [], [])), (20, 1, .iload_n 2, (.null, 2, 0, [], [])), (21, 1, .iastore, (.null, 0, 0, [], [])), (22, 1, .aload_n 0, (.null, 0, 0, [], [])), (23, 3, .getfield 34, (.null, 2, 7, [], [241])), (26, 2, .iload 5, (.null, 5, 0, [], [])), (28, 1, .iload_n 3, (.null, 3, 0, [], [])), (29, 1, .iastore, (.null, 0, 0, [], [])), (30, 1, .aload_n 0, (.null, 0, 0, [], [])), (31, 3, .getfield 37, (.null, 2, 8, [], [243])), (34, 2, .iload 5, (.null, 5, 0, [], [])), (36, 2, .iload 4, (.null, 4, 0, [], [])), (38, 1, .iastore, (.null, 0, 0, [], [])), (39, 1, .aload_n 0, (.null, 0, 0, [], [])), (40, 3, .getfield 40, (.null, 2, 9, [], [246])), (43, 2, .iload 5, (.null, 5, 0, [], [])), (45, 2, .bipush 20, (.int 20, 0, 0, [], [])), (47, 1, .iastore, (.null, 0, 0, [], [])), (48, 1, .aload_n 0, (.null, 0, 0, [], [])), (49, 3, .getfield 43, (.null, 2, 10, [], [249])), (52, 2, .iload 5, (.null, 5, 0, [], [])), (54, 1, .iconst 0, (.int 0, 0, 0, [], [])), (55, 1, .iastore, (.null, 0, 0, [], [])), (56, 1, .aload_n 0, (.null, 0, 0, [], [])), (57, 3, .getfield 46, (.null, 2, 11, [], [251])), (60, 2, .iload 5, (.null, 5, 0, [], [])), (62, 1, .iconst 0, (.int 0, 0, 0, [], [])), (63, 1, .iastore, (.null, 0, 0, [], [])), (64, 1, .aload_n 0, (.null, 0, 0, [], [])), (65, 3, .getfield 49, (.null, 2, 12, [], [253])), (68, 2, .iload 5, (.null, 5, 0, [], [])), (70, 2, .iload 5, (.null, 5, 0, [], [])), (72, 1, .iastore, (.null, 0, 0, [], [])), (73, 1, .aload_n 0, (.null, 0, 0, [], [])), (74, 3, .getfield 52, (.null, 2, 13, [], [255])), (77, 2, .bipush 20, (.int 20, 0, 0, [], [])), (79, 1, .dup2, (.null, 0, 0, [], [])), (80, 1, .iaload, (.null, 0, 0, [], [])), (81, 1, .iconst 1, (.int 1, 0, 0, [], [])), (82, 2, .iload 5, (.null, 5, 0, [], [])), (84, 1, .ishl, (.null, 0, 0, [], [])), (85, 1, .ior, (.null, 0, 0, [], [])), (86, 1, .iastore, (.null, 0, 0, [], [])), (87, 1, .aload_n 0, (.null, 0, 0, [], [])), (88, 3, .getfield 55, (.null, 2, 14, [], [258])), (91, 2, .bipush 20, (.int 20, 0, 0, [], [])), (93, 1, .dup2, (.null, 0, 0, [], [])), (94, 1, .iaload, (.null, 0, 0, [], [])), (95, 1, .iload_n 3, (.null, 3, 0, [], [])), (96, 1, .iadd, (.null, 0, 0, [], [])), (97, 1, .iastore, (.null, 0, 0, [], [])), (98, 1, .aload_n 0, (.null, 0, 0, [], [])), (99, 1, .dup, (.null, 0, 0, [], [])), (100, 3, .getfield 21, (.int 0, 2, 3, [], [229])), (103, 1, .iconst 1, (.int 1, 0, 0, [], [])), (104, 1, .iadd, (.null, 0, 0, [], [])), (105, 3, .putfield 21, (.int 0, 2, 3, [], [229])), (108, 1, .return_, (.null, 0, 0, [], []))]
def m8 : MI := (yX2_add, cX2_add, 6, none, [k8_0])
def k9_0 : List Ins := [(0, 1, .aload_n 0, (.null, 0, 0, [], [])), (1, 1, .aload_n 1, (.null, 1, 0, [], [])), (2, 3, .getfield 9, (.int 0, 2, 0, [], [219])), (5, 3, .putfield 9, (.int 0, 2, 0, [], [219])), (8, 1, .aload_n 0, (.null, 0, 0, [], [])), (9, 1, .aload_n 1, (.null, 1, 0, [], [])), (10, 3, .getfield 15, (.int 0, 2, 1, [], [223])), (13, 3, .putfield 15, (.int 0, 2, 1, [], [223])), (16, 1, .aload_n 0, (.null, 0, 0, [], [])), (17, 1, .aload_n 1, (.null, 1, 0, [], [])), (18, 3, .getfield 18, (.int 0, 2, 2, [], [226])), (21, 3, .putfield 18, (.int 0, 2, 2, [], [226])), (24, 1, .aload_n 0, (.null, 0, 0, [], [])), (25, 1, .aload_n 1, (.null, 1, 0, [], [])), (26, 3, .getfield 21, (.int 0, 2, 3, [], [229])), (29, 3, .putfield 21, (.int 0, 2, 3, [], [229])), (32, 1, .aload_n 0, (.null, 0, 0, [], [])), (33, 1, .aload_n 1, (.null, 1, 0, [], [])), (34, 3, .getfield 24, (.int 0, 2, 4, [], [233])), (37, 3, .putfield 24, (.int 0, 2, 4, [], [233])), (40, 1, .aload_n 1, (.null, 1, 0, [], [])), (41, 3, .getfield 27, (.null, 2, 5, [], [235])), (44, 1, .iconst 0, (.int 0, 0, 0, [], [])), (45, 1, .aload_n 0, (.null, 0, 0, [], [])), (46, 3, .getfield 27, (.null, 2, 5, [], [235])), (49, 1, .iconst 0, (.int 0, 0, 0, [], [])), (50, 2, .bipush 6, (.int 6, 0, 0, [], [])), (52, 3, .invokestatic 58, (.null, 4, 0, [], [490, 415, 89, 416])), (55, 1, .aload_n 1, (.null, 1, 0, [], [])), (56, 3, .getfield 31, (.null, 2, 6, [], [238])), (59, 1, .iconst 0, (.int 0, 0, 0, [], [])), (60, 1, .aload_n 0, (.null, 0, 0, [], [])), (61, 3, .getfield 31, (.null, 2, 6, [], [238])), (64, 1, .iconst 0, (.int 0, 0, 0, [], [])), (65, 2, .bipush 6, (.int 6, 0, 0, [], [])), (67, 3, .invokestatic 58, (.null, 4, 0, [], [490, 415, 89, 416])), (70, 1, .aload_n 1, (.null, 1, 0, [], [])), (71, 3, .getfield 34, (.null, 2, 7, [], [241])), (74, 1, .iconst 0, (.int 0, 0, 0, [], [])), (75, 1, .aload_n 0, (.null, 0, 0, [], [])), (76, 3, .getfield 34, (.null, 2, 7, [], [241])), (79, 1, .iconst 0, (.int 0, 0, 0, [], [])), (80, 2, .bipush 6, (.int 6, 0, 0, [], [])), (82, 3, .invokestatic 58, (.null, 4, 0, [], [490, 415, 89, 416])), (85, 1, .aload_n 1, (.null, 1, 0, [], [])), (86, 3, .getfield 37, (.null, 2, 8, [], [243])), (89, 1, .iconst 0, (.int 0, 0, 0, [], [])), (90, 1, .aload_n 0, (.null, 0, 0, [], [])), (91, 3, .getfield 37, (.null, 2, 8, [], [243])), (94, 1, .iconst 0, (.int 0, 0, 0, [], [])), (95, 2, .bipush 6, (.int 6, 0, 0, [], [])), (97, 3, .invokestatic 58, (.null, 4, 0, [], [490, 415, 89, 416])), (100, 1, .aload_n 1, (.null, 1, 0, [], [])), (101, 3, .getfield 40, (.null, 2, 9, [], [246])), (104, 1, .iconst 0, (.int 0, 0, 0, [], [])), (105, 1, .aload_n 0, (.null, 0, 0, [], [])), (106, 3, .getfield 40, (.null, 2, 9, [], [246])), (109, 1, .iconst 0, (.int 0, 0, 0, [], [])), (110, 2, .bipush 6, (.int 6, 0, 0, [], [])), (112, 3, .invokestatic 58, (.null, 4, 0, [], [490, 415, 89, 416])), (115, 1, .aload_n 1, (.null, 1, 0, [], [])), (116, 3, .getfield 43, (.null, 2, 10, [], [249])), (119, 1, .iconst 0, (.int 0, 0, 0, [], [])), (120, 1, .aload_n 0, (.null, 0, 0, [], [])), (121, 3, .getfield 43, (.null, 2, 10, [], [249])), (124, 1, .iconst 0, (.int 0, 0, 0, [], [])), (125, 2, .bipush 6, (.int 6, 0, 0, [], [])), (127, 3, .invokestatic 58, (.null, 4, 0, [], [490, 415, 89, 416])), (130, 1, .aload_n 1, (.null, 1, 0, [], [])), (131, 3, .getfield 46, (.null, 2, 11, [], [251])), (134, 1, .iconst 0, (.int 0, 0, 0, [], [])), (135, 1, .aload_n 0, (.null, 0, 0, [], [])), (136, 3, .getfield 46, (.null, 2, 11, [], [251])), (139, 1, .iconst 0, (.int 0, 0, 0, [], [])), (140, 2, .bipush 6, (.int 6, 0, 0, [], [])), (142, 3, .invokestatic 58, (.null, 4, 0, [], [490, 415, 89, 416])), (145, 1, .aload_n 1, (.null, 1, 0, [], [])), (146, 3, .getfield 49, (.null, 2, 12, [], [253])), (149, 1, .iconst 0, (.int 0, 0, 0, [], [])), (150, 1, .aload_n 0, (.null, 0, 0, [], [])), (151, 3, .getfield 49, (.null, 2, 12, [], [253])), (154, 1, .iconst 0, (.int 0, 0, 0, [], [])), (155, 2, .bipush 6, (.int 6, 0, 0, [], [])), (157, 3, .invokestatic 58, (.null, 4, 0, [], [490, 415, 89, 416])), (160, 1, .aload_n 1, (.null, 1, 0, [], [])), (161, 3, .getfield 52, (.null, 2, 13, [], [255])), (164, 1, .iconst 0, (.int 0, 0, 0, [], [])), (165, 1, .aload_n 0, (.null, 0, 0, [], [])), (166, 3, .getfield 52, (.null, 2, 13, [], [255])), (169, 1, .iconst 0, (.int 0, 0, 0, [], [])), (170, 2, .bipush 22, (.int 22, 0, 0, [], [])), (172, 3, .invokestatic 58, (.null, 4, 0, [], [490, 415, 89, 416])), (175, 1, .aload_n 1, (.null, 1, 0, [], [])), (176, 3, .getfield 55, (.null, 2, 14, [], [258])), (179, 1, .iconst 0, (.int 0, 0, 0, [], [])), (180, 1, .aload_n 0, (.null, 0, 0, [], [])), (181, 3, .getfield 55, (.null, 2, 14, [], [258])), (184, 1, .iconst 0, (.int 0, 0, 0, [], [])), (185, 2, .bipush 22, (.int 22, 0, 0, [], [])), (187, 3, .invokestatic 58, (.null, 4, 0, [], [490, 415, 89, 416])), (190, 1, .return_, (.null, 0, 0, [], []))]
def m9 : MI := (yX2_copyFrom, cX2_copyFrom, 2, none, [k9_0])
def k10_0 : List Ins := [(0, 1, .iconst 0, (.int 0, 0, 0, [], [])), (1, 1, .istore_n 1, (.null, 1, 0, [], [])), (2, 0, .nop, (.null, 1, 3, [], []))]
def k10_1 : List Ins := [(2, 1, .iload_n 1, (.null, 1, 0, [], [])), (3, 1, .aload_n 0, (.null, 0, 0, [], [])), (4, 3, .getfield 9, (.int 0, 2, 0, [], [219])), (7, 3, .if_icmp .ge 51, (.null, 5, 1, [], [])), (10, 1, .aload_n 0, (.null, 0, 0, [], [])), (11, 3, .getfield 52, (.null, 2, 13, [], [255])), (14, 1, .iload_n 1, (.null, 1, 0, [], [])), (15, 1, .iaload, (.null, 0, 0, [], [])), (16, 1, .istore_n 2, (.null, 2, 0, [], [])), (17, 1, .iconst 0, (.int 0, 0, 0, [], [])), (18, 1, .istore_n 3, (.null, 3, 0, [], [])), (19, 0, .nop, (.null, 2, 15, [], []))]
def k10_2 : List Ins := [(19, 1, .iload_n 3, (.null, 3, 0, [], [])), (20, 1, .aload_n 0, (.null, 0, 0, [], [])), (21, 3, .getfield 21, (.int 0, 2, 3, [], [229])), (24, 3, .if_icmp .ge 28, (.null, 4, 3, [], [])), (27, 1, .iload_n 2, (.null, 2, 0, [], [])), (28, 1, .iload_n 3, (.null, 3, 0, [], [])), (29, 1, .ishr, (.null, 0, 0, [], [])), (30, 3, .ifCond .eq 22, (.null, 4, 3, [], [])), (33, 1, .iload_n 2, (.null, 2, 0, [], [])), (34, 1, .iload_n 3, (.null, 3, 0, [], [])), (35, 1, .ishr, (.null, 0, 0, [], [])), (36, 1, .iconst 1, (.int 1, 0, 0, [], [])), (37, 1, .iand, (.null, 0, 0, [], [])), (38, 3, .ifCond .eq 8, (.null, 3, 15, [], [])), (41, 1, .aload_n 0, (.null, 0, 0, [], [])), (42, 1, .iload_n 3, (.null, 3, 0, [], [])), (43, 3, .invokevirtual 64, (.null, 1, 0, [(2, 12, 5)], [523, 525, 11])), (46, 0, .nop, (.null, 3, 15, [], []))]
def k10_3 : List Ins := [(46, 3, .iinc 3 1, (.int 1, 3, 0, [], [])), (49, 3, .goto (-30), (.int 0, 2, 15, [], []))]
def k10_4 : List Ins := [(52, 3, .iinc 1 1, (.int 1, 1, 0, [], [])), (55, 3, .goto (-53), (.int 0, 1, 3, [], []))]
def k10_5 : List Ins := [(58, 1, .aload_n 0, (.null, 0, 0, [], [])), (59, 3, .getfield 52, (.null, 2, 13, [], [255])), (62, 2, .bipush 20, (.int 20, 0, 0, [], [])), (64, 1, .iaload, (.null, 0, 0, [], [])), (65, 1, .aload_n 0, (.null, 0, 0, [], [])), (66, 3, .getfield 24, (.int 0, 2, 4, [], [233])), (69, 1, .iconst (-1), (.int (-1), 0, 0, [], [])), (70, 1, .ixor, (.null, 0, 0, [], [])), (71, 1, .iand, (.null, 0, 0, [], [])), (72, 1, .istore_n 1, (.null, 1, 0, [], [])), (73, 1, .iconst 0, (.int 0, 0, 0, [], [])), (74, 1, .istore_n 2, (.null, 2, 0, [], [])), (75, 0, .nop, (.null, 6, 7, [], []))]
def k10_6 : List Ins := [(75, 1, .iload_n 2, (.null, 2, 0, [], [])), (76, 1, .aload_n 0, (.null, 0, 0, [], [])), (77, 3, .getfield 21, (.int 0, 2, 3, [], [229])), (80, 3, .if_icmp .ge 66, (.null, 8, 1, [], [])), (83, 1, .iload_n 1, (.null, 1, 0, [], [])), (84, 3, .ifCond .eq 62, (.null, 8, 1, [], [])), (87, 1, .aload_n 0, (.null, 0, 0, [], [])), (88, 3, .getfield 49, (.null, 2, 12, [], [253])), (91, 1, .iload_n 2, (.null, 2, 0, [], [])), (92, 1, .iaload, (.null, 0, 0, [], [])), (93, 1, .istore_n 3, (.null, 3, 0, [], [])), (94, 1, .iload_n 1, (.null, 1, 0, [], [])), (95, 1, .iload_n 3, (.null, 3, 0, [], [])), (96, 1, .ishr, (.null, 0, 0, [], [])), (97, 1, .iconst 1, (.int 1, 0, 0, [], [])), (98, 1, .iand, (.null, 0, 0, [], [])), (99, 3, .ifCond .eq 41, (.null, 7, 7, [], [])), (102, 1, .aload_n 0, (.null, 0, 0, [], [])), (103, 3, .getfield 37, (.null, 2, 8, [], [243])), (106, 1, .iload_n 3, (.null, 3, 0, [], [])), (107, 1, .iaload, (.null, 0, 0, [], [])), (108, 1, .aload_n 0, (.null, 0, 0, [], [])), (109, 3, .getfield 18, (.int 0, 2, 2, [], [226])), (112, 3, .if_icmp .gt 28, (.null, 7, 7, [], [])), (115, 1, .aload_n 0, (.null, 0, 0, [], [])), (116, 1, .iload_n 3, (.null, 3, 0, [], [])), (117, 1, .aload_n 0, (.null, 0, 0, [], [])), (118, 3, .getfield 31, (.null, 2, 6, [], [238])), (121, 1, .iload_n 3, (.null, 3, 0, [], [])), (122, 1, .iaload, (.null, 0, 0, [], [])), (123, 3, .invokevirtual 68, (.null, 2, 1, [(2, 14, 3)], [535, 537, 12])), (126, 3, .ifCond .eq 14, (.null, 7, 7, [], [])), (129, 1, .aload_n 0, (.null, 0, 0, [], [])), (130, 1, .iload_n 3, (.null, 3, 0, [], [])), (131, 1, .aload_n 0, (.null, 0, 0, [], [])), (132, 3, .getfield 31, (.null, 2, 6, [], [238])), (135, 1, .iload_n 3, (.null, 3, 0, [], [])), (136, 1, .iaload, (.null, 0, 0, [], [])), (137, 3, .invokevirtual 72, (.null, 2, 0, [(2, 15, 3)], [539, 540, 541])), (140, 0, .nop, (.null, 7, 7, [], []))]
def k10_7 : List Ins := [(140, 3, .iinc 2 1, (.int 1, 2, 0, [], [])), (143, 3, .goto (-68), (.int 0, 6, 7, [], []))]
def k10_8 : List Ins := [(146, 1, .aload_n 0, (.null, 0, 0, [], [])), (147, 1, .dup, (.null, 0, 0, [], [])), (148, 3, .getfield 18, (.int 0, 2, 2, [], [226])), (151, 1, .iconst 1, (.int 1, 0, 0, [], [])), (152, 1, .iadd, (.null, 0, 0, [], [])), (153, 3, .putfield 18, (.int 0, 2, 2, [], [226])), (156, 1, .return_, (.null, 0, 0, [], []))]
def m10 : MI := (yX2_tickOnce, cX2_tickOnce, 4, none, [k10_0, k10_1, k10_2, k10_3, k10_4, k10_5, k10_6, k10_7, k10_8])
def k11_0 : List Ins := [(0, 1, .iconst 0, (.int 0, 0, 0, [], [])), (1, 1, .istore_n 2, (.null, 2, 0, [], [])), (2, 0, .nop, (.null, 1, 7, [], []))]
def k11_1 : List Ins := [(2, 1, .iload_n 2, (.null, 2, 0, [], [])), (3, 1, .iload_n 1, (.null, 1, 0, [], [])), (4, 3, .if_icmp .ge 20, (.null, 2, 0, [], [])), (7, 1, .aload_n 0, (.null, 0, 0, [], [])), (8, 3, .invokevirtual 76, (.null, 0, 1, [(2, 21, 1)], [590, 591, 592])), (11, 3, .ifCond .eq 13, (.null, 2, 0, [], [])), (14, 1, .aload_n 0, (.null, 0, 0, [], [])), (15, 3, .invokevirtual 80, (.null, 0, 0, [(2, 10, 4)], [611, 520, 521])), (18, 3, .iinc 2 1, (.int 1, 2, 0, [], [])), (21, 3, .goto (-19), (.int 0, 1, 7, [], []))]
def k11_2 : List Ins := [(24, 1, .return_, (.null, 0, 0, [], []))]
def m11 : MI := (yX2_pass, cX2_pass, 3, none, [k11_0, k11_1, k11_2])
def k12_0 : List Ins := [(0, 1, .aload_n 0, (.null, 0, 0, [], [])), (1, 3, .getfield 40, (.null, 2, 9, [], [246])), (4, 1, .iload_n 1, (.null, 1, 0, [], [])), (5, 1, .iaload, (.null, 0, 0, [], [])), (6, 1, .istore_n 2, (.null, 2, 0, [], [])), (7, 1, .aload_n 0, (.null, 0, 0, [], [])), (8, 1, .iload_n 1, (.null, 1, 0, [], [])), (9, 3, .invokevirtual 83, (.null, 1, 1, [(2, 13, 3)], [527, 528, 529])), (12, 1, .istore_n 3, (.null, 3, 0, [], [])), (13, 1, .iconst 0, (.int 0, 0, 0, [], [])), (14, 2, .istore 4, (.null, 4, 0, [], [])), (16, 0, .nop, (.null, 1, 31, [], []))]
def k12_1 : List Ins := [(16, 2, .iload 4, (.null, 4, 0, [], [])), (18, 1, .iload_n 3, (.null, 3, 0, [], [])), (19, 3, .if_icmp .ge 51, (.null, 2, 7, [], [])), (22, 1, .aload_n 0, (.null, 0, 0, [], [])), (23, 3, .getfield 40, (.null, 2, 9, [], [246])), (26, 1, .iload_n 1, (.null, 1, 0, [], [])), (27, 1, .iaload, (.null, 0, 0, [], [])), (28, 2, .bipush 21, (.int 21, 0, 0, [], [])), (30, 3, .if_icmp .eq 40, (.null, 2, 7, [], [])), (33, 1, .aload_n 0, (.null, 0, 0, [], [])), (34, 1, .iload_n 1, (.null, 1, 0, [], [])), (35, 1, .aload_n 0, (.null, 0, 0, [], [])), (36, 3, .getfield 40, (.null, 2, 9, [], [246])), (39, 1, .iload_n 1, (.null, 1, 0, [], [])), (40, 1, .iaload, (.null, 0, 0, [], [])), (41, 3, .invokestatic 87, (.null, 1, 1, [(0, 18, 1)], [532, 533])), (44, 3, .invokevirtual 68, (.null, 2, 1, [(2, 14, 3)], [535, 537, 12])), (47, 3, .ifCond .eq 23, (.null, 2, 7, [], [])), (50, 1, .aload_n 0, (.null, 0, 0, [], [])), (51, 1, .iload_n 1, (.null, 1, 0, [], [])), (52, 1, .aload_n 0, (.null, 0, 0, [], [])), (53, 3, .getfield 40, (.null, 2, 9, [], [246])), (56, 1, .iload_n 1, (.null, 1, 0, [], [])), (57, 1, .iaload, (.null, 0, 0, [], [])), (58, 3, .invokestatic 87, (.null, 1, 1, [(0, 18, 1)], [532, 533])), (61, 3, .invokevirtual 72, (.null, 2, 0, [(2, 15, 3)], [539, 540, 541])), (64, 3, .iinc 4 1, (.int 1, 4, 0, [], [])), (67, 3, .goto (-51), (.int 0, 1, 31, [], []))]
def k12_2 : List Ins := [(70, 1, .aload_n 0, (.null, 0, 0, [], [])), (71, 3, .getfield 40, (.null, 2, 9, [], [246])), (74, 1, .iload_n 1, (.null, 1, 0, [], [])), (75, 1, .iaload, (.null, 0, 0, [], [])), (76, 1, .iload_n 2, (.null, 2, 0, [], [])), (77, 3, .if_icmp .ne 33, (.null, 3, 3, [], [])), (80, 1, .aload_n 0, (.null, 0, 0, [], [])), (81, 3, .getfield 43, (.null, 2, 10, [], [249])), (84, 1, .iload_n 1, (.null, 1, 0, [], [])), (85, 3, .sipush 999, (.int 999, 0, 0, [], [])), (88, 1, .aload_n 0, (.null, 0, 0, [], [])), (89, 3, .getfield 43, (.null, 2, 10, [], [249])), (92, 1, .iload_n 1, (.null, 1, 0, [], [])), (93, 1, .iaload, (.null, 0, 0, [], [])), (94, 1, .iconst 1, (.int 1, 0, 0, [], [])), (95, 1, .iadd, (.null, 0, 0, [], [])), (96, 3, .invokestatic 90, (.null, 1, 0, [], [531, 517, 90, 518])), (99, 1, .iastore, (.null, 0, 0, [], [])), (100, 1, .aload_n 0, (.null, 0, 0, [], [])), (101, 3, .getfield 46, (.null, 2, 11, [], [251])), (104, 1, .iload_n 1, (.null, 1, 0, [], [])), (105, 1, .iconst 0, (.int 0, 0, 0, [], [])), (106, 1, .iastore, (.null, 0, 0, [], [])), (107, 3, .goto 13, (.null, 0, 0, [], [])), (120, 1, .return_, (.null, 0, 0, [], []))]
def k12_3 : List Ins := [(110, 1, .aload_n 0, (.null, 0, 0, [], [])), (111, 3, .getfield 46, (.null, 2, 11, [], [251])), (114, 1, .iload_n 1, (.null, 1, 0, [], [])), (115, 1, .dup2, (.null, 0, 0, [], [])), (116, 1, .iaload, (.null, 0, 0, [], [])), (117, 1, .iconst 1, (.int 1, 0, 0, [], [])), (118, 1, .iadd, (.null, 0, 0, [], [])), (119, 1, .iastore, (.null, 0, 0, [], [])), (120, 1, .return_, (.null, 0, 0, [], []))]
def m12 : MI := (yX2_letFall, cX2_letFall, 5, none, [k12_0, k12_1, k12_2, k12_3])
def k13_0 : List Ins := [(0, 1, .aload_n 0, (.null, 0, 0, [], [])), (1, 3, .getfield 52, (.null, 2, 13, [], [255])), (4, 1, .aload_n 0, (.null, 0, 0, [], [])), (5, 3, .getfield 40, (.null, 2, 9, [], [246])), (8, 1, .iload_n 1, (.null, 1, 0, [], [])), (9, 1, .iaload, (.null, 0, 0, [], [])), (10, 1, .iaload, (.null, 0, 0, [], [])), (11, 1, .iconst 1, (.int 1, 0, 0, [], [])), (12, 1, .iload_n 1, (.null, 1, 0, [], [])), (13, 1, .ishl, (.null, 0, 0, [], [])), (14, 1, .iconst (-1), (.int (-1), 0, 0, [], [])), (15, 1, .ixor, (.null, 0, 0, [], [])), (16, 1, .iand, (.null, 0, 0, [], [])), (17, 3, .ifCond .eq 7, (.null, 1, 3, [], [])), (20, 1, .iconst 1, (.int 1, 0, 0, [], [])), (21, 3, .goto 4, (.int 0, 2, 3, [], []))]
def k13_1 : List Ins := [(24, 1, .iconst 0, (.int 0, 0, 0, [], [])), (25, 0, .nop, (.null, 2, 3, [], []))]
def k13_2 : List Ins := [(25, 1, .istore_n 2, (.null, 2, 0, [], [])), (26, 1, .aload_n 0, (.null, 0, 0, [], [])), (27, 3, .getfield 27, (.null, 2, 5, [], [235])), (30, 1, .iload_n 1, (.null, 1, 0, [], [])), (31, 1, .iaload, (.null, 0, 0, [], [])), (32, 28, .tableswitch 53 3 5 #[28, 38, 40], (.null, 7, 0, [(3, 3, 4), (4, 5, 0), (5, 6, 3)], []))]
def k13_3 : List Ins := [(60, 1, .iload_n 2, (.null, 2, 0, [], [])), (61, 3, .ifCond .eq 7, (.null, 4, 0, [], [])), (64, 1, .iconst 1, (.int 1, 0, 0, [], [])), (65, 3, .goto 4, (.null, 0, 0, [], [])), (69, 1, .ireturn, (.null, 0, 0, [], []))]
def k13_4 : List Ins := [(68, 1, .iconst 2, (.int 2, 0, 0, [], [])), (69, 1, .ireturn, (.null, 0, 0, [], []))]
def k13_5 : List Ins := [(70, 1, .iconst 1, (.int 1, 0, 0, [], [])), (71, 1, .ireturn, (.null, 0, 0, [], []))]
def k13_6 : List Ins := [(72, 1, .iconst 4, (.int 4, 0, 0, [], [])), (73, 1, .iconst 1, (.int 1, 0, 0, [], [])), (74, 1, .aload_n 0, (.null, 0, 0, [], [])), (75, 3, .getfield 46, (.null, 2, 11, [], [251])), (78, 1, .iload_n 1, (.null, 1, 0, [], [])), (79, 1, .iaload, (.null, 0, 0, [], [])), (80, 1, .iadd, (.null, 0, 0, [], [])), (81, 3, .invokestatic 90, (.null, 1, 0, [], [531, 517, 90, 518])), (84, 1, .ireturn, (.null, 0, 0, [], []))]
def k13_7 : List Ins := [(85, 1, .iconst 2, (.int 2, 0, 0, [], [])), (86, 1, .ireturn, (.null, 0, 0, [], []))]
def m13 : MI := (yX2_floorsToFall, cX2_floorsToFall, 3, (some .int), [k13_0, k13_1, k13_2, k13_3, k13_4, k13_5, k13_6, k13_7])
def k14_0 : List Ins := [(0, 1, .iload_n 2, (.null, 2, 0, [], [])), (1, 2, .bipush 21, (.int 21, 0, 0, [], [])), (3, 3, .if_icmp .eq 33, (.null, 1, 0, [], [])), (6, 1, .aload_n 0, (.null, 0, 0, [], [])), (7, 3, .getfield 27, (.null, 2, 5, [], [235])), (10, 1, .iload_n 1, (.null, 1, 0, [], [])), (11, 1, .iaload, (.null, 0, 0, [], [])), (12, 1, .iconst 2, (.int 2, 0, 0, [], [])), (13, 3, .if_icmp .eq 23, (.null, 1, 0, [], [])), (16, 1, .aload_n 0, (.null, 0, 0, [], [])), (17, 3, .getfield 55, (.null, 2, 14, [], [258])), (20, 1, .iload_n 2, (.null, 2, 0, [], [])), (21, 1, .iaload, (.null, 0, 0, [], [])), (22, 1, .aload_n 0, (.null, 0, 0, [], [])), (23, 3, .getfield 34, (.null, 2, 7, [], [241])), (26, 1, .iload_n 1, (.null, 1, 0, [], [])), (27, 1, .iaload, (.null, 0, 0, [], [])), (28, 1, .iadd, (.null, 0, 0, [], [])), (29, 1, .aload_n 0, (.null, 0, 0, [], [])), (30, 3, .getfield 15, (.int 0, 2, 1, [], [223])), (33, 3, .if_icmp .gt 7, (.null, 2, 0, [], [])), (36, 0, .nop, (.null, 1, 0, [], []))]
def k14_1 : List Ins := [(36, 1, .iconst 1, (.int 1, 0, 0, [], [])), (37, 3, .goto 4, (.null, 0, 0, [], [])), (41, 1, .ireturn, (.null, 1, 0, [], []))]
def k14_2 : List Ins := [(40, 1, .iconst 0, (.int 0, 0, 0, [], [])), (41, 1, .ireturn, (.null, 1, 0, [], []))]
def m14 : MI := (yX2_hasRoom, cX2_hasRoom, 3, (some .boolean), [k14_0, k14_1, k14_2])
def k15_0 : List Ins := [(0, 1, .aload_n 0, (.null, 0, 0, [], [])), (1, 3, .getfield 52, (.null, 2, 13, [], [255])), (4, 1, .aload_n 0, (.null, 0, 0, [], [])), (5, 3, .getfield 40, (.null, 2, 9, [], [246])), (8, 1, .iload_n 1, (.null, 1, 0, [], [])), (9, 1, .iaload, (.null, 0, 0, [], [])), (10, 1, .dup2, (.null, 0, 0, [], [])), (11, 1, .iaload, (.null, 0, 0, [], [])), (12, 1, .iconst 1, (.int 1, 0, 0, [], [])), (13, 1, .iload_n 1, (.null, 1, 0, [], [])), (14, 1, .ishl, (.null, 0, 0, [], [])), (15, 1, .iconst (-1), (.int (-1), 0, 0, [], [])), (16, 1, .ixor, (.null, 0, 0, [], [])), (17, 1, .iand, (.null, 0, 0, [], [])), (18, 1, .iastore, (.null, 0, 0, [], [])), (19, 1, .aload_n 0, (.null, 0, 0, [], [])), (20, 3, .getfield 55, (.null, 2, 14, [], [258])), (23, 1, .aload_n 0, (.null, 0, 0, [], [])), (24, 3, .getfield 40, (.null, 2, 9, [], [246])), (27, 1, .iload_n 1, (.null, 1, 0, [], [])), (28, 1, .iaload, (.null, 0, 0, [], [])), (29, 1, .dup2, (.null, 0, 0, [], [])), (30, 1, .iaload, (.null, 0, 0, [], [])), (31, 1, .aload_n 0, (.null, 0, 0, [], [])), (32, 3, .getfield 34, (.null, 2, 7, [], [241])), (35, 1, .iload_n 1, (.null, 1, 0, [], [])), (36, 1, .iaload, (.null, 0, 0, [], [])), (37, 1, .isub, (.null, 0, 0, [], [])), (38, 1, .iastore, (.null, 0, 0, [], [])), (39, 1, .aload_n 0, (.null, 0, 0, [], [])), (40, 3, .getfield 40, (.null, 2, 9, [], [246])), (43, 1, .iload_n 1, (.null, 1, 0, [], [])), (44, 1, .iload_n 2, (.null, 2, 0, [], [])), (45, 1, .iastore, (.null, 0, 0, [], [])), (46, 1, .aload_n 0, (.null, 0, 0, [], [])), (47, 3, .getfield 52, (.null, 2, 13, [], [255])), (50, 1, .iload_n 2, (.null, 2, 0, [], [])), (51, 1, .dup2, (.null, 0, 0, [], [])), (52, 1, .iaload, (.null, 0, 0, [], [])), (53, 1, .iconst 1, (.int 1, 0, 0, [], [])), (54, 1, .iload_n 1, (.null, 1, 0, [], [])), (55, 1, .ishl, (.null, 0, 0, [], [])), (56, 1, .ior, (.null, 0, 0, [], [])), (57, 1, .iastore, (.null, 0, 0, [], [])), (58, 1, .aload_n 0, (.null, 0, 0, [], [])), (59, 3, .getfield 55, (.null, 2, 14, [], [258])), (62, 1, .iload_n 2, (.null, 2, 0, [], [])), (63, 1, .dup2, (.null, 0, 0, [], [])), (64, 1, .iaload, (.null, 0, 0, [], [])), (65, 1, .aload_n 0, (.null, 0, 0, [], [])), (66, 3, .getfield 34, (.null, 2, 7, [], [241])), (69, 1, .iload_n 1, (.null, 1, 0, [], [])), (70, 1, .iaload, (.null, 0, 0, [], [])), (71, 1, .iadd, (.null, 0, 0, [], [])), (72, 1, .iastore, (.null, 0, 0, [], [])), (73, 1, .return_, (.null, 0, 0, [], []))]
def m15 : MI := (yX2_moveTo, cX2_moveTo, 3, none, [k15_0])
def k16_0 : List Ins := [(0, 1, .aload_n 0, (.null, 0, 0, [], [])), (1, 1, .iload_n 1, (.null, 1, 0, [], [])), (2, 2, .bipush 20, (.int 20, 0, 0, [], [])), (4, 3, .invokevirtual 72, (.null, 2, 0, [(2, 15, 3)], [539, 540, 541])), (7, 1, .aload_n 0, (.null, 0, 0, [], [])), (8, 3, .getfield 31, (.null, 2, 6, [], [238])), (11, 1, .iload_n 1, (.null, 1, 0, [], [])), (12, 1, .iload_n 2, (.null, 2, 0, [], [])), (13, 1, .iastore, (.null, 0, 0, [], [])), (14, 1, .aload_n 0, (.null, 0, 0, [], [])), (15, 3, .getfield 37, (.null, 2, 8, [], [243])), (18, 1, .iload_n 1, (.null, 1, 0, [], [])), (19, 1, .aload_n 0, (.null, 0, 0, [], [])), (20, 3, .getfield 18, (.int 0, 2, 2, [], [226])), (23, 1, .iastore, (.null, 0, 0, [], [])), (24, 1, .aload_n 0, (.null, 0, 0, [], [])), (25, 3, .getfield 43, (.null, 2, 10, [], [249])), (28, 1, .iload_n 1, (.null, 1, 0, [], [])), (29, 1, .iconst 0, (.int 0, 0, 0, [], [])), (30, 1, .iastore, (.null, 0, 0, [], [])), (31, 1, .aload_n 0, (.null, 0, 0, [], [])), (32, 3, .getfield 46, (.null, 2, 11, [], [251])), (35, 1, .iload_n 1, (.null, 1, 0, [], [])), (36, 1, .iconst 0, (.int 0, 0, 0, [], [])), (37, 1, .iastore, (.null, 0, 0, [], [])), (38, 1, .return_, (.null, 0, 0, [], []))]
def m16 : MI := (yX2_postAnew, cX2_postAnew, 3, none, [k16_0])
def k17_0 : List Ins := [(0, 1, .aload_n 0, (.null, 0, 0, [], [])), (1, 3, .getfield 55, (.null, 2, 14, [], [258])), (4, 1, .aload_n 0, (.null, 0, 0, [], [])), (5, 3, .getfield 40, (.null, 2, 9, [], [246])), (8, 1, .iload_n 1, (.null, 1, 0, [], [])), (9, 1, .iaload, (.null, 0, 0, [], [])), (10, 1, .dup2, (.null, 0, 0, [], [])), (11, 1, .iaload, (.null, 0, 0, [], [])), (12, 1, .iload_n 2, (.null, 2, 0, [], [])), (13, 1, .aload_n 0, (.null, 0, 0, [], [])), (14, 3, .getfield 34, (.null, 2, 7, [], [241])), (17, 1, .iload_n 1, (.null, 1, 0, [], [])), (18, 1, .iaload, (.null, 0, 0, [], [])), (19, 1, .isub, (.null, 0, 0, [], [])), (20, 1, .iadd, (.null, 0, 0, [], [])), (21, 1, .iastore, (.null, 0, 0, [], [])), (22, 1, .aload_n 0, (.null, 0, 0, [], [])), (23, 3, .getfield 34, (.null, 2, 7, [], [241])), (26, 1, .iload_n 1, (.null, 1, 0, [], [])), (27, 1, .iload_n 2, (.null, 2, 0, [], [])), (28, 1, .iastore, (.null, 0, 0, [], [])), (29, 1, .return_, (.null, 0, 0, [], []))]
def m17 : MI := (yX2_makeThick, cX2_makeThick, 3, none, [k17_0])
def k18_0 : List Ins := [(0, 1, .iload_n 0, (.null, 0, 0, [], [])), (1, 3, .ifCond .ne 8, (.null, 1, 1, [], [])), (4, 2, .bipush 21, (.int 21, 0, 0, [], [])), (6, 3, .goto 6, (.null, 0, 0, [], [])), (12, 1, .ireturn, (.null, 0, 0, [], []))]
def k18_1 : List Ins := [(9, 1, .iload_n 0, (.null, 0, 0, [], [])), (10, 1, .iconst 1, (.int 1, 0, 0, [], [])), (11, 1, .isub, (.null, 0, 0, [], [])), (12, 1, .ireturn, (.null, 0, 0, [], []))]
def m18 : MI := (yX2_below, cX2_below, 1, (some .int), [k18_0, k18_1])
def k19_0 : List Ins := [(0, 1, .aload_n 0, (.null, 0, 0, [], [])), (1, 3, .getfield 40, (.null, 2, 9, [], [246])), (4, 1, .iload_n 1, (.null, 1, 0, [], [])), (5, 1, .iaload, (.null, 0, 0, [], [])), (6, 2, .bipush 20, (.int 20, 0, 0, [], [])), (8, 3, .if_icmp .eq 18, (.null, 1, 0, [], [])), (11, 1, .aload_n 0, (.null, 0, 0, [], [])), (12, 3, .getfield 40, (.null, 2, 9, [], [246])), (15, 1, .iload_n 1, (.null, 1, 0, [], [])), (16, 1, .iaload, (.null, 0, 0, [], [])), (17, 2, .bipush 21, (.int 21, 0, 0, [], [])), (19, 3, .if_icmp .eq 7, (.null, 1, 0, [], [])), (22, 1, .iconst 1, (.int 1, 0, 0, [], [])), (23, 3, .goto 4, (.null, 0, 0, [], [])), (27, 1, .ireturn, (.null, 1, 0, [], []))]
def k19_1 : List Ins := [(26, 1, .iconst 0, (.int 0, 0, 0, [], [])), (27, 1, .ireturn, (.null, 1, 0, [], []))]
def m19 : MI := (yX2_isInShaft, cX2_isInShaft, 2, (some .boolean), [k19_0, k19_1])
def k20_0 : List Ins := [(0, 1, .iconst 1, (.int 1, 0, 0, [], [])), (1, 1, .aload_n 0, (.null, 0, 0, [], [])), (2, 3, .getfield 21, (.int 0, 2, 3, [], [229])), (5, 1, .ishl, (.null, 0, 0, [], [])), (6, 1, .iconst 1, (.int 1, 0, 0, [], [])), (7, 1, .isub, (.null, 0, 0, [], [])), (8, 1, .ireturn, (.null, 0, 0, [], []))]
def m20 : MI := (yX2_allLetters, cX2_allLetters, 1, (some .int), [k20_0])
def k21_0 : List Ins := [(0, 1, .aload_n 0, (.null, 0, 0, [], [])), (1, 3, .invokevirtual 96, (.null, 0, 1, [(2, 20, 1)], [594, 595, 596])), (4, 1, .aload_n 0, (.null, 0, 0, [], [])), (5, 3, .getfield 52, (.null, 2, 13, [], [255])), (8, 2, .bipush 21, (.int 21, 0, 0, [], [])), (10, 1, .iaload, (.null, 0, 0, [], [])), (11, 1, .iconst (-1), (.int (-1), 0, 0, [], [])), (12, 1, .ixor, (.null, 0, 0, [], [])), (13, 1, .iand, (.null, 0, 0, [], [])), (14, 1, .ireturn, (.null, 0, 0, [], []))]
def m21 : MI := (yX2_lettersOutside, cX2_lettersOutside, 1, (some .int), [k21_0])
def k22_0 : List Ins := [(0, 1, .aload_n 0, (.null, 0, 0, [], [])), (1, 3, .invokevirtual 76, (.null, 0, 1, [(2, 21, 1)], [590, 591, 592])), (4, 1, .aload_n 0, (.null, 0, 0, [], [])), (5, 3, .getfield 52, (.null, 2, 13, [], [255])), (8, 2, .bipush 20, (.int 20, 0, 0, [], [])), (10, 1, .iaload, (.null, 0, 0, [], [])), (11, 1, .iconst (-1), (.int (-1), 0, 0, [], [])), (12, 1, .ixor, (.null, 0, 0, [], [])), (13, 1, .iand, (.null, 0, 0, [], [])), (14, 1, .ireturn, (.null, 0, 0, [], []))]
def m22 : MI := (yX2_lettersInShaft, cX2_lettersInShaft, 1, (some .int), [k22_0])
def k23_0 : List Ins := [(0, 1, .aload_n 0, (.null, 0, 0, [], [])), (1, 3, .getfield 52, (.null, 2, 13, [], [255])), (4, 2, .bipush 21, (.int 21, 0, 0, [], [])), (6, 1, .iaload, (.null, 0, 0, [], [])), (7, 3, .invokestatic 99, (.null, 1, 1, [(0, 228, 1)], [726, 664])), (10, 1, .ireturn, (.null, 0, 0, [], []))]
def m23 : MI := (yX2_lettersBoxed, cX2_lettersBoxed, 1, (some .int), [k23_0])
def k24_0 : List Ins := [(0, 1, .iconst 0, (.int 0, 0, 0, [], [])), (1, 1, .istore_n 1, (.null, 1, 0, [], [])), (2, 1, .iconst 0, (.int 0, 0, 0, [], [])), (3, 1, .istore_n 2, (.null, 2, 0, [], [])), (4, 0, .nop, (.null, 1, 7, [], []))]
def k24_1 : List Ins := [(4, 1, .iload_n 2, (.null, 2, 0, [], [])), (5, 1, .aload_n 0, (.null, 0, 0, [], [])), (6, 3, .getfield 21, (.int 0, 2, 3, [], [229])), (9, 3, .if_icmp .ge 18, (.null, 2, 2, [], [])), (12, 1, .iload_n 1, (.null, 1, 0, [], [])), (13, 1, .aload_n 0, (.null, 0, 0, [], [])), (14, 3, .getfield 43, (.null, 2, 10, [], [249])), (17, 1, .iload_n 2, (.null, 2, 0, [], [])), (18, 1, .iaload, (.null, 0, 0, [], [])), (19, 1, .iadd, (.null, 0, 0, [], [])), (20, 1, .istore_n 1, (.null, 1, 0, [], [])), (21, 3, .iinc 2 1, (.int 1, 2, 0, [], [])), (24, 3, .goto (-20), (.int 0, 1, 7, [], []))]
def k24_2 : List Ins := [(27, 1, .iload_n 1, (.null, 1, 0, [], [])), (28, 1, .ireturn, (.null, 0, 0, [], []))]
def m24 : MI := (yX2_stuckTogether, cX2_stuckTogether, 3, (some .int), [k24_0, k24_1, k24_2])
def k25_0 : List Ins := [(0, 1, .iconst 0, (.int 0, 0, 0, [], [])), (1, 1, .istore_n 2, (.null, 2, 0, [], [])), (2, 1, .iconst 0, (.int 0, 0, 0, [], [])), (3, 1, .istore_n 3, (.null, 3, 0, [], [])), (4, 0, .nop, (.null, 1, 15, [], []))]
def k25_1 : List Ins := [(4, 1, .iload_n 3, (.null, 3, 0, [], [])), (5, 1, .aload_n 0, (.null, 0, 0, [], [])), (6, 3, .getfield 21, (.int 0, 2, 3, [], [229])), (9, 3, .if_icmp .ge 26, (.null, 3, 4, [], [])), (12, 1, .iload_n 1, (.null, 1, 0, [], [])), (13, 1, .iload_n 3, (.null, 3, 0, [], [])), (14, 1, .ishr, (.null, 0, 0, [], [])), (15, 1, .iconst 1, (.int 1, 0, 0, [], [])), (16, 1, .iand, (.null, 0, 0, [], [])), (17, 3, .ifCond .eq 12, (.null, 2, 15, [], [])), (20, 1, .iload_n 2, (.null, 2, 0, [], [])), (21, 1, .aload_n 0, (.null, 0, 0, [], [])), (22, 3, .getfield 34, (.null, 2, 7, [], [241])), (25, 1, .iload_n 3, (.null, 3, 0, [], [])), (26, 1, .iaload, (.null, 0, 0, [], [])), (27, 1, .iadd, (.null, 0, 0, [], [])), (28, 1, .istore_n 2, (.null, 2, 0, [], [])), (29, 0, .nop, (.null, 2, 15, [], []))]
def k25_2 : List Ins := [(29, 3, .iinc 3 1, (.int 1, 3, 0, [], [])), (32, 3, .goto (-28), (.int 0, 1, 15, [], []))]
def k25_3 : List Ins := [(35, 1, .iload_n 2, (.null, 2, 0, [], [])), (36, 1, .ireturn, (.null, 0, 0, [], []))]
def m25 : MI := (yX2_thickTogether, cX2_thickTogether, 4, (some .int), [k25_0, k25_1, k25_2, k25_3])
def k26_0 : List Ins := [(0, 1, .aload_n 0, (.null, 0, 0, [], [])), (1, 3, .invokespecial 1, (.null, 0, 0, [], [183, 98, 99])), (4, 1, .return_, (.null, 0, 0, [], []))]
def m26 : MI := (yX3_init, cX3_init, 1, none, [k26_0])
def k27_0 : List Ins := [(0, 1, .aload_n 1, (.null, 1, 0, [], [])), (1, 2, .bipush 10, (.int 10, 0, 0, [], [])), (3, 3, .invokevirtual 7, (.null, 1, 0, [(0, 2, 2)], [867, 845, 846])), (6, 1, .aload_n 1, (.null, 1, 0, [], [])), (7, 3, .getfield 13, (.int 0, 0, 3, [], [159])), (10, 1, .ireturn, (.null, 0, 0, [], []))]
def m27 : MI := (yX3_sizeFor, cX3_sizeFor, 2, (some .int), [k27_0])
def k28_0 : List Ins := [(0, 1, .aload_n 1, (.null, 1, 0, [], [])), (1, 2, .bipush 20, (.int 20, 0, 0, [], [])), (3, 3, .invokevirtual 7, (.null, 1, 0, [(0, 2, 2)], [867, 845, 846])), (6, 1, .aload_n 1, (.null, 1, 0, [], [])), (7, 3, .getfield 17, (.int 0, 0, 2, [], [157])), (10, 1, .ireturn, (.null, 0, 0, [], []))]
def m28 : MI := (yX3_markFor, cX3_markFor, 2, (some .int), [k28_0])
def k29_0 : List Ins := [(0, 1, .aload_n 0, (.null, 0, 0, [], [])), (1, 3, .invokespecial 1, (.null, 0, 0, [(1, 3, 1)], [9, 178])), (4, 1, .return_, (.null, 0, 0, [], []))]
def m29 : MI := (yX4_init, cX4_init, 1, none, [k29_0])
def k30_0 : List Ins := [(0, 1, .aload_n 1, (.null, 1, 0, [], [])), (1, 2, .bipush 22, (.int 22, 0, 0, [], [])), (3, 3, .invokevirtual 7, (.null, 1, 0, [(0, 2, 2)], [856, 845, 846])), (6, 1, .aload_n 0, (.null, 0, 0, [], [])), (7, 1, .aload_n 1, (.null, 1, 0, [], [])), (8, 3, .invokespecial 13, (.null, 1, 1, [(2, 5, 2)], [857, 850, 852, 198])), (11, 3, .sipush 1000, (.int 1000, 0, 0, [], [])), (14, 1, .isub, (.null, 0, 0, [], [])), (15, 1, .ireturn, (.null, 0, 0, [], []))]
def m30 : MI := (yX4_markFor, cX4_markFor, 2, (some .int), [k30_0])
def k31_0 : List Ins := [(0, 1, .aload_n 0, (.null, 0, 0, [], [])), (1, 3, .invokespecial 3, (.null, 0, 0, [], [296, 98, 99])), (4, 1, .aload_n 0, (.null, 0, 0, [], [])), (5, 3, .new 9, (.null, 2, 0, [(0, 0, 0), (0, 0, 0), (0, 0, 0), (0, 0, 0), (0, 0, 0), (1, 0, 0), (1, 0, 0), (1, 0, 0), (1, 0, 0), (1, 0, 0), (1, 0, 0), (1, 0, 0), (1, 0, 0), (1, 0, 0), (1, 0, 0)], [297, 214, 86])), (8, 1, .dup, (.null, 0, 0, [], [])), (9, 3, .invokespecial 11, (.null, 0, 0, [(1, 6, 1)], [16, 216])), (12, 3, .putfield 12, (.null, 4, 0, [], [299])), (15, 1, .aload_n 0, (.null, 0, 0, [], [])), (16, 3, .new 9, (.null, 2, 0, [(0, 0, 0), (0, 0, 0), (0, 0, 0), (0, 0, 0), (0, 0, 0), (1, 0, 0), (1, 0, 0), (1, 0, 0), (1, 0, 0), (1, 0, 0), (1, 0, 0), (1, 0, 0), (1, 0, 0), (1, 0, 0), (1, 0, 0)], [297, 214, 86])), (19, 1, .dup, (.null, 0, 0, [], [])), (20, 3, .invokespecial 11, (.null, 0, 0, [(1, 6, 1)], [16, 216])), (23, 3, .putfield 18, (.null, 4, 1, [], [300])), (26, 1, .aload_n 0, (.null, 0, 0, [], [])), (27, 2, .bipush 6, (.int 6, 0, 0, [], [])), (29, 2, .newarray .int, (.null, 0, 0, [], [120])), (31, 3, .putfield 21, (.null, 4, 2, [], [301])), (34, 1, .aload_n 0, (.null, 0, 0, [], [])), (35, 2, .bipush 6, (.int 6, 0, 0, [], [])), (37, 2, .newarray .int, (.null, 0, 0, [], [120])), (39, 3, .putfield 25, (.null, 4, 3, [], [302])), (42, 1, .aload_n 0, (.null, 0, 0, [], [])), (43, 1, .iconst 0, (.int 0, 0, 0, [], [])), (44, 3, .putfield 28, (.int 0, 4, 4, [], [304])), (47, 1, .aload_n 0, (.null, 0, 0, [], [])), (48, 1, .iconst 0, (.int 0, 0, 0, [], [])), (49, 3, .putfield 32, (.int 0, 4, 5, [], [306])), (52, 1, .aload_n 0, (.null, 0, 0, [], [])), (53, 2, .bipush 12, (.int 12, 0, 0, [], [])), (55, 2, .newarray .int, (.null, 0, 0, [], [120])), (57, 3, .putfield 35, (.null, 4, 6, [], [307])), (60, 1, .aload_n 0, (.null, 0, 0, [], [])), (61, 1, .iconst 0, (.int 0, 0, 0, [], [])), (62, 3, .putfield 38, (.int 0, 4, 7, [], [308])), (65, 1, .return_, (.null, 0, 0, [], []))]
def m31 : MI := (yX5_init, cX5_init, 1, none, [k31_0])
def k32_0 : List Ins := [(0, 1, .aload_n 0, (.null, 0, 0, [], [])), (1, 1, .iconst 0, (.int 0, 0, 0, [], [])), (2, 3, .putfield 32, (.int 0, 4, 5, [], [306])), (5, 1, .return_, (.null, 0, 0, [], []))]
def m32 : MI := (yX5_forget, cX5_forget, 1, none, [k32_0])
def k33_0 : List Ins := [(0, 1, .aload_n 0, (.null, 0, 0, [], [])), (1, 3, .getfield 12, (.null, 4, 0, [], [299])), (4, 1, .aload_n 1, (.null, 1, 0, [], [])), (5, 3, .invokevirtual 41, (.null, 1, 0, [(2, 9, 2)], [606, 487, 488])), (8, 1, .aload_n 0, (.null, 0, 0, [], [])), (9, 3, .getfield 12, (.null, 4, 0, [], [299])), (12, 1, .iload_n 2, (.null, 2, 0, [], [])), (13, 3, .invokevirtual 45, (.null, 1, 0, [(2, 11, 3)], [607, 608, 609])), (16, 1, .aload_n 0, (.null, 0, 0, [], [])), (17, 3, .getfield 12, (.null, 4, 0, [], [299])), (20, 1, .areturn, (.null, 0, 0, [], []))]
def m33 : MI := (yX5_behind, cX5_behind, 3, (some (.object "LetterChute$House")), [k33_0])
def k34_0 : List Ins := [(0, 1, .aload_n 0, (.null, 0, 0, [], [])), (1, 3, .getfield 12, (.null, 4, 0, [], [299])), (4, 1, .aload_n 1, (.null, 1, 0, [], [])), (5, 3, .invokevirtual 41, (.null, 1, 0, [(2, 9, 2)], [606, 487, 488])), (8, 1, .iconst 0, (.int 0, 0, 0, [], [])), (9, 1, .istore_n 3, (.null, 3, 0, [], [])), (10, 0, .nop, (.null, 1, 13, [], []))]
def k34_1 : List Ins := [(10, 1, .iload_n 3, (.null, 3, 0, [], [])), (11, 2, .bipush 60, (.int 60, 0, 0, [], [])), (13, 3, .if_icmp .gt 32, (.null, 3, 0, [], [])), (16, 1, .aload_n 0, (.null, 0, 0, [], [])), (17, 3, .getfield 12, (.null, 4, 0, [], [299])), (20, 3, .getfield 49, (.null, 2, 9, [], [247])), (23, 1, .iload_n 2, (.null, 2, 0, [], [])), (24, 1, .iaload, (.null, 0, 0, [], [])), (25, 2, .bipush 20, (.int 20, 0, 0, [], [])), (27, 3, .if_icmp .eq 5, (.null, 2, 13, [], [])), (30, 1, .iload_n 3, (.null, 3, 0, [], [])), (31, 1, .ireturn, (.null, 0, 0, [], []))]
def k34_2 : List Ins := [(32, 1, .aload_n 0, (.null, 0, 0, [], [])), (33, 3, .getfield 12, (.null, 4, 0, [], [299])), (36, 3, .invokevirtual 52, (.null, 0, 0, [(2, 10, 4)], [632, 520, 521])), (39, 3, .iinc 3 1, (.int 1, 3, 0, [], [])), (42, 3, .goto (-32), (.int 0, 1, 13, [], []))]
def k34_3 : List Ins := [(45, 2, .ldc 55, (.int (-1000000), 0, 0, [], [633])), (47, 1, .ireturn, (.null, 0, 0, [], []))]
def m34 : MI := (yX5_ticksUntilPosted, cX5_ticksUntilPosted, 4, (some .int), [k34_0, k34_1, k34_2, k34_3])
def k35_0 : List Ins := [(0, 1, .aload_n 0, (.null, 0, 0, [], [])), (1, 3, .getfield 12, (.null, 4, 0, [], [299])), (4, 1, .aload_n 1, (.null, 1, 0, [], [])), (5, 3, .invokevirtual 41, (.null, 1, 0, [(2, 9, 2)], [606, 487, 488])), (8, 1, .iconst 0, (.int 0, 0, 0, [], [])), (9, 1, .istore_n 3, (.null, 3, 0, [], [])), (10, 0, .nop, (.null, 1, 13, [], []))]
def k35_1 : List Ins := [(10, 1, .iload_n 3, (.null, 3, 0, [], [])), (11, 2, .bipush 60, (.int 60, 0, 0, [], [])), (13, 3, .if_icmp .gt 35, (.null, 3, 0, [], [])), (16, 1, .iload_n 2, (.null, 2, 0, [], [])), (17, 1, .aload_n 0, (.null, 0, 0, [], [])), (18, 3, .getfield 12, (.null, 4, 0, [], [299])), (21, 3, .getfield 56, (.null, 2, 13, [], [256])), (24, 2, .bipush 21, (.int 21, 0, 0, [], [])), (26, 1, .iaload, (.null, 0, 0, [], [])), (27, 1, .iconst (-1), (.int (-1), 0, 0, [], [])), (28, 1, .ixor, (.null, 0, 0, [], [])), (29, 1, .iand, (.null, 0, 0, [], [])), (30, 3, .ifCond .ne 5, (.null, 2, 13, [], [])), (33, 1, .iload_n 3, (.null, 3, 0, [], [])), (34, 1, .ireturn, (.null, 0, 0, [], []))]
def k35_2 : List Ins := [(35, 1, .aload_n 0, (.null, 0, 0, [], [])), (36, 3, .getfield 12, (.null, 4, 0, [], [299])), (39, 3, .invokevirtual 52, (.null, 0, 0, [(2, 10, 4)], [632, 520, 521])), (42, 3, .iinc 3 1, (.int 1, 3, 0, [], [])), (45, 3, .goto (-35), (.int 0, 1, 13, [], []))]
def k35_3 : List Ins := [(48, 2, .ldc 55, (.int (-1000000), 0, 0, [], [633])), (50, 1, .ireturn, (.null, 0, 0, [], []))]
def m35 : MI := (yX5_ticksUntilBoxed, cX5_ticksUntilBoxed, 4, (some .int), [k35_0, k35_1, k35_2, k35_3])
def k36_0 : List Ins := [(0, 1, .aload_n 0, (.null, 0, 0, [], [])), (1, 3, .getfield 32, (.int 0, 4, 5, [], [306])), (4, 1, .iload_n 2, (.null, 2, 0, [], [])), (5, 3, .if_icmp .ne 4, (.null, 1, 7, [], [])), (8, 1, .return_, (.null, 0, 0, [], []))]
def k36_1 : List Ins := [(9, 1, .aload_n 0, (.null, 0, 0, [], [])), (10, 2, .ldc 61, (.int 2147483647, 0, 0, [], [652])), (12, 3, .putfield 28, (.int 0, 4, 4, [], [304])), (15, 1, .aload_n 0, (.null, 0, 0, [], [])), (16, 1, .aload_n 1, (.null, 1, 0, [], [])), (17, 1, .iload_n 2, (.null, 2, 0, [], [])), (18, 1, .iconst 0, (.int 0, 0, 0, [], [])), (19, 1, .iconst 0, (.int 0, 0, 0, [], [])), (20, 3, .invokevirtual 62, (.null, 4, 0, [(4, 37, 6)], [653, 655, 15])), (23, 1, .aload_n 0, (.null, 0, 0, [], [])), (24, 1, .iload_n 2, (.null, 2, 0, [], [])), (25, 3, .putfield 32, (.int 0, 4, 5, [], [306])), (28, 1, .return_, (.null, 0, 0, [], []))]
def m36 : MI := (yX5_findOrder, cX5_findOrder, 3, none, [k36_0, k36_1])
def k37_0 : List Ins := [(0, 1, .iload_n 3, (.null, 3, 0, [], [])), (1, 1, .aload_n 1, (.null, 1, 0, [], [])), (2, 3, .getfield 66, (.int 0, 2, 3, [], [231])), (5, 3, .if_icmp .lt 10, (.null, 1, 31, [], [])), (8, 1, .aload_n 0, (.null, 0, 0, [], [])), (9, 1, .aload_n 1, (.null, 1, 0, [], [])), (10, 1, .iload_n 2, (.null, 2, 0, [], [])), (11, 3, .invokevirtual 69, (.null, 2, 0, [(4, 39, 6)], [657, 659, 16])), (14, 1, .return_, (.null, 0, 0, [], []))]
def k37_1 : List Ins := [(15, 1, .iconst 0, (.int 0, 0, 0, [], [])), (16, 2, .istore 5, (.null, 5, 0, [], [])), (18, 0, .nop, (.null, 2, 63, [], []))]
def k37_2 : List Ins := [(18, 2, .iload 5, (.null, 5, 0, [], [])), (20, 1, .aload_n 1, (.null, 1, 0, [], [])), (21, 3, .getfield 66, (.int 0, 2, 3, [], [231])), (24, 3, .if_icmp .ge 54, (.null, 4, 0, [], [])), (27, 2, .iload 4, (.null, 4, 0, [], [])), (29, 2, .iload 5, (.null, 5, 0, [], [])), (31, 1, .ishr, (.null, 0, 0, [], [])), (32, 1, .iconst 1, (.int 1, 0, 0, [], [])), (33, 1, .iand, (.null, 0, 0, [], [])), (34, 3, .ifCond .ne 38, (.null, 3, 63, [], [])), (37, 1, .aload_n 0, (.null, 0, 0, [], [])), (38, 1, .aload_n 1, (.null, 1, 0, [], [])), (39, 2, .iload 5, (.null, 5, 0, [], [])), (41, 1, .iload_n 3, (.null, 3, 0, [], [])), (42, 3, .invokevirtual 73, (.null, 3, 1, [(4, 38, 6)], [669, 671, 17])), (45, 3, .ifCond .ne 27, (.null, 3, 63, [], [])), (48, 1, .aload_n 0, (.null, 0, 0, [], [])), (49, 3, .getfield 21, (.null, 4, 2, [], [301])), (52, 1, .iload_n 3, (.null, 3, 0, [], [])), (53, 2, .iload 5, (.null, 5, 0, [], [])), (55, 1, .iastore, (.null, 0, 0, [], [])), (56, 1, .aload_n 0, (.null, 0, 0, [], [])), (57, 1, .aload_n 1, (.null, 1, 0, [], [])), (58, 1, .iload_n 2, (.null, 2, 0, [], [])), (59, 1, .iload_n 3, (.null, 3, 0, [], [])), (60, 1, .iconst 1, (.int 1, 0, 0, [], [])), (61, 1, .iadd, (.null, 0, 0, [], [])), (62, 2, .iload 4, (.null, 4, 0, [], [])), (64, 1, .iconst 1, (.int 1, 0, 0, [], [])), (65, 2, .iload 5, (.null, 5, 0, [], [])), (67, 1, .ishl, (.null, 0, 0, [], [])), (68, 1, .ior, (.null, 0, 0, [], [])), (69, 3, .invokevirtual 62, (.null, 4, 0, [(4, 37, 6)], [653, 655, 15])), (72, 0, .nop, (.null, 3, 63, [], []))]
def k37_3 : List Ins := [(72, 3, .iinc 5 1, (.int 1, 5, 0, [], [])), (75, 3, .goto (-57), (.int 0, 2, 63, [], []))]
def k37_4 : List Ins := [(78, 1, .return_, (.null, 0, 0, [], []))]
def m37 : MI := (yX5_extendOrder, cX5_extendOrder, 6, none, [k37_0, k37_1, k37_2, k37_3, k37_4])
def k38_0 : List Ins := [(0, 1, .iload_n 3, (.null, 3, 0, [], [])), (1, 1, .iconst 1, (.int 1, 0, 0, [], [])), (2, 1, .isub, (.null, 0, 0, [], [])), (3, 2, .istore 4, (.null, 4, 0, [], [])), (5, 0, .nop, (.null, 1, 23, [], []))]
def k38_1 : List Ins := [(5, 2, .iload 4, (.null, 4, 0, [], [])), (7, 3, .ifCond .lt 67, (.null, 4, 0, [], [])), (10, 1, .aload_n 0, (.null, 0, 0, [], [])), (11, 3, .getfield 21, (.null, 4, 2, [], [301])), (14, 2, .iload 4, (.null, 4, 0, [], [])), (16, 1, .iaload, (.null, 0, 0, [], [])), (17, 2, .istore 5, (.null, 5, 0, [], [])), (19, 1, .aload_n 1, (.null, 1, 0, [], [])), (20, 3, .getfield 49, (.null, 2, 9, [], [247])), (23, 1, .iload_n 2, (.null, 2, 0, [], [])), (24, 1, .iaload, (.null, 0, 0, [], [])), (25, 2, .bipush 20, (.int 20, 0, 0, [], [])), (27, 3, .if_icmp .ne 33, (.null, 2, 55, [], [])), (30, 1, .aload_n 1, (.null, 1, 0, [], [])), (31, 3, .getfield 49, (.null, 2, 9, [], [247])), (34, 2, .iload 5, (.null, 5, 0, [], [])), (36, 1, .iaload, (.null, 0, 0, [], [])), (37, 2, .bipush 20, (.int 20, 0, 0, [], [])), (39, 3, .if_icmp .ne 21, (.null, 2, 55, [], [])), (42, 1, .aload_n 1, (.null, 1, 0, [], [])), (43, 3, .getfield 77, (.null, 2, 6, [], [239])), (46, 1, .iload_n 2, (.null, 2, 0, [], [])), (47, 1, .iaload, (.null, 0, 0, [], [])), (48, 1, .aload_n 1, (.null, 1, 0, [], [])), (49, 3, .getfield 77, (.null, 2, 6, [], [239])), (52, 2, .iload 5, (.null, 5, 0, [], [])), (54, 1, .iaload, (.null, 0, 0, [], [])), (55, 3, .if_icmp .ne 5, (.null, 2, 55, [], [])), (58, 1, .iconst 0, (.int 0, 0, 0, [], [])), (59, 1, .ireturn, (.null, 1, 0, [], []))]
def k38_2 : List Ins := [(60, 2, .iload 5, (.null, 5, 0, [], [])), (62, 1, .iload_n 2, (.null, 2, 0, [], [])), (63, 3, .if_icmp .le 5, (.null, 3, 23, [], [])), (66, 1, .iconst 1, (.int 1, 0, 0, [], [])), (67, 1, .ireturn, (.null, 1, 0, [], []))]
def k38_3 : List Ins := [(68, 3, .iinc 4 (-1), (.int (-1), 4, 0, [], [])), (71, 3, .goto (-66), (.int 0, 1, 23, [], []))]
def k38_4 : List Ins := [(74, 1, .iconst 0, (.int 0, 0, 0, [], [])), (75, 1, .ireturn, (.null, 1, 0, [], []))]
def m38 : MI := (yX5_couldStandEarlier, cX5_couldStandEarlier, 6, (some .boolean), [k38_0, k38_1, k38_2, k38_3, k38_4])
def k39_0 : List Ins := [(0, 1, .aload_n 0, (.null, 0, 0, [], [])), (1, 3, .getfield 12, (.null, 4, 0, [], [299])), (4, 1, .aload_n 1, (.null, 1, 0, [], [])), (5, 3, .invokevirtual 41, (.null, 1, 0, [(2, 9, 2)], [606, 487, 488])), (8, 1, .aload_n 0, (.null, 0, 0, [], [])), (9, 3, .getfield 21, (.null, 4, 2, [], [301])), (12, 1, .iconst 0, (.int 0, 0, 0, [], [])), (13, 1, .aload_n 0, (.null, 0, 0, [], [])), (14, 3, .getfield 12, (.null, 4, 0, [], [299])), (17, 3, .getfield 80, (.null, 2, 12, [], [254])), (20, 1, .iconst 0, (.int 0, 0, 0, [], [])), (21, 2, .bipush 6, (.int 6, 0, 0, [], [])), (23, 3, .invokestatic 83, (.null, 4, 0, [], [661, 415, 89, 416])), (26, 1, .aload_n 0, (.null, 0, 0, [], [])), (27, 3, .getfield 12, (.null, 4, 0, [], [299])), (30, 3, .invokevirtual 89, (.null, 0, 1, [(2, 21, 1)], [662, 591, 592])), (33, 3, .invokestatic 93, (.null, 1, 1, [(0, 228, 1)], [663, 664])), (36, 1, .istore_n 3, (.null, 3, 0, [], [])), (37, 1, .iload_n 3, (.null, 3, 0, [], [])), (38, 2, .istore 4, (.null, 4, 0, [], [])), (40, 1, .iconst 0, (.int 0, 0, 0, [], [])), (41, 2, .istore 5, (.null, 5, 0, [], [])), (43, 0, .nop, (.null, 1, 61, [], []))]
def k39_1 : List Ins := [(43, 2, .iload 5, (.null, 5, 0, [], [])), (45, 1, .iload_n 2, (.null, 2, 0, [], [])), (46, 3, .if_icmp .ge 46, (.null, 2, 17, [], [])), (49, 1, .iload_n 3, (.null, 3, 0, [], [])), (50, 3, .ifCond .le 42, (.null, 2, 17, [], [])), (53, 2, .iload 4, (.null, 4, 0, [], [])), (55, 1, .aload_n 0, (.null, 0, 0, [], [])), (56, 3, .getfield 28, (.int 0, 4, 4, [], [304])), (59, 3, .if_icmp .ge 33, (.null, 2, 17, [], [])), (62, 1, .aload_n 0, (.null, 0, 0, [], [])), (63, 3, .getfield 12, (.null, 4, 0, [], [299])), (66, 3, .invokevirtual 52, (.null, 0, 0, [(2, 10, 4)], [632, 520, 521])), (69, 1, .aload_n 0, (.null, 0, 0, [], [])), (70, 3, .getfield 12, (.null, 4, 0, [], [299])), (73, 3, .invokevirtual 89, (.null, 0, 1, [(2, 21, 1)], [662, 591, 592])), (76, 3, .invokestatic 93, (.null, 1, 1, [(0, 228, 1)], [663, 664])), (79, 1, .istore_n 3, (.null, 3, 0, [], [])), (80, 2, .iload 4, (.null, 4, 0, [], [])), (82, 1, .iload_n 3, (.null, 3, 0, [], [])), (83, 1, .iadd, (.null, 0, 0, [], [])), (84, 2, .istore 4, (.null, 4, 0, [], [])), (86, 3, .iinc 5 1, (.int 1, 5, 0, [], [])), (89, 3, .goto (-46), (.int 0, 1, 61, [], []))]
def k39_2 : List Ins := [(92, 2, .iload 4, (.null, 4, 0, [], [])), (94, 1, .aload_n 0, (.null, 0, 0, [], [])), (95, 3, .getfield 28, (.int 0, 4, 4, [], [304])), (98, 3, .if_icmp .ge 24, (.null, 3, 0, [], [])), (101, 1, .aload_n 0, (.null, 0, 0, [], [])), (102, 2, .iload 4, (.null, 4, 0, [], [])), (104, 3, .putfield 28, (.int 0, 4, 4, [], [304])), (107, 1, .aload_n 0, (.null, 0, 0, [], [])), (108, 3, .getfield 21, (.null, 4, 2, [], [301])), (111, 1, .iconst 0, (.int 0, 0, 0, [], [])), (112, 1, .aload_n 0, (.null, 0, 0, [], [])), (113, 3, .getfield 25, (.null, 4, 3, [], [302])), (116, 1, .iconst 0, (.int 0, 0, 0, [], [])), (117, 2, .bipush 6, (.int 6, 0, 0, [], [])), (119, 3, .invokestatic 83, (.null, 4, 0, [], [661, 415, 89, 416])), (122, 0, .nop, (.null, 3, 0, [], []))]
def k39_3 : List Ins := [(122, 1, .return_, (.null, 0, 0, [], []))]
def m39 : MI := (yX5_weighOrder, cX5_weighOrder, 6, none, [k39_0, k39_1, k39_2, k39_3])
def k40_0 : List Ins := [(0, 1, .iconst 2, (.int 2, 0, 0, [], [])), (1, 1, .istore_n 3, (.null, 3, 0, [], [])), (2, 0, .nop, (.null, 1, 15, [], []))]
def k40_1 : List Ins := [(2, 1, .iload_n 3, (.null, 3, 0, [], [])), (3, 2, .bipush 20, (.int 20, 0, 0, [], [])), (5, 3, .if_icmp .gt 45, (.null, 3, 0, [], [])), (8, 1, .aload_n 0, (.null, 0, 0, [], [])), (9, 3, .getfield 12, (.null, 4, 0, [], [299])), (12, 1, .aload_n 1, (.null, 1, 0, [], [])), (13, 3, .invokevirtual 41, (.null, 1, 0, [(2, 9, 2)], [606, 487, 488])), (16, 1, .aload_n 0, (.null, 0, 0, [], [])), (17, 3, .getfield 12, (.null, 4, 0, [], [299])), (20, 1, .iload_n 3, (.null, 3, 0, [], [])), (21, 3, .putfield 97, (.int 0, 2, 1, [], [224])), (24, 1, .aload_n 0, (.null, 0, 0, [], [])), (25, 3, .getfield 12, (.null, 4, 0, [], [299])), (28, 1, .iload_n 2, (.null, 2, 0, [], [])), (29, 3, .invokevirtual 45, (.null, 1, 0, [(2, 11, 3)], [607, 608, 609])), (32, 1, .aload_n 0, (.null, 0, 0, [], [])), (33, 3, .getfield 12, (.null, 4, 0, [], [299])), (36, 3, .invokevirtual 89, (.null, 0, 1, [(2, 21, 1)], [662, 591, 592])), (39, 3, .ifCond .ne 5, (.null, 2, 15, [], [])), (42, 1, .iload_n 3, (.null, 3, 0, [], [])), (43, 1, .ireturn, (.null, 0, 0, [], []))]
def k40_2 : List Ins := [(44, 3, .iinc 3 1, (.int 1, 3, 0, [], [])), (47, 3, .goto (-45), (.int 0, 1, 15, [], []))]
def k40_3 : List Ins := [(50, 2, .ldc 55, (.int (-1000000), 0, 0, [], [633])), (52, 1, .ireturn, (.null, 0, 0, [], []))]
def m40 : MI := (yX5_leastWide, cX5_leastWide, 4, (some .int), [k40_0, k40_1, k40_2, k40_3])
def k41_0 : List Ins := [(0, 2, .bipush 99, (.int 99, 0, 0, [], [])), (2, 1, .aload_n 1, (.null, 1, 0, [], [])), (3, 3, .getfield 100, (.int 0, 2, 2, [], [228])), (6, 1, .iload_n 3, (.null, 3, 0, [], [])), (7, 1, .iadd, (.null, 0, 0, [], [])), (8, 1, .iconst 1, (.int 1, 0, 0, [], [])), (9, 1, .isub, (.null, 0, 0, [], [])), (10, 3, .invokestatic 103, (.null, 1, 0, [], [689, 517, 90, 518])), (13, 2, .istore 4, (.null, 4, 0, [], [])), (15, 2, .iload 4, (.null, 4, 0, [], [])), (17, 1, .aload_n 1, (.null, 1, 0, [], [])), (18, 3, .getfield 100, (.int 0, 2, 2, [], [228])), (21, 3, .invokestatic 103, (.null, 1, 0, [], [689, 517, 90, 518])), (24, 2, .istore 5, (.null, 5, 0, [], [])), (26, 2, .iload 4, (.null, 4, 0, [], [])), (28, 2, .istore 6, (.null, 6, 0, [], [])), (30, 0, .nop, (.null, 1, 111, [], []))]
def k41_1 : List Ins := [(30, 2, .iload 6, (.null, 6, 0, [], [])), (32, 2, .iload 5, (.null, 5, 0, [], [])), (34, 3, .if_icmp .lt 53, (.null, 3, 0, [], [])), (37, 1, .aload_n 0, (.null, 0, 0, [], [])), (38, 3, .getfield 12, (.null, 4, 0, [], [299])), (41, 1, .aload_n 1, (.null, 1, 0, [], [])), (42, 3, .invokevirtual 41, (.null, 1, 0, [(2, 9, 2)], [606, 487, 488])), (45, 1, .aload_n 0, (.null, 0, 0, [], [])), (46, 3, .getfield 12, (.null, 4, 0, [], [299])), (49, 3, .getfield 109, (.null, 2, 8, [], [244])), (52, 1, .iload_n 2, (.null, 2, 0, [], [])), (53, 2, .iload 6, (.null, 6, 0, [], [])), (55, 1, .iastore, (.null, 0, 0, [], [])), (56, 1, .aload_n 0, (.null, 0, 0, [], [])), (57, 3, .getfield 12, (.null, 4, 0, [], [299])), (60, 1, .iload_n 3, (.null, 3, 0, [], [])), (61, 3, .invokevirtual 45, (.null, 1, 0, [(2, 11, 3)], [607, 608, 609])), (64, 1, .aload_n 0, (.null, 0, 0, [], [])), (65, 3, .getfield 12, (.null, 4, 0, [], [299])), (68, 3, .getfield 49, (.null, 2, 9, [], [247])), (71, 1, .iload_n 2, (.null, 2, 0, [], [])), (72, 1, .iaload, (.null, 0, 0, [], [])), (73, 2, .bipush 21, (.int 21, 0, 0, [], [])), (75, 3, .if_icmp .ne 6, (.null, 2, 111, [], [])), (78, 2, .iload 6, (.null, 6, 0, [], [])), (80, 1, .ireturn, (.null, 0, 0, [], []))]
def k41_2 : List Ins := [(81, 3, .iinc 6 (-1), (.int (-1), 6, 0, [], [])), (84, 3, .goto (-54), (.int 0, 1, 111, [], []))]
def k41_3 : List Ins := [(87, 2, .ldc 55, (.int (-1000000), 0, 0, [], [633])), (89, 1, .ireturn, (.null, 0, 0, [], []))]
def m41 : MI := (yX5_latestStart, cX5_latestStart, 7, (some .int), [k41_0, k41_1, k41_2, k41_3])
def k42_0 : List Ins := [(0, 1, .aload_n 0, (.null, 0, 0, [], [])), (1, 3, .getfield 18, (.null, 4, 1, [], [300])), (4, 1, .aload_n 1, (.null, 1, 0, [], [])), (5, 3, .invokevirtual 41, (.null, 1, 0, [(2, 9, 2)], [606, 487, 488])), (8, 1, .aload_n 0, (.null, 0, 0, [], [])), (9, 1, .iload_n 2, (.null, 2, 0, [], [])), (10, 1, .iconst 0, (.int 0, 0, 0, [], [])), (11, 1, .iload_n 3, (.null, 3, 0, [], [])), (12, 1, .iconst (-1), (.int (-1), 0, 0, [], [])), (13, 2, .bipush 7, (.int 7, 0, 0, [], [])), (15, 3, .invokevirtual 112, (.null, 5, 1, [(4, 43, 9)], [718, 720, 20])), (18, 1, .ireturn, (.null, 0, 0, [], []))]
def m42 : MI := (yX5_boxedByTurns, cX5_boxedByTurns, 4, (some .int), [k42_0])
def k43_0 : List Ins := [(0, 1, .iload_n 2, (.null, 2, 0, [], [])), (1, 1, .iload_n 1, (.null, 1, 0, [], [])), (2, 3, .if_icmp .lt 30, (.null, 1, 63, [], [])), (5, 1, .aload_n 0, (.null, 0, 0, [], [])), (6, 3, .getfield 12, (.null, 4, 0, [], [299])), (9, 1, .aload_n 0, (.null, 0, 0, [], [])), (10, 3, .getfield 18, (.null, 4, 1, [], [300])), (13, 3, .invokevirtual 41, (.null, 1, 0, [(2, 9, 2)], [606, 487, 488])), (16, 1, .aload_n 0, (.null, 0, 0, [], [])), (17, 3, .getfield 12, (.null, 4, 0, [], [299])), (20, 1, .iload_n 3, (.null, 3, 0, [], [])), (21, 3, .invokevirtual 45, (.null, 1, 0, [(2, 11, 3)], [607, 608, 609])), (24, 1, .aload_n 0, (.null, 0, 0, [], [])), (25, 3, .getfield 12, (.null, 4, 0, [], [299])), (28, 3, .invokevirtual 116, (.null, 0, 1, [(2, 23, 1)], [722, 723, 724])), (31, 1, .ireturn, (.null, 0, 0, [], []))]
def k43_1 : List Ins := [(32, 1, .aload_n 0, (.null, 0, 0, [], [])), (33, 1, .iload_n 1, (.null, 1, 0, [], [])), (34, 1, .iload_n 2, (.null, 2, 0, [], [])), (35, 1, .iconst 1, (.int 1, 0, 0, [], [])), (36, 1, .iadd, (.null, 0, 0, [], [])), (37, 1, .iload_n 3, (.null, 3, 0, [], [])), (38, 2, .iload 4, (.null, 4, 0, [], [])), (40, 2, .iload 5, (.null, 5, 0, [], [])), (42, 3, .invokevirtual 112, (.null, 5, 1, [(4, 43, 9)], [718, 720, 20])), (45, 2, .istore 6, (.null, 6, 0, [], [])), (47, 1, .iload_n 2, (.null, 2, 0, [], [])), (48, 1, .iconst 2, (.int 2, 0, 0, [], [])), (49, 1, .irem, (.null, 0, 0, [], [])), (50, 1, .iconst 1, (.int 1, 0, 0, [], [])), (51, 3, .if_icmp .ne 75, (.null, 3, 127, [], [])), (54, 1, .aload_n 0, (.null, 0, 0, [], [])), (55, 3, .getfield 18, (.null, 4, 1, [], [300])), (58, 3, .getfield 97, (.int 0, 2, 1, [], [224])), (61, 1, .iconst 2, (.int 2, 0, 0, [], [])), (62, 3, .if_icmp .le 61, (.null, 2, 64, [], [])), (65, 2, .iload 6, (.null, 6, 0, [], [])), (67, 2, .iload 4, (.null, 4, 0, [], [])), (69, 3, .if_icmp .le 54, (.null, 2, 64, [], [])), (72, 1, .aload_n 0, (.null, 0, 0, [], [])), (73, 3, .getfield 18, (.null, 4, 1, [], [300])), (76, 1, .dup, (.null, 0, 0, [], [])), (77, 3, .getfield 97, (.int 0, 2, 1, [], [224])), (80, 1, .iconst 1, (.int 1, 0, 0, [], [])), (81, 1, .isub, (.null, 0, 0, [], [])), (82, 3, .putfield 97, (.int 0, 2, 1, [], [224])), (85, 2, .iload 6, (.null, 6, 0, [], [])), (87, 1, .aload_n 0, (.null, 0, 0, [], [])), (88, 1, .iload_n 1, (.null, 1, 0, [], [])), (89, 1, .iload_n 2, (.null, 2, 0, [], [])), (90, 1, .iconst 1, (.int 1, 0, 0, [], [])), (91, 1, .iadd, (.null, 0, 0, [], [])), (92, 1, .iload_n 3, (.null, 3, 0, [], [])), (93, 2, .iload 4, (.null, 4, 0, [], [])), (95, 2, .iload 5, (.null, 5, 0, [], [])), (97, 2, .iload 6, (.null, 6, 0, [], [])), (99, 3, .invokestatic 103, (.null, 1, 0, [], [689, 517, 90, 518])), (102, 3, .invokevirtual 112, (.null, 5, 1, [(4, 43, 9)], [718, 720, 20])), (105, 3, .invokestatic 103, (.null, 1, 0, [], [689, 517, 90, 518])), (108, 2, .istore 6, (.null, 6, 0, [], [])), (110, 1, .aload_n 0, (.null, 0, 0, [], [])), (111, 3, .getfield 18, (.null, 4, 1, [], [300])), (114, 1, .dup, (.null, 0, 0, [], [])), (115, 3, .getfield 97, (.int 0, 2, 1, [], [224])), (118, 1, .iconst 1, (.int 1, 0, 0, [], [])), (119, 1, .iadd, (.null, 0, 0, [], [])), (120, 3, .putfield 97, (.int 0, 2, 1, [], [224])), (123, 0, .nop, (.null, 2, 64, [], []))]
def k43_2 : List Ins := [(123, 2, .iload 6, (.null, 6, 0, [], [])), (125, 1, .ireturn, (.null, 0, 0, [], []))]
def k43_3 : List Ins := [(126, 1, .iconst 0, (.int 0, 0, 0, [], [])), (127, 2, .istore 7, (.null, 7, 0, [], [])), (129, 0, .nop, (.null, 4, 255, [], []))]
def k43_4 : List Ins := [(129, 2, .iload 7, (.null, 7, 0, [], [])), (131, 1, .aload_n 0, (.null, 0, 0, [], [])), (132, 3, .getfield 18, (.null, 4, 1, [], [300])), (135, 3, .getfield 66, (.int 0, 2, 3, [], [231])), (138, 3, .if_icmp .ge 90, (.null, 6, 64, [], [])), (141, 2, .iload 6, (.null, 6, 0, [], [])), (143, 2, .iload 5, (.null, 5, 0, [], [])), (145, 3, .if_icmp .ge 83, (.null, 6, 64, [], [])), (148, 1, .aload_n 0, (.null, 0, 0, [], [])), (149, 3, .getfield 18, (.null, 4, 1, [], [300])), (152, 2, .iload 7, (.null, 7, 0, [], [])), (154, 3, .invokevirtual 119, (.null, 1, 1, [(2, 19, 2)], [727, 556, 557])), (157, 3, .ifCond .eq 65, (.null, 5, 255, [], [])), (160, 1, .aload_n 0, (.null, 0, 0, [], [])), (161, 3, .getfield 18, (.null, 4, 1, [], [300])), (164, 3, .getfield 49, (.null, 2, 9, [], [247])), (167, 2, .iload 7, (.null, 7, 0, [], [])), (169, 1, .iaload, (.null, 0, 0, [], [])), (170, 2, .istore 8, (.null, 8, 0, [], [])), (172, 1, .aload_n 0, (.null, 0, 0, [], [])), (173, 3, .getfield 18, (.null, 4, 1, [], [300])), (176, 2, .iload 7, (.null, 7, 0, [], [])), (178, 2, .iload 8, (.null, 8, 0, [], [])), (180, 3, .invokestatic 123, (.null, 1, 1, [(0, 18, 1)], [728, 533])), (183, 3, .invokevirtual 126, (.null, 2, 0, [(2, 15, 3)], [729, 540, 541])), (186, 2, .iload 6, (.null, 6, 0, [], [])), (188, 1, .aload_n 0, (.null, 0, 0, [], [])), (189, 1, .iload_n 1, (.null, 1, 0, [], [])), (190, 1, .iload_n 2, (.null, 2, 0, [], [])), (191, 1, .iconst 1, (.int 1, 0, 0, [], [])), (192, 1, .iadd, (.null, 0, 0, [], [])), (193, 1, .iload_n 3, (.null, 3, 0, [], [])), (194, 2, .iload 4, (.null, 4, 0, [], [])), (196, 2, .iload 6, (.null, 6, 0, [], [])), (198, 3, .invokestatic 130, (.null, 2, 0, [], [730, 731, 90, 732])), (201, 2, .iload 5, (.null, 5, 0, [], [])), (203, 3, .invokevirtual 112, (.null, 5, 1, [(4, 43, 9)], [718, 720, 20])), (206, 3, .invokestatic 130, (.null, 2, 0, [], [730, 731, 90, 732])), (209, 2, .istore 6, (.null, 6, 0, [], [])), (211, 1, .aload_n 0, (.null, 0, 0, [], [])), (212, 3, .getfield 18, (.null, 4, 1, [], [300])), (215, 2, .iload 7, (.null, 7, 0, [], [])), (217, 2, .iload 8, (.null, 8, 0, [], [])), (219, 3, .invokevirtual 126, (.null, 2, 0, [(2, 15, 3)], [729, 540, 541])), (222, 0, .nop, (.null, 5, 255, [], []))]
def k43_5 : List Ins := [(222, 3, .iinc 7 1, (.int 1, 7, 0, [], [])), (225, 3, .goto (-96), (.int 0, 4, 255, [], []))]
def k43_6 : List Ins := [(228, 2, .iload 6, (.null, 6, 0, [], [])), (230, 1, .ireturn, (.null, 0, 0, [], []))]
def m43 : MI := (yX5_playTurns, cX5_playTurns, 9, (some .int), [k43_0, k43_1, k43_2, k43_3, k43_4, k43_5, k43_6])
def k44_0 : List Ins := [(0, 1, .aload_n 0, (.null, 0, 0, [], [])), (1, 1, .iload_n 3, (.null, 3, 0, [], [])), (2, 3, .putfield 38, (.int 0, 4, 7, [], [308])), (5, 1, .aload_n 1, (.null, 1, 0, [], [])), (6, 1, .iload_n 2, (.null, 2, 0, [], [])), (7, 1, .aload_n 0, (.null, 0, 0, [], [])), (8, 3, .getfield 35, (.null, 4, 6, [], [307])), (11, 1, .iconst 0, (.int 0, 0, 0, [], [])), (12, 1, .iload_n 3, (.null, 3, 0, [], [])), (13, 3, .invokestatic 83, (.null, 4, 0, [], [661, 415, 89, 416])), (16, 1, .return_, (.null, 0, 0, [], []))]
def m44 : MI := (yX5_hear, cX5_hear, 4, none, [k44_0])
def k45_0 : List Ins := [(0, 1, .iconst 0, (.int 0, 0, 0, [], [])), (1, 1, .istore_n 1, (.null, 1, 0, [], [])), (2, 0, .nop, (.null, 1, 3, [], []))]
def k45_1 : List Ins := [(2, 1, .iload_n 1, (.null, 1, 0, [], [])), (3, 1, .aload_n 0, (.null, 0, 0, [], [])), (4, 3, .getfield 38, (.int 0, 4, 7, [], [308])), (7, 3, .if_icmp .ge 48, (.null, 3, 0, [], [])), (10, 1, .aload_n 0, (.null, 0, 0, [], [])), (11, 3, .getfield 12, (.null, 4, 0, [], [299])), (14, 3, .invokevirtual 52, (.null, 0, 0, [(2, 10, 4)], [632, 520, 521])), (17, 1, .aload_n 0, (.null, 0, 0, [], [])), (18, 3, .getfield 12, (.null, 4, 0, [], [299])), (21, 3, .invokevirtual 133, (.null, 0, 1, [(2, 22, 1)], [761, 587, 588])), (24, 3, .invokestatic 93, (.null, 1, 1, [(0, 228, 1)], [663, 664])), (27, 2, .bipush 10, (.int 10, 0, 0, [], [])), (29, 1, .aload_n 0, (.null, 0, 0, [], [])), (30, 3, .getfield 12, (.null, 4, 0, [], [299])), (33, 3, .invokevirtual 116, (.null, 0, 1, [(2, 23, 1)], [722, 723, 724])), (36, 1, .imul, (.null, 0, 0, [], [])), (37, 1, .iadd, (.null, 0, 0, [], [])), (38, 1, .aload_n 0, (.null, 0, 0, [], [])), (39, 3, .getfield 35, (.null, 4, 6, [], [307])), (42, 1, .iload_n 1, (.null, 1, 0, [], [])), (43, 1, .iaload, (.null, 0, 0, [], [])), (44, 3, .if_icmp .eq 5, (.null, 2, 3, [], [])), (47, 1, .iconst 0, (.int 0, 0, 0, [], [])), (48, 1, .ireturn, (.null, 1, 0, [], []))]
def k45_2 : List Ins := [(49, 3, .iinc 1 1, (.int 1, 1, 0, [], [])), (52, 3, .goto (-50), (.int 0, 1, 3, [], []))]
def k45_3 : List Ins := [(55, 1, .iconst 1, (.int 1, 0, 0, [], [])), (56, 1, .ireturn, (.null, 1, 0, [], []))]
def m45 : MI := (yX5_trialFits, cX5_trialFits, 2, (some .boolean), [k45_0, k45_1, k45_2, k45_3])
def k46_0 : List Ins := [(0, 1, .iconst 0, (.int 0, 0, 0, [], [])), (1, 2, .istore 6, (.null, 6, 0, [], [])), (3, 2, .iload 4, (.null, 4, 0, [], [])), (5, 2, .istore 7, (.null, 7, 0, [], [])), (7, 0, .nop, (.null, 1, 239, [], []))]
def k46_1 : List Ins := [(7, 2, .iload 7, (.null, 7, 0, [], [])), (9, 2, .iload 5, (.null, 5, 0, [], [])), (11, 3, .if_icmp .gt 41, (.null, 3, 64, [], [])), (14, 1, .aload_n 0, (.null, 0, 0, [], [])), (15, 3, .getfield 12, (.null, 4, 0, [], [299])), (18, 1, .aload_n 1, (.null, 1, 0, [], [])), (19, 3, .invokevirtual 41, (.null, 1, 0, [(2, 9, 2)], [606, 487, 488])), (22, 1, .aload_n 0, (.null, 0, 0, [], [])), (23, 1, .iload_n 2, (.null, 2, 0, [], [])), (24, 1, .iload_n 3, (.null, 3, 0, [], [])), (25, 2, .iload 7, (.null, 7, 0, [], [])), (27, 3, .invokevirtual 136, (.null, 3, 0, [(4, 47, 4)], [749, 751, 22])), (30, 1, .aload_n 0, (.null, 0, 0, [], [])), (31, 3, .invokevirtual 140, (.null, 0, 1, [(4, 45, 2)], [757, 759, 23])), (34, 3, .ifCond .eq 12, (.null, 2, 239, [], [])), (37, 2, .iload 6, (.null, 6, 0, [], [])), (39, 1, .iconst 1, (.int 1, 0, 0, [], [])), (40, 2, .iload 7, (.null, 7, 0, [], [])), (42, 1, .ishl, (.null, 0, 0, [], [])), (43, 1, .ior, (.null, 0, 0, [], [])), (44, 2, .istore 6, (.null, 6, 0, [], [])), (46, 0, .nop, (.null, 2, 239, [], []))]
def k46_2 : List Ins := [(46, 3, .iinc 7 1, (.int 1, 7, 0, [], [])), (49, 3, .goto (-42), (.int 0, 1, 239, [], []))]
def k46_3 : List Ins := [(52, 2, .iload 6, (.null, 6, 0, [], [])), (54, 1, .ireturn, (.null, 0, 0, [], []))]
def m46 : MI := (yX5_fitting, cX5_fitting, 8, (some .int), [k46_0, k46_1, k46_2, k46_3])
def k47_0 : List Ins := [(0, 1, .iload_n 2, (.null, 2, 0, [], [])), (1, 27, .tableswitch 65 0 2 #[27, 40, 52], (.null, 4, 9, [(0, 1, 11), (1, 2, 11), (2, 3, 11)], []))]
def k47_1 : List Ins := [(28, 1, .aload_n 0, (.null, 0, 0, [], [])), (29, 3, .getfield 12, (.null, 4, 0, [], [299])), (32, 3, .getfield 144, (.null, 2, 5, [], [236])), (35, 1, .iload_n 1, (.null, 1, 0, [], [])), (36, 1, .iload_n 3, (.null, 3, 0, [], [])), (37, 1, .iastore, (.null, 0, 0, [], [])), (38, 3, .goto 36, (.null, 0, 0, [], [])), (74, 1, .return_, (.null, 0, 0, [], []))]
def k47_2 : List Ins := [(41, 1, .aload_n 0, (.null, 0, 0, [], [])), (42, 3, .getfield 12, (.null, 4, 0, [], [299])), (45, 1, .iload_n 1, (.null, 1, 0, [], [])), (46, 1, .iload_n 3, (.null, 3, 0, [], [])), (47, 3, .invokevirtual 147, (.null, 2, 0, [(2, 17, 3)], [753, 754, 755])), (50, 3, .goto 24, (.null, 0, 0, [], [])), (74, 1, .return_, (.null, 0, 0, [], []))]
def k47_3 : List Ins := [(53, 1, .aload_n 0, (.null, 0, 0, [], [])), (54, 3, .getfield 12, (.null, 4, 0, [], [299])), (57, 3, .getfield 77, (.null, 2, 6, [], [239])), (60, 1, .iload_n 1, (.null, 1, 0, [], [])), (61, 1, .iload_n 3, (.null, 3, 0, [], [])), (62, 1, .iastore, (.null, 0, 0, [], [])), (63, 3, .goto 11, (.null, 0, 0, [], [])), (74, 1, .return_, (.null, 0, 0, [], []))]
def k47_4 : List Ins := [(66, 1, .aload_n 0, (.null, 0, 0, [], [])), (67, 3, .getfield 12, (.null, 4, 0, [], [299])), (70, 1, .iload_n 3, (.null, 3, 0, [], [])), (71, 3, .putfield 97, (.int 0, 2, 1, [], [224])), (74, 1, .return_, (.null, 0, 0, [], []))]
def m47 : MI := (yX5_varyTrial, cX5_varyTrial, 4, none, [k47_0, k47_1, k47_2, k47_3, k47_4])
def k48_0 : List Ins := [(0, 1, .aload_n 1, (.null, 1, 0, [], [])), (1, 3, .getfield 56, (.null, 2, 13, [], [256])), (4, 2, .bipush 20, (.int 20, 0, 0, [], [])), (6, 1, .iaload, (.null, 0, 0, [], [])), (7, 2, .istore 6, (.null, 6, 0, [], [])), (9, 1, .lconst 0, (.long 0, 0, 0, [], [])), (10, 2, .lstore 7, (.null, 7, 0, [], [])), (12, 1, .iconst 0, (.int 0, 0, 0, [], [])), (13, 2, .istore 9, (.null, 9, 0, [], [])), (15, 0, .nop, (.null, 1, 767, [], []))]
def k48_1 : List Ins := [(15, 2, .iload 9, (.null, 9, 0, [], [])), (17, 2, .iload 6, (.null, 6, 0, [], [])), (19, 3, .if_icmp .gt 78, (.null, 3, 224, [], [])), (22, 2, .iload 9, (.null, 9, 0, [], [])), (24, 2, .iload 6, (.null, 6, 0, [], [])), (26, 1, .iconst (-1), (.int (-1), 0, 0, [], [])), (27, 1, .ixor, (.null, 0, 0, [], [])), (28, 1, .iand, (.null, 0, 0, [], [])), (29, 3, .ifCond .ne 62, (.null, 2, 767, [], [])), (32, 2, .iload 9, (.null, 9, 0, [], [])), (34, 3, .invokestatic 93, (.null, 1, 1, [(0, 228, 1)], [663, 664])), (37, 2, .istore 10, (.null, 10, 0, [], [])), (39, 2, .iload 4, (.null, 4, 0, [], [])), (41, 2, .iload 10, (.null, 10, 0, [], [])), (43, 3, .invokestatic 150, (.null, 2, 2, [(0, 50, 5)], [779, 780])), (46, 2, .bipush 10, (.int 10, 0, 0, [], [])), (48, 2, .iload 4, (.null, 4, 0, [], [])), (50, 1, .isub, (.null, 0, 0, [], [])), (51, 2, .iload 6, (.null, 6, 0, [], [])), (53, 3, .invokestatic 93, (.null, 1, 1, [(0, 228, 1)], [663, 664])), (56, 2, .iload 10, (.null, 10, 0, [], [])), (58, 1, .isub, (.null, 0, 0, [], [])), (59, 3, .invokestatic 150, (.null, 2, 2, [(0, 50, 5)], [779, 780])), (62, 1, .lmul, (.null, 0, 0, [], [])), (63, 2, .lstore 11, (.null, 11, 0, [], [])), (65, 2, .lload 11, (.null, 11, 0, [], [])), (67, 1, .lconst 0, (.long 0, 0, 0, [], [])), (68, 1, .lcmp, (.null, 0, 0, [], [])), (69, 3, .ifCond .le 22, (.null, 2, 767, [], [])), (72, 1, .aload_n 0, (.null, 0, 0, [], [])), (73, 1, .aload_n 1, (.null, 1, 0, [], [])), (74, 1, .iload_n 2, (.null, 2, 0, [], [])), (75, 1, .iload_n 3, (.null, 3, 0, [], [])), (76, 2, .iload 9, (.null, 9, 0, [], [])), (78, 3, .invokevirtual 154, (.null, 4, 1, [(4, 49, 6)], [782, 784, 24])), (81, 3, .ifCond .eq 10, (.null, 2, 767, [], [])), (84, 2, .lload 7, (.null, 7, 0, [], [])), (86, 2, .lload 11, (.null, 11, 0, [], [])), (88, 1, .ladd, (.null, 0, 0, [], [])), (89, 2, .lstore 7, (.null, 7, 0, [], [])), (91, 0, .nop, (.null, 2, 767, [], []))]
def k48_2 : List Ins := [(91, 3, .iinc 9 1, (.int 1, 9, 0, [], [])), (94, 3, .goto (-79), (.int 0, 1, 767, [], []))]
def k48_3 : List Ins := [(97, 2, .bipush 10, (.int 10, 0, 0, [], [])), (99, 2, .iload 6, (.null, 6, 0, [], [])), (101, 3, .invokestatic 93, (.null, 1, 1, [(0, 228, 1)], [663, 664])), (104, 3, .invokestatic 150, (.null, 2, 2, [(0, 50, 5)], [779, 780])), (107, 2, .lstore 9, (.null, 9, 0, [], [])), (109, 2, .lload 7, (.null, 7, 0, [], [])), (111, 2, .lload 9, (.null, 9, 0, [], [])), (113, 3, .invokestatic 158, (.null, 2, 2, [(0, 51, 11)], [786, 787])), (116, 2, .lstore 11, (.null, 11, 0, [], [])), (118, 2, .iload 5, (.null, 5, 0, [], [])), (120, 3, .ifCond .ne 11, (.null, 4, 2560, [], [])), (123, 2, .lload 7, (.null, 7, 0, [], [])), (125, 2, .lload 11, (.null, 11, 0, [], [])), (127, 1, .ldiv, (.null, 0, 0, [], [])), (128, 3, .goto 8, (.null, 0, 0, [], [])), (136, 1, .lreturn, (.null, 0, 0, [], []))]
def k48_4 : List Ins := [(131, 2, .lload 9, (.null, 9, 0, [], [])), (133, 2, .lload 11, (.null, 11, 0, [], [])), (135, 1, .ldiv, (.null, 0, 0, [], [])), (136, 1, .lreturn, (.null, 0, 0, [], []))]
def m48 : MI := (yX5_chanceOfBox, cX5_chanceOfBox, 13, (some .long), [k48_0, k48_1, k48_2, k48_3, k48_4])
def k49_0 : List Ins := [(0, 2, .iload 4, (.null, 4, 0, [], [])), (2, 1, .iload_n 2, (.null, 2, 0, [], [])), (3, 1, .ishr, (.null, 0, 0, [], [])), (4, 1, .iconst 1, (.int 1, 0, 0, [], [])), (5, 1, .iand, (.null, 0, 0, [], [])), (6, 3, .ifCond .eq 5, (.null, 1, 31, [], [])), (9, 1, .iconst 0, (.int 0, 0, 0, [], [])), (10, 1, .ireturn, (.null, 1, 0, [], []))]
def k49_1 : List Ins := [(11, 1, .aload_n 0, (.null, 0, 0, [], [])), (12, 3, .getfield 12, (.null, 4, 0, [], [299])), (15, 1, .aload_n 1, (.null, 1, 0, [], [])), (16, 3, .invokevirtual 41, (.null, 1, 0, [(2, 9, 2)], [606, 487, 488])), (19, 1, .aload_n 0, (.null, 0, 0, [], [])), (20, 3, .getfield 12, (.null, 4, 0, [], [299])), (23, 2, .iload 4, (.null, 4, 0, [], [])), (25, 3, .putfield 162, (.int 0, 2, 4, [], [234])), (28, 1, .iconst 0, (.int 0, 0, 0, [], [])), (29, 2, .istore 5, (.null, 5, 0, [], [])), (31, 0, .nop, (.null, 2, 45, [], []))]
def k49_2 : List Ins := [(31, 2, .iload 5, (.null, 5, 0, [], [])), (33, 1, .iload_n 3, (.null, 3, 0, [], [])), (34, 3, .if_icmp .ge 30, (.null, 3, 5, [], [])), (37, 1, .aload_n 0, (.null, 0, 0, [], [])), (38, 3, .getfield 12, (.null, 4, 0, [], [299])), (41, 3, .getfield 49, (.null, 2, 9, [], [247])), (44, 1, .iload_n 2, (.null, 2, 0, [], [])), (45, 1, .iaload, (.null, 0, 0, [], [])), (46, 2, .bipush 21, (.int 21, 0, 0, [], [])), (48, 3, .if_icmp .eq 16, (.null, 3, 5, [], [])), (51, 1, .aload_n 0, (.null, 0, 0, [], [])), (52, 3, .getfield 12, (.null, 4, 0, [], [299])), (55, 3, .invokevirtual 52, (.null, 0, 0, [(2, 10, 4)], [632, 520, 521])), (58, 3, .iinc 5 1, (.int 1, 5, 0, [], [])), (61, 3, .goto (-30), (.int 0, 2, 45, [], []))]
def k49_3 : List Ins := [(64, 1, .aload_n 0, (.null, 0, 0, [], [])), (65, 3, .getfield 12, (.null, 4, 0, [], [299])), (68, 3, .getfield 49, (.null, 2, 9, [], [247])), (71, 1, .iload_n 2, (.null, 2, 0, [], [])), (72, 1, .iaload, (.null, 0, 0, [], [])), (73, 2, .bipush 21, (.int 21, 0, 0, [], [])), (75, 3, .if_icmp .ne 7, (.null, 4, 0, [], [])), (78, 1, .iconst 1, (.int 1, 0, 0, [], [])), (79, 3, .goto 4, (.null, 0, 0, [], [])), (83, 1, .ireturn, (.null, 1, 0, [], []))]
def k49_4 : List Ins := [(82, 1, .iconst 0, (.int 0, 0, 0, [], [])), (83, 1, .ireturn, (.null, 1, 0, [], []))]
def m49 : MI := (yX5_isBoxedWithout, cX5_isBoxedWithout, 6, (some .boolean), [k49_0, k49_1, k49_2, k49_3, k49_4])
def k50_0 : List Ins := [(0, 1, .lconst 1, (.long 1, 0, 0, [], [])), (1, 1, .lstore_n 2, (.null, 2, 0, [], [])), (2, 1, .iconst 0, (.int 0, 0, 0, [], [])), (3, 2, .istore 4, (.null, 4, 0, [], [])), (5, 0, .nop, (.null, 1, 23, [], []))]
def k50_1 : List Ins := [(5, 2, .iload 4, (.null, 4, 0, [], [])), (7, 1, .iload_n 1, (.null, 1, 0, [], [])), (8, 3, .if_icmp .ge 14, (.null, 2, 4, [], [])), (11, 1, .lload_n 2, (.null, 2, 0, [], [])), (12, 1, .iload_n 0, (.null, 0, 0, [], [])), (13, 1, .i2l, (.null, 0, 0, [], [])), (14, 1, .lmul, (.null, 0, 0, [], [])), (15, 1, .lstore_n 2, (.null, 2, 0, [], [])), (16, 3, .iinc 4 1, (.int 1, 4, 0, [], [])), (19, 3, .goto (-14), (.int 0, 1, 23, [], []))]
def k50_2 : List Ins := [(22, 1, .lload_n 2, (.null, 2, 0, [], [])), (23, 1, .lreturn, (.null, 0, 0, [], []))]
def m50 : MI := (yX5_power, cX5_power, 5, (some .long), [k50_0, k50_1, k50_2])
def k51_0 : List Ins := [(0, 1, .lload_n 2, (.null, 2, 0, [], [])), (1, 2, .lstore 4, (.null, 4, 0, [], [])), (3, 1, .lload_n 0, (.null, 0, 0, [], [])), (4, 2, .lstore 6, (.null, 6, 0, [], [])), (6, 1, .iconst 0, (.int 0, 0, 0, [], [])), (7, 2, .istore 8, (.null, 8, 0, [], [])), (9, 0, .nop, (.null, 1, 336, [], []))]
def k51_1 : List Ins := [(9, 2, .iload 8, (.null, 8, 0, [], [])), (11, 3, .sipush 200, (.int 200, 0, 0, [], [])), (14, 3, .if_icmp .ge 31, (.null, 2, 16, [], [])), (17, 2, .lload 6, (.null, 6, 0, [], [])), (19, 1, .lconst 0, (.long 0, 0, 0, [], [])), (20, 1, .lcmp, (.null, 0, 0, [], [])), (21, 3, .ifCond .le 24, (.null, 2, 16, [], [])), (24, 2, .lload 4, (.null, 4, 0, [], [])), (26, 2, .lload 6, (.null, 6, 0, [], [])), (28, 1, .lrem, (.null, 0, 0, [], [])), (29, 2, .lstore 9, (.null, 9, 0, [], [])), (31, 2, .lload 6, (.null, 6, 0, [], [])), (33, 2, .lstore 4, (.null, 4, 0, [], [])), (35, 2, .lload 9, (.null, 9, 0, [], [])), (37, 2, .lstore 6, (.null, 6, 0, [], [])), (39, 3, .iinc 8 1, (.int 1, 8, 0, [], [])), (42, 3, .goto (-33), (.int 0, 1, 336, [], []))]
def k51_2 : List Ins := [(45, 1, .lconst 1, (.long 1, 0, 0, [], [])), (46, 2, .lload 4, (.null, 4, 0, [], [])), (48, 3, .invokestatic 165, (.null, 3, 0, [], [789, 790, 90, 791])), (51, 1, .lreturn, (.null, 0, 0, [], []))]
def m51 : MI := (yX5_greatestDivisor, cX5_greatestDivisor, 11, (some .long), [k51_0, k51_1, k51_2])
def k52_0 : List Ins := [(0, 1, .aload_n 0, (.null, 0, 0, [], [])), (1, 3, .getfield 12, (.null, 4, 0, [], [299])), (4, 1, .aload_n 1, (.null, 1, 0, [], [])), (5, 3, .invokevirtual 41, (.null, 1, 0, [(2, 9, 2)], [606, 487, 488])), (8, 1, .iload_n 3, (.null, 3, 0, [], [])), (9, 1, .i2l, (.null, 0, 0, [], [])), (10, 2, .lstore 5, (.null, 5, 0, [], [])), (12, 1, .iconst 0, (.int 0, 0, 0, [], [])), (13, 2, .istore 7, (.null, 7, 0, [], [])), (15, 1, .iconst 0, (.int 0, 0, 0, [], [])), (16, 2, .istore 8, (.null, 8, 0, [], [])), (18, 0, .nop, (.null, 1, 437, [], []))]
def k52_1 : List Ins := [(18, 2, .iload 8, (.null, 8, 0, [], [])), (20, 1, .iload_n 2, (.null, 2, 0, [], [])), (21, 3, .if_icmp .ge 152, (.null, 4, 145, [], [])), (24, 1, .aload_n 0, (.null, 0, 0, [], [])), (25, 3, .getfield 12, (.null, 4, 0, [], [299])), (28, 3, .getfield 66, (.int 0, 2, 3, [], [231])), (31, 3, .ifCond .le 142, (.null, 4, 145, [], [])), (34, 1, .aload_n 0, (.null, 0, 0, [], [])), (35, 3, .getfield 12, (.null, 4, 0, [], [299])), (38, 3, .getfield 167, (.int 0, 2, 0, [], [222])), (41, 3, .ifCond .le 132, (.null, 4, 145, [], [])), (44, 2, .lload 5, (.null, 5, 0, [], [])), (46, 3, .ldc2_w 170, (.long 16807, 0, 0, [], [801])), (49, 1, .lmul, (.null, 0, 0, [], [])), (50, 3, .ldc2_w 172, (.long 2147483647, 0, 0, [], [802])), (53, 1, .lrem, (.null, 0, 0, [], [])), (54, 2, .lstore 5, (.null, 5, 0, [], [])), (56, 2, .lload 5, (.null, 5, 0, [], [])), (58, 1, .aload_n 0, (.null, 0, 0, [], [])), (59, 3, .getfield 12, (.null, 4, 0, [], [299])), (62, 3, .getfield 66, (.int 0, 2, 3, [], [231])), (65, 1, .i2l, (.null, 0, 0, [], [])), (66, 1, .lrem, (.null, 0, 0, [], [])), (67, 1, .l2i, (.null, 0, 0, [], [])), (68, 2, .istore 9, (.null, 9, 0, [], [])), (70, 1, .aload_n 0, (.null, 0, 0, [], [])), (71, 3, .getfield 12, (.null, 4, 0, [], [299])), (74, 3, .getfield 49, (.null, 2, 9, [], [247])), (77, 2, .iload 9, (.null, 9, 0, [], [])), (79, 1, .iaload, (.null, 0, 0, [], [])), (80, 2, .bipush 21, (.int 21, 0, 0, [], [])), (82, 3, .if_icmp .ne 27, (.null, 2, 437, [], [])), (85, 1, .aload_n 0, (.null, 0, 0, [], [])), (86, 3, .getfield 12, (.null, 4, 0, [], [299])), (89, 2, .iload 9, (.null, 9, 0, [], [])), (91, 2, .lload 5, (.null, 5, 0, [], [])), (93, 1, .aload_n 0, (.null, 0, 0, [], [])), (94, 3, .getfield 12, (.null, 4, 0, [], [299])), (97, 3, .getfield 167, (.int 0, 2, 0, [], [222])), (100, 1, .i2l, (.null, 0, 0, [], [])), (101, 1, .lrem, (.null, 0, 0, [], [])), (102, 1, .l2i, (.null, 0, 0, [], [])), (103, 3, .invokevirtual 174, (.null, 2, 0, [(2, 16, 3)], [803, 570, 571])), (106, 3, .goto 30, (.int 0, 3, 437, [], []))]
def k52_2 : List Ins := [(109, 2, .lload 5, (.null, 5, 0, [], [])), (111, 3, .ldc2_w 177, (.long 4, 0, 0, [], [804])), (114, 1, .lrem, (.null, 0, 0, [], [])), (115, 1, .lconst 0, (.long 0, 0, 0, [], [])), (116, 1, .lcmp, (.null, 0, 0, [], [])), (117, 3, .ifCond .ne 19, (.null, 3, 437, [], [])), (120, 1, .aload_n 0, (.null, 0, 0, [], [])), (121, 3, .getfield 12, (.null, 4, 0, [], [299])), (124, 2, .lload 5, (.null, 5, 0, [], [])), (126, 3, .ldc2_w 179, (.long 19, 0, 0, [], [805])), (129, 1, .lrem, (.null, 0, 0, [], [])), (130, 1, .l2i, (.null, 0, 0, [], [])), (131, 1, .iconst 2, (.int 2, 0, 0, [], [])), (132, 1, .iadd, (.null, 0, 0, [], [])), (133, 3, .putfield 97, (.int 0, 2, 1, [], [224])), (136, 0, .nop, (.null, 3, 437, [], []))]
def k52_3 : List Ins := [(136, 1, .aload_n 0, (.null, 0, 0, [], [])), (137, 3, .getfield 12, (.null, 4, 0, [], [299])), (140, 3, .invokevirtual 116, (.null, 0, 1, [(2, 23, 1)], [722, 723, 724])), (143, 2, .istore 10, (.null, 10, 0, [], [])), (145, 1, .aload_n 0, (.null, 0, 0, [], [])), (146, 3, .getfield 12, (.null, 4, 0, [], [299])), (149, 3, .invokevirtual 52, (.null, 0, 0, [(2, 10, 4)], [632, 520, 521])), (152, 2, .iload 7, (.null, 7, 0, [], [])), (154, 1, .aload_n 0, (.null, 0, 0, [], [])), (155, 3, .getfield 12, (.null, 4, 0, [], [299])), (158, 3, .invokevirtual 116, (.null, 0, 1, [(2, 23, 1)], [722, 723, 724])), (161, 2, .iload 10, (.null, 10, 0, [], [])), (163, 1, .isub, (.null, 0, 0, [], [])), (164, 1, .iadd, (.null, 0, 0, [], [])), (165, 2, .istore 7, (.null, 7, 0, [], [])), (167, 3, .iinc 8 1, (.int 1, 8, 0, [], [])), (170, 3, .goto (-152), (.int 0, 1, 437, [], []))]
def k52_4 : List Ins := [(173, 2, .iload 4, (.null, 4, 0, [], [])), (175, 3, .ifCond .ne 8, (.null, 5, 1, [], [])), (178, 2, .iload 7, (.null, 7, 0, [], [])), (180, 3, .goto 10, (.null, 0, 0, [], [])), (190, 1, .ireturn, (.null, 0, 0, [], []))]
def k52_5 : List Ins := [(183, 1, .aload_n 0, (.null, 0, 0, [], [])), (184, 3, .getfield 12, (.null, 4, 0, [], [299])), (187, 3, .invokevirtual 181, (.null, 0, 1, [(2, 24, 3)], [806, 621, 622])), (190, 1, .ireturn, (.null, 0, 0, [], []))]
def m52 : MI := (yX5_daysByDraws, cX5_daysByDraws, 11, (some .int), [k52_0, k52_1, k52_2, k52_3, k52_4, k52_5])
def k53_0 : List Ins := [(0, 1, .aload_n 0, (.null, 0, 0, [], [])), (1, 3, .invokespecial 1, (.null, 0, 0, [(1, 26, 1)], [11, 181])), (4, 1, .return_, (.null, 0, 0, [], []))]
def m53 : MI := (yX6_init, cX6_init, 1, none, [k53_0])
def k54_0 : List Ins := [(0, 1, .aload_n 1, (.null, 1, 0, [], [])), (1, 2, .bipush 13, (.int 13, 0, 0, [], [])), (3, 3, .invokevirtual 7, (.null, 1, 0, [(0, 2, 2)], [872, 845, 846])), (6, 1, .aload_n 0, (.null, 0, 0, [], [])), (7, 1, .aload_n 1, (.null, 1, 0, [], [])), (8, 3, .invokespecial 13, (.null, 1, 1, [(2, 27, 2)], [873, 839, 840, 205])), (11, 2, .bipush 100, (.int 100, 0, 0, [], [])), (13, 1, .isub, (.null, 0, 0, [], [])), (14, 1, .ireturn, (.null, 0, 0, [], []))]
def m54 : MI := (yX6_sizeFor, cX6_sizeFor, 2, (some .int), [k54_0])
def k55_0 : List Ins := [(0, 1, .aload_n 1, (.null, 1, 0, [], [])), (1, 2, .bipush 23, (.int 23, 0, 0, [], [])), (3, 3, .invokevirtual 7, (.null, 1, 0, [(0, 2, 2)], [872, 845, 846])), (6, 1, .aload_n 0, (.null, 0, 0, [], [])), (7, 1, .aload_n 1, (.null, 1, 0, [], [])), (8, 3, .invokespecial 17, (.null, 1, 1, [(2, 28, 2)], [887, 865, 1412, 205])), (11, 1, .istore_n 2, (.null, 2, 0, [], [])), (12, 1, .iload_n 2, (.null, 2, 0, [], [])), (13, 1, .aload_n 0, (.null, 0, 0, [], [])), (14, 1, .aload_n 1, (.null, 1, 0, [], [])), (15, 3, .invokevirtual 20, (.null, 1, 1, [(5, 54, 2), (7, 68, 2)], [888, 1413, 870, 54, 1418, 870, 1419, 875])), (18, 1, .isub, (.null, 0, 0, [], [])), (19, 1, .ireturn, (.null, 0, 0, [], []))]
def m55 : MI := (yX6_markFor, cX6_markFor, 3, (some .int), [k55_0])
def k56_0 : List Ins := [(0, 1, .aload_n 0, (.null, 0, 0, [], [])), (1, 3, .invokespecial 3, (.null, 0, 0, [], [126, 98, 99])), (4, 1, .aload_n 0, (.null, 0, 0, [], [])), (5, 2, .bipush 100, (.int 100, 0, 0, [], [])), (7, 2, .newarray .int, (.null, 0, 0, [], [120])), (9, 3, .putfield 9, (.null, 6, 0, [], [127])), (12, 1, .aload_n 0, (.null, 0, 0, [], [])), (13, 1, .iconst 0, (.int 0, 0, 0, [], [])), (14, 3, .putfield 15, (.int 0, 6, 1, [], [128])), (17, 1, .aload_n 0, (.null, 0, 0, [], [])), (18, 1, .iconst 0, (.int 0, 0, 0, [], [])), (19, 3, .putfield 19, (.int 0, 6, 2, [], [130])), (22, 1, .aload_n 0, (.null, 0, 0, [], [])), (23, 1, .iconst 0, (.int 0, 0, 0, [], [])), (24, 3, .putfield 22, (.int 0, 6, 3, [], [132])), (27, 1, .aload_n 0, (.null, 0, 0, [], [])), (28, 1, .iconst 0, (.int 0, 0, 0, [], [])), (29, 3, .putfield 25, (.int 0, 6, 4, [], [134])), (32, 1, .return_, (.null, 0, 0, [], []))]
def m56 : MI := (yX7_init, cX7_init, 1, none, [k56_0])
def k57_0 : List Ins := [(0, 1, .aload_n 0, (.null, 0, 0, [], [])), (1, 3, .getfield 9, (.null, 6, 0, [], [127])), (4, 1, .aload_n 0, (.null, 0, 0, [], [])), (5, 3, .getfield 15, (.int 0, 6, 1, [], [128])), (8, 1, .iload_n 1, (.null, 1, 0, [], [])), (9, 1, .iastore, (.null, 0, 0, [], [])), (10, 1, .aload_n 0, (.null, 0, 0, [], [])), (11, 1, .dup, (.null, 0, 0, [], [])), (12, 3, .getfield 15, (.int 0, 6, 1, [], [128])), (15, 1, .iconst 1, (.int 1, 0, 0, [], [])), (16, 1, .iadd, (.null, 0, 0, [], [])), (17, 3, .putfield 15, (.int 0, 6, 1, [], [128])), (20, 1, .aload_n 0, (.null, 0, 0, [], [])), (21, 3, .getfield 15, (.int 0, 6, 1, [], [128])), (24, 1, .ireturn, (.null, 0, 0, [], []))]
def m57 : MI := (yX7_append, cX7_append, 2, (some .int), [k57_0])
def k58_0 : List Ins := [(0, 1, .aload_n 0, (.null, 0, 0, [], [])), (1, 1, .iconst 0, (.int 0, 0, 0, [], [])), (2, 3, .putfield 19, (.int 0, 6, 2, [], [130])), (5, 1, .aload_n 0, (.null, 0, 0, [], [])), (6, 1, .aload_n 1, (.null, 1, 0, [], [])), (7, 3, .invokevirtual 28, (.null, 1, 1, [(6, 59, 3)], [442, 444, 2])), (10, 1, .istore_n 2, (.null, 2, 0, [], [])), (11, 1, .iconst 0, (.int 0, 0, 0, [], [])), (12, 1, .istore_n 3, (.null, 3, 0, [], [])), (13, 0, .nop, (.null, 1, 15, [], []))]
def k58_1 : List Ins := [(13, 1, .iload_n 3, (.null, 3, 0, [], [])), (14, 2, .bipush 6, (.int 6, 0, 0, [], [])), (16, 3, .if_icmp .gt 34, (.null, 3, 4, [], [])), (19, 1, .iload_n 2, (.null, 2, 0, [], [])), (20, 3, .ifCond .eq 30, (.null, 3, 4, [], [])), (23, 1, .iload_n 3, (.null, 3, 0, [], [])), (24, 3, .ifCond .eq 14, (.null, 2, 11, [], [])), (27, 1, .aload_n 0, (.null, 0, 0, [], [])), (28, 3, .getfield 19, (.int 0, 6, 2, [], [130])), (31, 1, .aload_n 0, (.null, 0, 0, [], [])), (32, 3, .getfield 15, (.int 0, 6, 1, [], [128])), (35, 3, .if_icmp .ge 15, (.null, 3, 4, [], [])), (38, 0, .nop, (.null, 2, 11, [], []))]
def k58_2 : List Ins := [(38, 1, .aload_n 0, (.null, 0, 0, [], [])), (39, 1, .aload_n 1, (.null, 1, 0, [], [])), (40, 3, .invokevirtual 32, (.null, 1, 1, [(6, 60, 5)], [470, 472, 7])), (43, 1, .istore_n 2, (.null, 2, 0, [], [])), (44, 3, .iinc 3 1, (.int 1, 3, 0, [], [])), (47, 3, .goto (-34), (.int 0, 1, 15, [], []))]
def k58_3 : List Ins := [(50, 1, .iload_n 2, (.null, 2, 0, [], [])), (51, 1, .ireturn, (.null, 1, 0, [], []))]
def m58 : MI := (yX7_readInto, cX7_readInto, 4, (some .boolean), [k58_0, k58_1, k58_2, k58_3])
def k59_0 : List Ins := [(0, 1, .aload_n 0, (.null, 0, 0, [], [])), (1, 2, .bipush 104, (.int 104, 0, 0, [], [])), (3, 3, .invokevirtual 35, (.null, 1, 1, [(6, 61, 2)], [446, 448, 3])), (6, 3, .ifCond .eq 13, (.null, 1, 0, [], [])), (9, 1, .aload_n 0, (.null, 0, 0, [], [])), (10, 1, .iconst 3, (.int 3, 0, 0, [], [])), (11, 2, .bipush 9, (.int 9, 0, 0, [], [])), (13, 3, .invokevirtual 39, (.null, 2, 1, [(6, 62, 5)], [459, 461, 6])), (16, 3, .ifCond .ne 5, (.null, 2, 3, [], [])), (19, 0, .nop, (.null, 1, 0, [], []))]
def k59_1 : List Ins := [(19, 1, .iconst 0, (.int 0, 0, 0, [], [])), (20, 1, .ireturn, (.null, 1, 0, [], []))]
def k59_2 : List Ins := [(21, 1, .aload_n 0, (.null, 0, 0, [], [])), (22, 3, .getfield 25, (.int 0, 6, 4, [], [134])), (25, 1, .istore_n 2, (.null, 2, 0, [], [])), (26, 1, .aload_n 0, (.null, 0, 0, [], [])), (27, 2, .bipush 44, (.int 44, 0, 0, [], [])), (29, 3, .invokevirtual 35, (.null, 1, 1, [(6, 61, 2)], [446, 448, 3])), (32, 3, .ifCond .eq 13, (.null, 3, 0, [], [])), (35, 1, .aload_n 0, (.null, 0, 0, [], [])), (36, 1, .iconst 2, (.int 2, 0, 0, [], [])), (37, 2, .bipush 20, (.int 20, 0, 0, [], [])), (39, 3, .invokevirtual 39, (.null, 2, 1, [(6, 62, 5)], [459, 461, 6])), (42, 3, .ifCond .ne 5, (.null, 4, 7, [], [])), (45, 0, .nop, (.null, 3, 0, [], []))]
def k59_3 : List Ins := [(45, 1, .iconst 0, (.int 0, 0, 0, [], [])), (46, 1, .ireturn, (.null, 1, 0, [], []))]
def k59_4 : List Ins := [(47, 1, .aload_n 1, (.null, 1, 0, [], [])), (48, 1, .iload_n 2, (.null, 2, 0, [], [])), (49, 1, .aload_n 0, (.null, 0, 0, [], [])), (50, 3, .getfield 25, (.int 0, 6, 4, [], [134])), (53, 3, .invokevirtual 43, (.null, 2, 0, [(2, 7, 4)], [466, 467, 468])), (56, 1, .aload_n 0, (.null, 0, 0, [], [])), (57, 2, .bipush 59, (.int 59, 0, 0, [], [])), (59, 3, .invokevirtual 35, (.null, 1, 1, [(6, 61, 2)], [446, 448, 3])), (62, 1, .ireturn, (.null, 1, 0, [], []))]
def m59 : MI := (yX7_readLaw, cX7_readLaw, 3, (some .boolean), [k59_0, k59_1, k59_2, k59_3, k59_4])
def k60_0 : List Ins := [(0, 1, .aload_n 0, (.null, 0, 0, [], [])), (1, 1, .aload_n 0, (.null, 0, 0, [], [])), (2, 3, .getfield 19, (.int 0, 6, 2, [], [130])), (5, 3, .invokevirtual 49, (.null, 1, 1, [(6, 64, 2)], [450, 452, 4])), (8, 3, .invokestatic 53, (.null, 1, 1, [(0, 66, 1)], [474, 475])), (11, 1, .istore_n 2, (.null, 2, 0, [], [])), (12, 1, .iload_n 2, (.null, 2, 0, [], [])), (13, 3, .ifCond .ne 9, (.null, 1, 7, [], [])), (16, 1, .aload_n 0, (.null, 0, 0, [], [])), (17, 1, .iconst 1, (.int 1, 0, 0, [], [])), (18, 3, .invokevirtual 56, (.null, 1, 1, [(6, 63, 2)], [455, 457, 5])), (21, 1, .ireturn, (.null, 1, 0, [], []))]
def k60_1 : List Ins := [(22, 1, .aload_n 1, (.null, 1, 0, [], [])), (23, 3, .getfield 59, (.int 0, 2, 3, [], [230])), (26, 2, .bipush 6, (.int 6, 0, 0, [], [])), (28, 3, .if_icmp .lt 9, (.null, 2, 7, [], [])), (31, 1, .aload_n 0, (.null, 0, 0, [], [])), (32, 1, .iconst 3, (.int 3, 0, 0, [], [])), (33, 3, .invokevirtual 56, (.null, 1, 1, [(6, 63, 2)], [455, 457, 5])), (36, 1, .ireturn, (.null, 1, 0, [], []))]
def k60_2 : List Ins := [(37, 1, .aload_n 0, (.null, 0, 0, [], [])), (38, 1, .dup, (.null, 0, 0, [], [])), (39, 3, .getfield 19, (.int 0, 6, 2, [], [130])), (42, 1, .iconst 1, (.int 1, 0, 0, [], [])), (43, 1, .iadd, (.null, 0, 0, [], [])), (44, 3, .putfield 19, (.int 0, 6, 2, [], [130])), (47, 1, .aload_n 0, (.null, 0, 0, [], [])), (48, 1, .iconst 0, (.int 0, 0, 0, [], [])), (49, 1, .aload_n 1, (.null, 1, 0, [], [])), (50, 3, .getfield 62, (.int 0, 2, 0, [], [220])), (53, 1, .iconst 1, (.int 1, 0, 0, [], [])), (54, 1, .isub, (.null, 0, 0, [], [])), (55, 3, .invokevirtual 39, (.null, 2, 1, [(6, 62, 5)], [459, 461, 6])), (58, 3, .ifCond .ne 5, (.null, 3, 7, [], [])), (61, 1, .iconst 0, (.int 0, 0, 0, [], [])), (62, 1, .ireturn, (.null, 1, 0, [], []))]
def k60_3 : List Ins := [(63, 1, .aload_n 0, (.null, 0, 0, [], [])), (64, 3, .getfield 25, (.int 0, 6, 4, [], [134])), (67, 1, .istore_n 3, (.null, 3, 0, [], [])), (68, 1, .aload_n 0, (.null, 0, 0, [], [])), (69, 2, .bipush 44, (.int 44, 0, 0, [], [])), (71, 3, .invokevirtual 35, (.null, 1, 1, [(6, 61, 2)], [446, 448, 3])), (74, 3, .ifCond .eq 13, (.null, 4, 0, [], [])), (77, 1, .aload_n 0, (.null, 0, 0, [], [])), (78, 1, .iconst 1, (.int 1, 0, 0, [], [])), (79, 2, .bipush 9, (.int 9, 0, 0, [], [])), (81, 3, .invokevirtual 39, (.null, 2, 1, [(6, 62, 5)], [459, 461, 6])), (84, 3, .ifCond .ne 5, (.null, 5, 15, [], [])), (87, 0, .nop, (.null, 4, 0, [], []))]
def k60_4 : List Ins := [(87, 1, .iconst 0, (.int 0, 0, 0, [], [])), (88, 1, .ireturn, (.null, 1, 0, [], []))]
def k60_5 : List Ins := [(89, 1, .aload_n 0, (.null, 0, 0, [], [])), (90, 3, .getfield 25, (.int 0, 6, 4, [], [134])), (93, 2, .istore 4, (.null, 4, 0, [], [])), (95, 1, .aload_n 0, (.null, 0, 0, [], [])), (96, 2, .bipush 44, (.int 44, 0, 0, [], [])), (98, 3, .invokevirtual 35, (.null, 1, 1, [(6, 61, 2)], [446, 448, 3])), (101, 3, .ifCond .eq 13, (.null, 6, 0, [], [])), (104, 1, .aload_n 0, (.null, 0, 0, [], [])), (105, 1, .iconst 0, (.int 0, 0, 0, [], [])), (106, 2, .bipush 20, (.int 20, 0, 0, [], [])), (108, 3, .invokevirtual 39, (.null, 2, 1, [(6, 62, 5)], [459, 461, 6])), (111, 3, .ifCond .ne 5, (.null, 7, 31, [], [])), (114, 0, .nop, (.null, 6, 0, [], []))]
def k60_6 : List Ins := [(114, 1, .iconst 0, (.int 0, 0, 0, [], [])), (115, 1, .ireturn, (.null, 1, 0, [], []))]
def k60_7 : List Ins := [(116, 1, .aload_n 1, (.null, 1, 0, [], [])), (117, 1, .iload_n 2, (.null, 2, 0, [], [])), (118, 1, .iload_n 3, (.null, 3, 0, [], [])), (119, 2, .iload 4, (.null, 4, 0, [], [])), (121, 1, .aload_n 0, (.null, 0, 0, [], [])), (122, 3, .getfield 25, (.int 0, 6, 4, [], [134])), (125, 3, .invokevirtual 65, (.null, 4, 0, [(2, 8, 6)], [477, 478, 479])), (128, 1, .aload_n 0, (.null, 0, 0, [], [])), (129, 2, .bipush 59, (.int 59, 0, 0, [], [])), (131, 3, .invokevirtual 35, (.null, 1, 1, [(6, 61, 2)], [446, 448, 3])), (134, 1, .ireturn, (.null, 1, 0, [], []))]
def m60 : MI := (yX7_readLetter, cX7_readLetter, 5, (some .boolean), [k60_0, k60_1, k60_2, k60_3, k60_4, k60_5, k60_6, k60_7])
def k61_0 : List Ins := [(0, 1, .aload_n 0, (.null, 0, 0, [], [])), (1, 1, .aload_n 0, (.null, 0, 0, [], [])), (2, 3, .getfield 19, (.int 0, 6, 2, [], [130])), (5, 3, .invokevirtual 49, (.null, 1, 1, [(6, 64, 2)], [450, 452, 4])), (8, 1, .iload_n 1, (.null, 1, 0, [], [])), (9, 3, .if_icmp .eq 9, (.null, 1, 1, [], [])), (12, 1, .aload_n 0, (.null, 0, 0, [], [])), (13, 1, .iconst 1, (.int 1, 0, 0, [], [])), (14, 3, .invokevirtual 56, (.null, 1, 1, [(6, 63, 2)], [455, 457, 5])), (17, 1, .ireturn, (.null, 1, 0, [], []))]
def k61_1 : List Ins := [(18, 1, .aload_n 0, (.null, 0, 0, [], [])), (19, 1, .dup, (.null, 0, 0, [], [])), (20, 3, .getfield 19, (.int 0, 6, 2, [], [130])), (23, 1, .iconst 1, (.int 1, 0, 0, [], [])), (24, 1, .iadd, (.null, 0, 0, [], [])), (25, 3, .putfield 19, (.int 0, 6, 2, [], [130])), (28, 1, .iconst 1, (.int 1, 0, 0, [], [])), (29, 1, .ireturn, (.null, 1, 0, [], []))]
def m61 : MI := (yX7_passSign, cX7_passSign, 2, (some .boolean), [k61_0, k61_1])
def k62_0 : List Ins := [(0, 1, .iconst 0, (.int 0, 0, 0, [], [])), (1, 1, .istore_n 3, (.null, 3, 0, [], [])), (2, 1, .iconst 0, (.int 0, 0, 0, [], [])), (3, 2, .istore 4, (.null, 4, 0, [], [])), (5, 0, .nop, (.null, 1, 31, [], []))]
def k62_1 : List Ins := [(5, 1, .iload_n 3, (.null, 3, 0, [], [])), (6, 1, .iconst 3, (.int 3, 0, 0, [], [])), (7, 3, .if_icmp .ge 46, (.null, 2, 31, [], [])), (10, 1, .aload_n 0, (.null, 0, 0, [], [])), (11, 1, .aload_n 0, (.null, 0, 0, [], [])), (12, 3, .getfield 19, (.int 0, 6, 2, [], [130])), (15, 1, .iload_n 3, (.null, 3, 0, [], [])), (16, 1, .iadd, (.null, 0, 0, [], [])), (17, 3, .invokevirtual 49, (.null, 1, 1, [(6, 64, 2)], [450, 452, 4])), (20, 3, .invokestatic 69, (.null, 1, 1, [(0, 65, 1)], [463, 464])), (23, 3, .ifCond .eq 30, (.null, 2, 31, [], [])), (26, 2, .iload 4, (.null, 4, 0, [], [])), (28, 2, .bipush 10, (.int 10, 0, 0, [], [])), (30, 1, .imul, (.null, 0, 0, [], [])), (31, 1, .aload_n 0, (.null, 0, 0, [], [])), (32, 1, .aload_n 0, (.null, 0, 0, [], [])), (33, 3, .getfield 19, (.int 0, 6, 2, [], [130])), (36, 1, .iload_n 3, (.null, 3, 0, [], [])), (37, 1, .iadd, (.null, 0, 0, [], [])), (38, 3, .invokevirtual 49, (.null, 1, 1, [(6, 64, 2)], [450, 452, 4])), (41, 1, .iadd, (.null, 0, 0, [], [])), (42, 2, .bipush 48, (.int 48, 0, 0, [], [])), (44, 1, .isub, (.null, 0, 0, [], [])), (45, 2, .istore 4, (.null, 4, 0, [], [])), (47, 3, .iinc 3 1, (.int 1, 3, 0, [], [])), (50, 3, .goto (-45), (.int 0, 1, 31, [], []))]
def k62_2 : List Ins := [(53, 1, .iload_n 3, (.null, 3, 0, [], [])), (54, 1, .iconst 1, (.int 1, 0, 0, [], [])), (55, 3, .if_icmp .lt 8, (.null, 3, 1, [], [])), (58, 1, .iload_n 3, (.null, 3, 0, [], [])), (59, 1, .iconst 2, (.int 2, 0, 0, [], [])), (60, 3, .if_icmp .le 9, (.null, 4, 31, [], [])), (63, 0, .nop, (.null, 3, 1, [], []))]
def k62_3 : List Ins := [(63, 1, .aload_n 0, (.null, 0, 0, [], [])), (64, 1, .iconst 1, (.int 1, 0, 0, [], [])), (65, 3, .invokevirtual 56, (.null, 1, 1, [(6, 63, 2)], [455, 457, 5])), (68, 1, .ireturn, (.null, 1, 0, [], []))]
def k62_4 : List Ins := [(69, 2, .iload 4, (.null, 4, 0, [], [])), (71, 1, .iload_n 1, (.null, 1, 0, [], [])), (72, 1, .iload_n 2, (.null, 2, 0, [], [])), (73, 3, .invokestatic 72, (.null, 3, 1, [(1, 118, 3)], [18, 375])), (76, 3, .ifCond .ne 9, (.null, 5, 25, [], [])), (79, 1, .aload_n 0, (.null, 0, 0, [], [])), (80, 1, .iconst 2, (.int 2, 0, 0, [], [])), (81, 3, .invokevirtual 56, (.null, 1, 1, [(6, 63, 2)], [455, 457, 5])), (84, 1, .ireturn, (.null, 1, 0, [], []))]
def k62_5 : List Ins := [(85, 1, .aload_n 0, (.null, 0, 0, [], [])), (86, 2, .iload 4, (.null, 4, 0, [], [])), (88, 3, .putfield 25, (.int 0, 6, 4, [], [134])), (91, 1, .aload_n 0, (.null, 0, 0, [], [])), (92, 1, .dup, (.null, 0, 0, [], [])), (93, 3, .getfield 19, (.int 0, 6, 2, [], [130])), (96, 1, .iload_n 3, (.null, 3, 0, [], [])), (97, 1, .iadd, (.null, 0, 0, [], [])), (98, 3, .putfield 19, (.int 0, 6, 2, [], [130])), (101, 1, .iconst 1, (.int 1, 0, 0, [], [])), (102, 1, .ireturn, (.null, 1, 0, [], []))]
def m62 : MI := (yX7_passNumber, cX7_passNumber, 5, (some .boolean), [k62_0, k62_1, k62_2, k62_3, k62_4, k62_5])
def k63_0 : List Ins := [(0, 1, .aload_n 0, (.null, 0, 0, [], [])), (1, 1, .iload_n 1, (.null, 1, 0, [], [])), (2, 3, .putfield 22, (.int 0, 6, 3, [], [132])), (5, 1, .iconst 0, (.int 0, 0, 0, [], [])), (6, 1, .ireturn, (.null, 1, 0, [], []))]
def m63 : MI := (yX7_fails, cX7_fails, 2, (some .boolean), [k63_0])
def k64_0 : List Ins := [(0, 1, .iload_n 1, (.null, 1, 0, [], [])), (1, 1, .iconst 0, (.int 0, 0, 0, [], [])), (2, 1, .aload_n 0, (.null, 0, 0, [], [])), (3, 3, .getfield 15, (.int 0, 6, 1, [], [128])), (6, 1, .iconst 1, (.int 1, 0, 0, [], [])), (7, 1, .isub, (.null, 0, 0, [], [])), (8, 3, .invokestatic 72, (.null, 3, 1, [(1, 118, 3)], [18, 375])), (11, 3, .ifCond .eq 12, (.null, 1, 0, [], [])), (14, 1, .aload_n 0, (.null, 0, 0, [], [])), (15, 3, .getfield 9, (.null, 6, 0, [], [127])), (18, 1, .iload_n 1, (.null, 1, 0, [], [])), (19, 1, .iaload, (.null, 0, 0, [], [])), (20, 3, .goto 4, (.null, 0, 0, [], [])), (24, 1, .ireturn, (.null, 0, 0, [], []))]
def k64_1 : List Ins := [(23, 1, .iconst (-1), (.int (-1), 0, 0, [], [])), (24, 1, .ireturn, (.null, 0, 0, [], []))]
def m64 : MI := (yX7_byteAt, cX7_byteAt, 2, (some .int), [k64_0, k64_1])
def k65_0 : List Ins := [(0, 1, .iload_n 0, (.null, 0, 0, [], [])), (1, 2, .bipush 48, (.int 48, 0, 0, [], [])), (3, 2, .bipush 57, (.int 57, 0, 0, [], [])), (5, 3, .invokestatic 72, (.null, 3, 1, [(1, 118, 3)], [18, 375])), (8, 1, .ireturn, (.null, 1, 0, [], []))]
def m65 : MI := (yX7_isFigure, cX7_isFigure, 1, (some .boolean), [k65_0])
def k66_0 : List Ins := [(0, 1, .iload_n 0, (.null, 0, 0, [], [])), (1, 51, .lookupswitch 61 #[(99, 51), (108, 55), (112, 57), (114, 59), (115, 53)], (.null, 6, 0, [(99, 1, 0), (108, 3, 0), (112, 4, 0), (114, 5, 0), (115, 2, 0)], []))]
def k66_1 : List Ins := [(52, 1, .iconst 1, (.int 1, 0, 0, [], [])), (53, 1, .ireturn, (.null, 0, 0, [], []))]
def k66_2 : List Ins := [(54, 1, .iconst 2, (.int 2, 0, 0, [], [])), (55, 1, .ireturn, (.null, 0, 0, [], []))]
def k66_3 : List Ins := [(56, 1, .iconst 3, (.int 3, 0, 0, [], [])), (57, 1, .ireturn, (.null, 0, 0, [], []))]
def k66_4 : List Ins := [(58, 1, .iconst 4, (.int 4, 0, 0, [], [])), (59, 1, .ireturn, (.null, 0, 0, [], []))]
def k66_5 : List Ins := [(60, 1, .iconst 5, (.int 5, 0, 0, [], [])), (61, 1, .ireturn, (.null, 0, 0, [], []))]
def k66_6 : List Ins := [(62, 1, .iconst 0, (.int 0, 0, 0, [], [])), (63, 1, .ireturn, (.null, 0, 0, [], []))]
def m66 : MI := (yX7_kindBySign, cX7_kindBySign, 1, (some .int), [k66_0, k66_1, k66_2, k66_3, k66_4, k66_5, k66_6])
def k67_0 : List Ins := [(0, 1, .aload_n 0, (.null, 0, 0, [], [])), (1, 3, .invokespecial 1, (.null, 0, 0, [(1, 53, 1)], [13, 202])), (4, 1, .return_, (.null, 0, 0, [], []))]
def m67 : MI := (yX8_init, cX8_init, 1, none, [k67_0])
def k68_0 : List Ins := [(0, 1, .aload_n 1, (.null, 1, 0, [], [])), (1, 2, .bipush 14, (.int 14, 0, 0, [], [])), (3, 3, .invokevirtual 7, (.null, 1, 0, [(0, 2, 2)], [877, 845, 846])), (6, 1, .iconst 2, (.int 2, 0, 0, [], [])), (7, 1, .aload_n 0, (.null, 0, 0, [], [])), (8, 1, .aload_n 1, (.null, 1, 0, [], [])), (9, 3, .invokespecial 13, (.null, 1, 1, [(2, 54, 2)], [878, 870, 1413, 212])), (12, 1, .imul, (.null, 0, 0, [], [])), (13, 1, .ireturn, (.null, 0, 0, [], []))]
def m68 : MI := (yX8_sizeFor, cX8_sizeFor, 2, (some .int), [k68_0])
def k69_0 : List Ins := [(0, 1, .aload_n 0, (.null, 0, 0, [], [])), (1, 3, .invokespecial 3, (.null, 0, 0, [], [105, 98, 99])), (4, 1, .aload_n 0, (.null, 0, 0, [], [])), (5, 2, .bipush 8, (.int 8, 0, 0, [], [])), (7, 2, .newarray .int, (.null, 0, 0, [], [120])), (9, 3, .putfield 9, (.null, 8, 0, [], [108])), (12, 1, .aload_n 0, (.null, 0, 0, [], [])), (13, 2, .bipush 8, (.int 8, 0, 0, [], [])), (15, 2, .newarray .int, (.null, 0, 0, [], [120])), (17, 3, .putfield 15, (.null, 8, 1, [], [110])), (20, 1, .aload_n 0, (.null, 0, 0, [], [])), (21, 2, .bipush 8, (.int 8, 0, 0, [], [])), (23, 2, .bipush 40, (.int 40, 0, 0, [], [])), (25, 4, .multianewarray 18 2, (.null, 0, 0, [], [106, 0, 120])), (29, 3, .putfield 20, (.null, 8, 2, [], [111])), (32, 1, .iconst 0, (.int 0, 0, 0, [], [])), (33, 1, .istore_n 1, (.null, 1, 0, [], [])), (34, 0, .nop, (.null, 1, 3, [], []))]
def k69_1 : List Ins := [(34, 1, .iload_n 1, (.null, 1, 0, [], [])), (35, 2, .bipush 8, (.int 8, 0, 0, [], [])), (37, 3, .if_icmp .ge 16, (.null, 2, 0, [], [])), (40, 1, .aload_n 0, (.null, 0, 0, [], [])), (41, 3, .getfield 9, (.null, 8, 0, [], [108])), (44, 1, .iload_n 1, (.null, 1, 0, [], [])), (45, 1, .iconst (-1), (.int (-1), 0, 0, [], [])), (46, 1, .iastore, (.null, 0, 0, [], [])), (47, 3, .iinc 1 1, (.int 1, 1, 0, [], [])), (50, 3, .goto (-16), (.int 0, 1, 3, [], []))]
def k69_2 : List Ins := [(53, 1, .return_, (.null, 0, 0, [], []))]
def m69 : MI := (yX9_init, cX9_init, 2, none, [k69_0, k69_1, k69_2])
def k70_0 : List Ins := [(0, 1, .aload_n 0, (.null, 0, 0, [], [])), (1, 3, .getfield 9, (.null, 8, 0, [], [108])), (4, 1, .iload_n 1, (.null, 1, 0, [], [])), (5, 1, .iaload, (.null, 0, 0, [], [])), (6, 1, .iconst (-1), (.int (-1), 0, 0, [], [])), (7, 3, .if_icmp .ne 7, (.null, 1, 0, [], [])), (10, 1, .iconst 1, (.int 1, 0, 0, [], [])), (11, 3, .goto 4, (.null, 0, 0, [], [])), (15, 1, .ireturn, (.null, 1, 0, [], []))]
def k70_1 : List Ins := [(14, 1, .iconst 0, (.int 0, 0, 0, [], [])), (15, 1, .ireturn, (.null, 1, 0, [], []))]
def m70 : MI := (yX9_isMissing, cX9_isMissing, 2, (some .boolean), [k70_0, k70_1])
def k71_0 : List Ins := [(0, 1, .iload_n 2, (.null, 2, 0, [], [])), (1, 3, .ifCond .lt 27, (.null, 1, 0, [], [])), (4, 1, .iload_n 3, (.null, 3, 0, [], [])), (5, 3, .ifCond .lt 23, (.null, 1, 0, [], [])), (8, 1, .iload_n 2, (.null, 2, 0, [], [])), (9, 1, .i2l, (.null, 0, 0, [], [])), (10, 1, .iload_n 3, (.null, 3, 0, [], [])), (11, 1, .i2l, (.null, 0, 0, [], [])), (12, 1, .ladd, (.null, 0, 0, [], [])), (13, 1, .aload_n 0, (.null, 0, 0, [], [])), (14, 3, .getfield 15, (.null, 8, 1, [], [110])), (17, 1, .iload_n 1, (.null, 1, 0, [], [])), (18, 1, .iaload, (.null, 0, 0, [], [])), (19, 1, .i2l, (.null, 0, 0, [], [])), (20, 1, .lcmp, (.null, 0, 0, [], [])), (21, 3, .ifCond .gt 7, (.null, 1, 0, [], [])), (24, 1, .iconst 1, (.int 1, 0, 0, [], [])), (25, 3, .goto 4, (.null, 0, 0, [], [])), (29, 1, .ireturn, (.null, 1, 0, [], []))]
def k71_1 : List Ins := [(28, 1, .iconst 0, (.int 0, 0, 0, [], [])), (29, 1, .ireturn, (.null, 1, 0, [], []))]
def m71 : MI := (yX9_reaches, cX9_reaches, 4, (some .boolean), [k71_0, k71_1])
def k72_0 : List Ins := [(0, 1, .aload_n 0, (.null, 0, 0, [], [])), (1, 3, .getfield 9, (.null, 8, 0, [], [108])), (4, 1, .iload_n 1, (.null, 1, 0, [], [])), (5, 1, .iload_n 2, (.null, 2, 0, [], [])), (6, 1, .iastore, (.null, 0, 0, [], [])), (7, 1, .aload_n 0, (.null, 0, 0, [], [])), (8, 3, .getfield 15, (.null, 8, 1, [], [110])), (11, 1, .iload_n 1, (.null, 1, 0, [], [])), (12, 1, .iload_n 3, (.null, 3, 0, [], [])), (13, 1, .iastore, (.null, 0, 0, [], [])), (14, 1, .iconst 0, (.int 0, 0, 0, [], [])), (15, 2, .istore 4, (.null, 4, 0, [], [])), (17, 0, .nop, (.null, 1, 27, [], []))]
def k72_1 : List Ins := [(17, 2, .iload 4, (.null, 4, 0, [], [])), (19, 1, .iload_n 3, (.null, 3, 0, [], [])), (20, 3, .if_icmp .ge 19, (.null, 2, 0, [], [])), (23, 1, .aload_n 0, (.null, 0, 0, [], [])), (24, 3, .getfield 20, (.null, 8, 2, [], [111])), (27, 1, .iload_n 1, (.null, 1, 0, [], [])), (28, 1, .aaload, (.null, 3, 0, [], [])), (29, 2, .iload 4, (.null, 4, 0, [], [])), (31, 1, .iconst 0, (.int 0, 0, 0, [], [])), (32, 1, .iastore, (.null, 0, 0, [], [])), (33, 3, .iinc 4 1, (.int 1, 4, 0, [], [])), (36, 3, .goto (-19), (.int 0, 1, 27, [], []))]
def k72_2 : List Ins := [(39, 1, .return_, (.null, 0, 0, [], []))]
def m72 : MI := (yX9_make, cX9_make, 5, none, [k72_0, k72_1, k72_2])
def k73_0 : List Ins := [(0, 1, .aload_n 0, (.null, 0, 0, [], [])), (1, 3, .getfield 20, (.null, 8, 2, [], [111])), (4, 1, .iload_n 1, (.null, 1, 0, [], [])), (5, 1, .aaload, (.null, 3, 0, [], [])), (6, 1, .iload_n 2, (.null, 2, 0, [], [])), (7, 1, .aload_n 0, (.null, 0, 0, [], [])), (8, 3, .getfield 9, (.null, 8, 0, [], [108])), (11, 1, .iload_n 1, (.null, 1, 0, [], [])), (12, 1, .iaload, (.null, 0, 0, [], [])), (13, 1, .iload_n 3, (.null, 3, 0, [], [])), (14, 3, .invokestatic 23, (.null, 2, 1, [(0, 76, 2)], [407, 408])), (17, 1, .iastore, (.null, 0, 0, [], [])), (18, 1, .aload_n 0, (.null, 0, 0, [], [])), (19, 3, .getfield 20, (.null, 8, 2, [], [111])), (22, 1, .iload_n 1, (.null, 1, 0, [], [])), (23, 1, .aaload, (.null, 3, 0, [], [])), (24, 1, .iload_n 2, (.null, 2, 0, [], [])), (25, 1, .iaload, (.null, 0, 0, [], [])), (26, 1, .ireturn, (.null, 0, 0, [], []))]
def m73 : MI := (yX9_put, cX9_put, 4, (some .int), [k73_0])
def k74_0 : List Ins := [(0, 1, .aload_n 0, (.null, 0, 0, [], [])), (1, 3, .getfield 9, (.null, 8, 0, [], [108])), (4, 1, .iload_n 1, (.null, 1, 0, [], [])), (5, 1, .iconst (-1), (.int (-1), 0, 0, [], [])), (6, 1, .iastore, (.null, 0, 0, [], [])), (7, 1, .aload_n 0, (.null, 0, 0, [], [])), (8, 3, .getfield 15, (.null, 8, 1, [], [110])), (11, 1, .iload_n 1, (.null, 1, 0, [], [])), (12, 1, .iaload, (.null, 0, 0, [], [])), (13, 1, .ireturn, (.null, 0, 0, [], []))]
def m74 : MI := (yX9_remove, cX9_remove, 2, (some .int), [k74_0])
def k75_0 : List Ins := [(0, 1, .iconst 0, (.int 0, 0, 0, [], [])), (1, 1, .istore_n 1, (.null, 1, 0, [], [])), (2, 1, .iconst 0, (.int 0, 0, 0, [], [])), (3, 1, .istore_n 2, (.null, 2, 0, [], [])), (4, 0, .nop, (.null, 1, 7, [], []))]
def k75_1 : List Ins := [(4, 1, .iload_n 2, (.null, 2, 0, [], [])), (5, 2, .bipush 8, (.int 8, 0, 0, [], [])), (7, 3, .if_icmp .ge 20, (.null, 3, 2, [], [])), (10, 1, .aload_n 0, (.null, 0, 0, [], [])), (11, 1, .iload_n 2, (.null, 2, 0, [], [])), (12, 3, .invokevirtual 27, (.null, 1, 1, [(8, 70, 2)], [901, 396, 397])), (15, 3, .ifCond .ne 6, (.null, 2, 7, [], [])), (18, 3, .iinc 1 1, (.int 1, 1, 0, [], [])), (21, 0, .nop, (.null, 2, 7, [], []))]
def k75_2 : List Ins := [(21, 3, .iinc 2 1, (.int 1, 2, 0, [], [])), (24, 3, .goto (-20), (.int 0, 1, 7, [], []))]
def k75_3 : List Ins := [(27, 1, .iload_n 1, (.null, 1, 0, [], [])), (28, 1, .ireturn, (.null, 0, 0, [], []))]
def m75 : MI := (yX9_rowsThere, cX9_rowsThere, 3, (some .int), [k75_0, k75_1, k75_2, k75_3])
def k76_0 : List Ins := [(0, 1, .iload_n 0, (.null, 0, 0, [], [])), (1, 3, .ifCond .ne 6, (.null, 1, 3, [], [])), (4, 1, .iload_n 1, (.null, 1, 0, [], [])), (5, 1, .i2b, (.null, 0, 0, [], [])), (6, 1, .ireturn, (.null, 0, 0, [], []))]
def k76_1 : List Ins := [(7, 1, .iload_n 0, (.null, 0, 0, [], [])), (8, 1, .iconst 1, (.int 1, 0, 0, [], [])), (9, 3, .if_icmp .ne 8, (.null, 2, 2, [], [])), (12, 1, .iload_n 1, (.null, 1, 0, [], [])), (13, 1, .i2s, (.null, 0, 0, [], [])), (14, 3, .goto 4, (.null, 0, 0, [], [])), (18, 1, .ireturn, (.null, 0, 0, [], []))]
def k76_2 : List Ins := [(17, 1, .iload_n 1, (.null, 1, 0, [], [])), (18, 1, .ireturn, (.null, 0, 0, [], []))]
def m76 : MI := (yX9_cutTo, cX9_cutTo, 2, (some .int), [k76_0, k76_1, k76_2])
def k77_0 : List Ins := [(0, 1, .aload_n 0, (.null, 0, 0, [], [])), (1, 3, .invokespecial 1, (.null, 0, 0, [(1, 3, 1)], [7, 178])), (4, 1, .return_, (.null, 0, 0, [], []))]
def m77 : MI := (yX10_init, cX10_init, 1, none, [k77_0])
def k78_0 : List Ins := [(0, 1, .aload_n 1, (.null, 1, 0, [], [])), (1, 2, .bipush 12, (.int 12, 0, 0, [], [])), (3, 3, .invokevirtual 7, (.null, 1, 0, [(0, 2, 2)], [861, 845, 846])), (6, 1, .iconst 0, (.int 0, 0, 0, [], [])), (7, 1, .aload_n 0, (.null, 0, 0, [], [])), (8, 1, .aload_n 1, (.null, 1, 0, [], [])), (9, 3, .invokespecial 13, (.null, 1, 1, [(2, 4, 3)], [882, 842, 1414, 191])), (12, 1, .isub, (.null, 0, 0, [], [])), (13, 1, .ireturn, (.null, 0, 0, [], []))]
def m78 : MI := (yX10_sizeFor, cX10_sizeFor, 2, (some .int), [k78_0])
def k79_0 : List Ins := [(0, 1, .aload_n 1, (.null, 1, 0, [], [])), (1, 2, .bipush 24, (.int 24, 0, 0, [], [])), (3, 3, .invokevirtual 7, (.null, 1, 0, [(0, 2, 2)], [861, 845, 846])), (6, 1, .iconst 2, (.int 2, 0, 0, [], [])), (7, 1, .aload_n 0, (.null, 0, 0, [], [])), (8, 1, .aload_n 1, (.null, 1, 0, [], [])), (9, 3, .invokespecial 17, (.null, 1, 1, [(2, 5, 2)], [862, 850, 852, 191])), (12, 1, .imul, (.null, 0, 0, [], [])), (13, 1, .ireturn, (.null, 0, 0, [], []))]
def m79 : MI := (yX10_markFor, cX10_markFor, 2, (some .int), [k79_0])
def k80_0 : List Ins := [(0, 1, .aload_n 0, (.null, 0, 0, [], [])), (1, 3, .invokespecial 3, (.null, 0, 0, [], [97, 98, 99])), (4, 1, .aload_n 0, (.null, 0, 0, [], [])), (5, 3, .new 9, (.null, 8, 0, [(1, 0, 0), (1, 0, 0), (1, 0, 0)], [100, 101, 77])), (8, 1, .dup, (.null, 0, 0, [], [])), (9, 3, .invokespecial 11, (.null, 0, 0, [(0, 69, 2)], [102, 103])), (12, 3, .putfield 12, (.null, 10, 0, [], [327])), (15, 1, .aload_n 0, (.null, 0, 0, [], [])), (16, 3, .new 16, (.null, 6, 0, [(1, 0, 0), (0, 0, 0), (0, 0, 0), (0, 0, 0), (0, 0, 0)], [121, 122, 78])), (19, 1, .dup, (.null, 0, 0, [], [])), (20, 3, .invokespecial 18, (.null, 0, 0, [(1, 56, 1)], [1, 124])), (23, 3, .putfield 19, (.null, 10, 1, [], [328])), (26, 1, .aload_n 0, (.null, 0, 0, [], [])), (27, 3, .new 23, (.null, 0, 0, [(1, 0, 0), (0, 0, 0), (0, 0, 0), (0, 0, 0), (0, 0, 0)], [146, 147, 79])), (30, 1, .dup, (.null, 0, 0, [], [])), (31, 3, .invokespecial 25, (.null, 0, 0, [(1, 0, 1)], [2, 149])), (34, 3, .putfield 26, (.null, 10, 2, [], [329])), (37, 1, .aload_n 0, (.null, 0, 0, [], [])), (38, 1, .iconst 5, (.int 5, 0, 0, [], [])), (39, 3, .anewarray 30, (.null, 2, 0, [], [173, 3])), (42, 1, .dup, (.null, 0, 0, [], [])), (43, 1, .iconst 0, (.int 0, 0, 0, [], [])), (44, 3, .new 32, (.null, 1, 0, [], [175, 176, 81])), (47, 1, .dup, (.null, 0, 0, [], [])), (48, 3, .invokespecial 34, (.null, 0, 0, [(1, 3, 1)], [4, 178])), (51, 1, .aastore, (.null, 2, 0, [(1, 22, 0), (9, 23, 0), (3, 24, 0), (5, 25, 0), (7, 26, 0)], [])), (52, 1, .dup, (.null, 0, 0, [], [])), (53, 1, .iconst 1, (.int 1, 0, 0, [], [])), (54, 3, .new 35, (.null, 9, 0, [], [185, 186, 82])), (57, 1, .dup, (.null, 0, 0, [], [])), (58, 3, .invokespecial 37, (.null, 0, 0, [(1, 77, 1)], [6, 188])), (61, 1, .aastore, (.null, 2, 0, [(1, 22, 0), (9, 23, 0), (3, 24, 0), (5, 25, 0), (7, 26, 0)], [])), (62, 1, .dup, (.null, 0, 0, [], [])), (63, 1, .iconst 2, (.int 2, 0, 0, [], [])), (64, 3, .new 38, (.null, 3, 0, [], [192, 193, 83])), (67, 1, .dup, (.null, 0, 0, [], [])), (68, 3, .invokespecial 40, (.null, 0, 0, [(1, 29, 1)], [8, 195])), (71, 1, .aastore, (.null, 2, 0, [(1, 22, 0), (9, 23, 0), (3, 24, 0), (5, 25, 0), (7, 26, 0)], [])), (72, 1, .dup, (.null, 0, 0, [], [])), (73, 1, .iconst 3, (.int 3, 0, 0, [], [])), (74, 3, .new 41, (.null, 5, 0, [], [199, 200, 84])), (77, 1, .dup, (.null, 0, 0, [], [])), (78, 3, .invokespecial 43, (.null, 0, 0, [(1, 53, 1)], [10, 202])), (81, 1, .aastore, (.null, 2, 0, [(1, 22, 0), (9, 23, 0), (3, 24, 0), (5, 25, 0), (7, 26, 0)], [])), (82, 1, .dup, (.null, 0, 0, [], [])), (83, 1, .iconst 4, (.int 4, 0, 0, [], [])), (84, 3, .new 44, (.null, 7, 0, [], [206, 207, 85])), (87, 1, .dup, (.null, 0, 0, [], [])), (88, 3, .invokespecial 46, (.null, 0, 0, [(1, 67, 1)], [12, 209])), (91, 1, .aastore, (.null, 2, 0, [(1, 22, 0), (9, 23, 0), (3, 24, 0), (5, 25, 0), (7, 26, 0)], [])), (92, 3, .putfield 47, (.null, 10, 3, [], [330])), (95, 1, .aload_n 0, (.null, 0, 0, [], [])), (96, 3, .new 51, (.null, 2, 0, [(0, 0, 0), (0, 0, 0), (0, 0, 0), (0, 0, 0), (0, 0, 0), (1, 0, 0), (1, 0, 0), (1, 0, 0), (1, 0, 0), (1, 0, 0), (1, 0, 0), (1, 0, 0), (1, 0, 0), (1, 0, 0), (1, 0, 0)], [213, 214, 86])), (99, 1, .dup, (.null, 0, 0, [], [])), (100, 3, .invokespecial 53, (.null, 0, 0, [(1, 6, 1)], [14, 216])), (103, 3, .putfield 54, (.null, 10, 4, [], [331])), (106, 1, .aload_n 0, (.null, 0, 0, [], [])), (107, 3, .new 51, (.null, 2, 0, [(0, 0, 0), (0, 0, 0), (0, 0, 0), (0, 0, 0), (0, 0, 0), (1, 0, 0), (1, 0, 0), (1, 0, 0), (1, 0, 0), (1, 0, 0), (1, 0, 0), (1, 0, 0), (1, 0, 0), (1, 0, 0), (1, 0, 0)], [213, 214, 86])), (110, 1, .dup, (.null, 0, 0, [], [])), (111, 3, .invokespecial 53, (.null, 0, 0, [(1, 6, 1)], [14, 216])), (114, 3, .putfield 58, (.null, 10, 5, [], [332])), (117, 1, .aload_n 0, (.null, 0, 0, [], [])), (118, 3, .new 61, (.null, 4, 0, [(1, 0, 0), (1, 0, 0), (1, 0, 0), (1, 0, 0), (0, 0, 0), (0, 0, 0), (1, 0, 0), (0, 0, 0)], [291, 292, 87])), (121, 1, .dup, (.null, 0, 0, [], [])), (122, 3, .invokespecial 63, (.null, 0, 0, [(1, 31, 1)], [15, 294])), (125, 3, .putfield 64, (.null, 10, 6, [], [333])), (128, 1, .aload_n 0, (.null, 0, 0, [], [])), (129, 2, .bipush 24, (.int 24, 0, 0, [], [])), (131, 3, .anewarray 51, (.null, 1, 0, [], [213, 17])), (134, 3, .putfield 68, (.null, 10, 7, [], [334])), (137, 1, .aload_n 0, (.null, 0, 0, [], [])), (138, 1, .iconst 2, (.int 2, 0, 0, [], [])), (139, 3, .anewarray 51, (.null, 1, 0, [], [213, 17])), (142, 3, .putfield 72, (.null, 10, 8, [], [335])), (145, 1, .aload_n 0, (.null, 0, 0, [], [])), (146, 1, .iconst 0, (.int 0, 0, 0, [], [])), (147, 3, .putfield 75, (.int 0, 10, 9, [], [336])), (150, 1, .aload_n 0, (.null, 0, 0, [], [])), (151, 1, .iconst 0, (.int 0, 0, 0, [], [])), (152, 3, .putfield 79, (.int 0, 10, 10, [], [337])), (155, 1, .aload_n 0, (.null, 0, 0, [], [])), (156, 1, .iconst 0, (.int 0, 0, 0, [], [])), (157, 3, .putfield 82, (.int 0, 10, 11, [], [338])), (160, 1, .aload_n 0, (.null, 0, 0, [], [])), (161, 1, .iconst 0, (.int 0, 0, 0, [], [])), (162, 3, .putfield 85, (.int 0, 10, 12, [], [339])), (165, 1, .iconst 0, (.int 0, 0, 0, [], [])), (166, 1, .istore_n 1, (.null, 1, 0, [], [])), (167, 0, .nop, (.null, 1, 3, [], []))]
def k80_1 : List Ins := [(167, 1, .iload_n 1, (.null, 1, 0, [], [])), (168, 2, .bipush 24, (.int 24, 0, 0, [], [])), (170, 3, .if_icmp .ge 22, (.null, 2, 1, [], [])), (173, 1, .aload_n 0, (.null, 0, 0, [], [])), (174, 3, .getfield 68, (.null, 10, 7, [], [334])), (177, 1, .iload_n 1, (.null, 1, 0, [], [])), (178, 3, .new 51, (.null, 2, 0, [(0, 0, 0), (0, 0, 0), (0, 0, 0), (0, 0, 0), (0, 0, 0), (1, 0, 0), (1, 0, 0), (1, 0, 0), (1, 0, 0), (1, 0, 0), (1, 0, 0), (1, 0, 0), (1, 0, 0), (1, 0, 0), (1, 0, 0)], [213, 214, 86])), (181, 1, .dup, (.null, 0, 0, [], [])), (182, 3, .invokespecial 53, (.null, 0, 0, [(1, 6, 1)], [14, 216])), (185, 1, .aastore, (.null, 1, 0, [(2, 0, 0)], [])), (186, 3, .iinc 1 1, (.int 1, 1, 0, [], [])), (189, 3, .goto (-22), (.int 0, 1, 3, [], []))]
def k80_2 : List Ins := [(192, 1, .iconst 0, (.int 0, 0, 0, [], [])), (193, 1, .istore_n 1, (.null, 1, 0, [], [])), (194, 0, .nop, (.null, 3, 3, [], []))]
def k80_3 : List Ins := [(194, 1, .iload_n 1, (.null, 1, 0, [], [])), (195, 1, .iconst 2, (.int 2, 0, 0, [], [])), (196, 3, .if_icmp .ge 22, (.null, 4, 0, [], [])), (199, 1, .aload_n 0, (.null, 0, 0, [], [])), (200, 3, .getfield 72, (.null, 10, 8, [], [335])), (203, 1, .iload_n 1, (.null, 1, 0, [], [])), (204, 3, .new 51, (.null, 2, 0, [(0, 0, 0), (0, 0, 0), (0, 0, 0), (0, 0, 0), (0, 0, 0), (1, 0, 0), (1, 0, 0), (1, 0, 0), (1, 0, 0), (1, 0, 0), (1, 0, 0), (1, 0, 0), (1, 0, 0), (1, 0, 0), (1, 0, 0)], [213, 214, 86])), (207, 1, .dup, (.null, 0, 0, [], [])), (208, 3, .invokespecial 53, (.null, 0, 0, [(1, 6, 1)], [14, 216])), (211, 1, .aastore, (.null, 1, 0, [(2, 0, 0)], [])), (212, 3, .iinc 1 1, (.int 1, 1, 0, [], [])), (215, 3, .goto (-21), (.int 0, 3, 3, [], []))]
def k80_4 : List Ins := [(218, 1, .return_, (.null, 0, 0, [], []))]
def m80 : MI := (yX11_init, cX11_init, 2, none, [k80_0, k80_1, k80_2, k80_3, k80_4])
def k81_0 : List Ins := [(0, 1, .iload_n 1, (.null, 1, 0, [], [])), (1, 3, .invokestatic 88, (.null, 1, 1, [(0, 119, 1)], [371, 372])), (4, 3, .ifCond .eq 18, (.null, 1, 0, [], [])), (7, 1, .iload_n 2, (.null, 2, 0, [], [])), (8, 1, .iconst 0, (.int 0, 0, 0, [], [])), (9, 1, .iconst 2, (.int 2, 0, 0, [], [])), (10, 3, .invokestatic 92, (.null, 3, 1, [(0, 118, 3)], [374, 375])), (13, 3, .ifCond .eq 9, (.null, 1, 0, [], [])), (16, 1, .iload_n 3, (.null, 3, 0, [], [])), (17, 2, .bipush 40, (.int 40, 0, 0, [], [])), (19, 3, .if_icmp .le 6, (.null, 2, 15, [], [])), (22, 0, .nop, (.null, 1, 0, [], []))]
def k81_1 : List Ins := [(22, 2, .ldc 96, (.int (-1000001), 0, 0, [], [377])), (24, 1, .ireturn, (.null, 0, 0, [], []))]
def k81_2 : List Ins := [(25, 1, .iload_n 3, (.null, 3, 0, [], [])), (26, 3, .ifCond .ge 9, (.null, 3, 15, [], [])), (29, 1, .aload_n 0, (.null, 0, 0, [], [])), (30, 1, .iconst 4, (.int 4, 0, 0, [], [])), (31, 3, .invokevirtual 97, (.null, 1, 1, [(10, 123, 2)], [378, 380, 0])), (34, 1, .ireturn, (.null, 0, 0, [], []))]
def k81_3 : List Ins := [(35, 1, .aload_n 0, (.null, 0, 0, [], [])), (36, 3, .getfield 12, (.null, 10, 0, [], [327])), (39, 1, .iload_n 1, (.null, 1, 0, [], [])), (40, 1, .iload_n 2, (.null, 2, 0, [], [])), (41, 1, .iload_n 3, (.null, 3, 0, [], [])), (42, 3, .invokevirtual 101, (.null, 3, 0, [(8, 72, 5)], [383, 384, 385])), (45, 1, .aload_n 0, (.null, 0, 0, [], [])), (46, 1, .iload_n 3, (.null, 3, 0, [], [])), (47, 3, .invokevirtual 105, (.null, 1, 1, [(10, 124, 2)], [387, 389, 1])), (50, 1, .ireturn, (.null, 0, 0, [], []))]
def m81 : MI := (yX11_row, cX11_row, 4, (some .int), [k81_0, k81_1, k81_2, k81_3])
def k82_0 : List Ins := [(0, 1, .iload_n 1, (.null, 1, 0, [], [])), (1, 3, .invokestatic 88, (.null, 1, 1, [(0, 119, 1)], [371, 372])), (4, 3, .ifCond .ne 6, (.null, 1, 15, [], [])), (7, 2, .ldc 96, (.int (-1000001), 0, 0, [], [377])), (9, 1, .ireturn, (.null, 0, 0, [], []))]
def k82_1 : List Ins := [(10, 1, .aload_n 0, (.null, 0, 0, [], [])), (11, 3, .getfield 12, (.null, 10, 0, [], [327])), (14, 1, .iload_n 1, (.null, 1, 0, [], [])), (15, 3, .invokevirtual 108, (.null, 1, 1, [(8, 70, 2)], [395, 396, 397])), (18, 3, .ifCond .eq 9, (.null, 2, 15, [], [])), (21, 1, .aload_n 0, (.null, 0, 0, [], [])), (22, 1, .iconst 1, (.int 1, 0, 0, [], [])), (23, 3, .invokevirtual 97, (.null, 1, 1, [(10, 123, 2)], [378, 380, 0])), (26, 1, .ireturn, (.null, 0, 0, [], []))]
def k82_2 : List Ins := [(27, 1, .aload_n 0, (.null, 0, 0, [], [])), (28, 3, .getfield 12, (.null, 10, 0, [], [327])), (31, 1, .iload_n 1, (.null, 1, 0, [], [])), (32, 1, .iload_n 2, (.null, 2, 0, [], [])), (33, 1, .iconst 1, (.int 1, 0, 0, [], [])), (34, 3, .invokevirtual 111, (.null, 3, 1, [(8, 71, 4)], [399, 400, 401])), (37, 3, .ifCond .ne 9, (.null, 3, 15, [], [])), (40, 1, .aload_n 0, (.null, 0, 0, [], [])), (41, 1, .iconst 2, (.int 2, 0, 0, [], [])), (42, 3, .invokevirtual 97, (.null, 1, 1, [(10, 123, 2)], [378, 380, 0])), (45, 1, .ireturn, (.null, 0, 0, [], []))]
def k82_3 : List Ins := [(46, 1, .aload_n 0, (.null, 0, 0, [], [])), (47, 1, .aload_n 0, (.null, 0, 0, [], [])), (48, 3, .getfield 12, (.null, 10, 0, [], [327])), (51, 1, .iload_n 1, (.null, 1, 0, [], [])), (52, 1, .iload_n 2, (.null, 2, 0, [], [])), (53, 1, .iload_n 3, (.null, 3, 0, [], [])), (54, 3, .invokevirtual 114, (.null, 3, 1, [(8, 73, 4)], [403, 404, 405])), (57, 3, .invokevirtual 105, (.null, 1, 1, [(10, 124, 2)], [387, 389, 1])), (60, 1, .ireturn, (.null, 0, 0, [], []))]
def m82 : MI := (yX11_set, cX11_set, 4, (some .int), [k82_0, k82_1, k82_2, k82_3])
def k83_0 : List Ins := [(0, 1, .iload_n 1, (.null, 1, 0, [], [])), (1, 3, .invokestatic 88, (.null, 1, 1, [(0, 119, 1)], [371, 372])), (4, 3, .ifCond .eq 10, (.null, 1, 0, [], [])), (7, 1, .iload_n 3, (.null, 3, 0, [], [])), (8, 3, .invokestatic 88, (.null, 1, 1, [(0, 119, 1)], [371, 372])), (11, 3, .ifCond .ne 6, (.null, 2, 63, [], [])), (14, 0, .nop, (.null, 1, 0, [], []))]
def k83_1 : List Ins := [(14, 2, .ldc 96, (.int (-1000001), 0, 0, [], [377])), (16, 1, .ireturn, (.null, 0, 0, [], []))]
def k83_2 : List Ins := [(17, 1, .aload_n 0, (.null, 0, 0, [], [])), (18, 3, .getfield 12, (.null, 10, 0, [], [327])), (21, 1, .iload_n 1, (.null, 1, 0, [], [])), (22, 3, .invokevirtual 108, (.null, 1, 1, [(8, 70, 2)], [395, 396, 397])), (25, 3, .ifCond .ne 14, (.null, 3, 1, [], [])), (28, 1, .aload_n 0, (.null, 0, 0, [], [])), (29, 3, .getfield 12, (.null, 10, 0, [], [327])), (32, 1, .iload_n 3, (.null, 3, 0, [], [])), (33, 3, .invokevirtual 108, (.null, 1, 1, [(8, 70, 2)], [395, 396, 397])), (36, 3, .ifCond .eq 9, (.null, 4, 63, [], [])), (39, 0, .nop, (.null, 3, 1, [], []))]
def k83_3 : List Ins := [(39, 1, .aload_n 0, (.null, 0, 0, [], [])), (40, 1, .iconst 1, (.int 1, 0, 0, [], [])), (41, 3, .invokevirtual 97, (.null, 1, 1, [(10, 123, 2)], [378, 380, 0])), (44, 1, .ireturn, (.null, 0, 0, [], []))]
def k83_4 : List Ins := [(45, 1, .aload_n 0, (.null, 0, 0, [], [])), (46, 3, .getfield 12, (.null, 10, 0, [], [327])), (49, 3, .getfield 118, (.null, 8, 0, [], [109])), (52, 1, .iload_n 1, (.null, 1, 0, [], [])), (53, 1, .iaload, (.null, 0, 0, [], [])), (54, 1, .aload_n 0, (.null, 0, 0, [], [])), (55, 3, .getfield 12, (.null, 10, 0, [], [327])), (58, 3, .getfield 118, (.null, 8, 0, [], [109])), (61, 1, .iload_n 3, (.null, 3, 0, [], [])), (62, 1, .iaload, (.null, 0, 0, [], [])), (63, 3, .if_icmp .eq 9, (.null, 5, 63, [], [])), (66, 1, .aload_n 0, (.null, 0, 0, [], [])), (67, 1, .iconst 5, (.int 5, 0, 0, [], [])), (68, 3, .invokevirtual 97, (.null, 1, 1, [(10, 123, 2)], [378, 380, 0])), (71, 1, .ireturn, (.null, 0, 0, [], []))]
def k83_5 : List Ins := [(72, 1, .aload_n 0, (.null, 0, 0, [], [])), (73, 3, .getfield 12, (.null, 10, 0, [], [327])), (76, 1, .iload_n 1, (.null, 1, 0, [], [])), (77, 1, .iload_n 2, (.null, 2, 0, [], [])), (78, 2, .iload 5, (.null, 5, 0, [], [])), (80, 3, .invokevirtual 111, (.null, 3, 1, [(8, 71, 4)], [399, 400, 401])), (83, 3, .ifCond .eq 18, (.null, 6, 1, [], [])), (86, 1, .aload_n 0, (.null, 0, 0, [], [])), (87, 3, .getfield 12, (.null, 10, 0, [], [327])), (90, 1, .iload_n 3, (.null, 3, 0, [], [])), (91, 2, .iload 4, (.null, 4, 0, [], [])), (93, 2, .iload 5, (.null, 5, 0, [], [])), (95, 3, .invokevirtual 111, (.null, 3, 1, [(8, 71, 4)], [399, 400, 401])), (98, 3, .ifCond .ne 9, (.null, 7, 63, [], [])), (101, 0, .nop, (.null, 6, 1, [], []))]
def k83_6 : List Ins := [(101, 1, .aload_n 0, (.null, 0, 0, [], [])), (102, 1, .iconst 2, (.int 2, 0, 0, [], [])), (103, 3, .invokevirtual 97, (.null, 1, 1, [(10, 123, 2)], [378, 380, 0])), (106, 1, .ireturn, (.null, 0, 0, [], []))]
def k83_7 : List Ins := [(107, 1, .aload_n 0, (.null, 0, 0, [], [])), (108, 3, .getfield 12, (.null, 10, 0, [], [327])), (111, 3, .getfield 122, (.null, 8, 2, [], [112])), (114, 1, .iload_n 1, (.null, 1, 0, [], [])), (115, 1, .aaload, (.null, 3, 0, [], [])), (116, 1, .iload_n 2, (.null, 2, 0, [], [])), (117, 1, .aload_n 0, (.null, 0, 0, [], [])), (118, 3, .getfield 12, (.null, 10, 0, [], [327])), (121, 3, .getfield 122, (.null, 8, 2, [], [112])), (124, 1, .iload_n 3, (.null, 3, 0, [], [])), (125, 1, .aaload, (.null, 3, 0, [], [])), (126, 2, .iload 4, (.null, 4, 0, [], [])), (128, 2, .iload 5, (.null, 5, 0, [], [])), (130, 3, .invokestatic 126, (.null, 4, 0, [], [414, 415, 89, 416])), (133, 1, .aload_n 0, (.null, 0, 0, [], [])), (134, 2, .iload 5, (.null, 5, 0, [], [])), (136, 3, .invokevirtual 105, (.null, 1, 1, [(10, 124, 2)], [387, 389, 1])), (139, 1, .ireturn, (.null, 0, 0, [], []))]
def m83 : MI := (yX11_copy, cX11_copy, 6, (some .int), [k83_0, k83_1, k83_2, k83_3, k83_4, k83_5, k83_6, k83_7])
def k84_0 : List Ins := [(0, 1, .iload_n 1, (.null, 1, 0, [], [])), (1, 3, .invokestatic 88, (.null, 1, 1, [(0, 119, 1)], [371, 372])), (4, 3, .ifCond .ne 6, (.null, 1, 3, [], [])), (7, 2, .ldc 96, (.int (-1000001), 0, 0, [], [377])), (9, 1, .ireturn, (.null, 0, 0, [], []))]
def k84_1 : List Ins := [(10, 1, .aload_n 0, (.null, 0, 0, [], [])), (11, 3, .getfield 12, (.null, 10, 0, [], [327])), (14, 1, .iload_n 1, (.null, 1, 0, [], [])), (15, 3, .invokevirtual 108, (.null, 1, 1, [(8, 70, 2)], [395, 396, 397])), (18, 3, .ifCond .eq 9, (.null, 2, 3, [], [])), (21, 1, .aload_n 0, (.null, 0, 0, [], [])), (22, 1, .iconst 1, (.int 1, 0, 0, [], [])), (23, 3, .invokevirtual 97, (.null, 1, 1, [(10, 123, 2)], [378, 380, 0])), (26, 1, .ireturn, (.null, 0, 0, [], []))]
def k84_2 : List Ins := [(27, 1, .aload_n 0, (.null, 0, 0, [], [])), (28, 1, .aload_n 0, (.null, 0, 0, [], [])), (29, 3, .getfield 12, (.null, 10, 0, [], [327])), (32, 1, .iload_n 1, (.null, 1, 0, [], [])), (33, 3, .invokevirtual 132, (.null, 1, 1, [(8, 74, 2)], [421, 422, 423])), (36, 3, .invokevirtual 105, (.null, 1, 1, [(10, 124, 2)], [387, 389, 1])), (39, 1, .ireturn, (.null, 0, 0, [], []))]
def m84 : MI := (yX11_drop, cX11_drop, 2, (some .int), [k84_0, k84_1, k84_2])
def k85_0 : List Ins := [(0, 1, .iload_n 1, (.null, 1, 0, [], [])), (1, 1, .iconst 0, (.int 0, 0, 0, [], [])), (2, 3, .sipush 255, (.int 255, 0, 0, [], [])), (5, 3, .invokestatic 92, (.null, 3, 1, [(0, 118, 3)], [374, 375])), (8, 3, .ifCond .ne 6, (.null, 1, 3, [], [])), (11, 2, .ldc 96, (.int (-1000001), 0, 0, [], [377])), (13, 1, .ireturn, (.null, 0, 0, [], []))]
def k85_1 : List Ins := [(14, 1, .aload_n 0, (.null, 0, 0, [], [])), (15, 3, .getfield 19, (.null, 10, 1, [], [328])), (18, 3, .getfield 135, (.int 0, 6, 1, [], [129])), (21, 2, .bipush 100, (.int 100, 0, 0, [], [])), (23, 3, .if_icmp .lt 6, (.null, 2, 3, [], [])), (26, 2, .ldc 138, (.int (-1000003), 0, 0, [], [429])), (28, 1, .ireturn, (.null, 0, 0, [], []))]
def k85_2 : List Ins := [(29, 1, .aload_n 0, (.null, 0, 0, [], [])), (30, 3, .getfield 19, (.null, 10, 1, [], [328])), (33, 1, .iload_n 1, (.null, 1, 0, [], [])), (34, 3, .invokevirtual 139, (.null, 1, 1, [(6, 57, 2)], [430, 431, 432])), (37, 1, .ireturn, (.null, 0, 0, [], []))]
def m85 : MI := (yX11_feed, cX11_feed, 2, (some .int), [k85_0, k85_1, k85_2])
def k86_0 : List Ins := [(0, 1, .aload_n 0, (.null, 0, 0, [], [])), (1, 3, .getfield 19, (.null, 10, 1, [], [328])), (4, 1, .aload_n 0, (.null, 0, 0, [], [])), (5, 3, .getfield 58, (.null, 10, 5, [], [332])), (8, 3, .invokevirtual 142, (.null, 1, 1, [(6, 58, 4)], [438, 439, 440])), (11, 1, .istore_n 1, (.null, 1, 0, [], [])), (12, 1, .aload_n 0, (.null, 0, 0, [], [])), (13, 3, .getfield 19, (.null, 10, 1, [], [328])), (16, 1, .iconst 0, (.int 0, 0, 0, [], [])), (17, 3, .putfield 135, (.int 0, 6, 1, [], [129])), (20, 1, .iload_n 1, (.null, 1, 0, [], [])), (21, 3, .ifCond .ne 25, (.null, 1, 1, [], [])), (24, 1, .aload_n 0, (.null, 0, 0, [], [])), (25, 1, .aload_n 0, (.null, 0, 0, [], [])), (26, 3, .getfield 19, (.null, 10, 1, [], [328])), (29, 3, .getfield 146, (.int 0, 6, 3, [], [133])), (32, 3, .putfield 82, (.int 0, 10, 11, [], [338])), (35, 2, .ldc 149, (.int (-1000100), 0, 0, [], [481])), (37, 1, .aload_n 0, (.null, 0, 0, [], [])), (38, 3, .getfield 19, (.null, 10, 1, [], [328])), (41, 3, .getfield 150, (.int 0, 6, 2, [], [131])), (44, 1, .isub, (.null, 0, 0, [], [])), (45, 1, .ireturn, (.null, 0, 0, [], []))]
def k86_1 : List Ins := [(46, 1, .aload_n 0, (.null, 0, 0, [], [])), (47, 1, .aload_n 0, (.null, 0, 0, [], [])), (48, 3, .getfield 58, (.null, 10, 5, [], [332])), (51, 3, .invokevirtual 153, (.null, 1, 0, [(10, 125, 2)], [482, 484, 8])), (54, 1, .aload_n 0, (.null, 0, 0, [], [])), (55, 3, .getfield 54, (.null, 10, 4, [], [331])), (58, 3, .getfield 157, (.int 0, 2, 3, [], [232])), (61, 1, .ireturn, (.null, 0, 0, [], []))]
def m86 : MI := (yX11_house, cX11_house, 2, (some .int), [k86_0, k86_1])
def k87_0 : List Ins := [(0, 1, .aload_n 0, (.null, 0, 0, [], [])), (1, 3, .getfield 82, (.int 0, 10, 11, [], [338])), (4, 1, .ireturn, (.null, 0, 0, [], []))]
def m87 : MI := (yX11_fault, cX11_fault, 1, (some .int), [k87_0])
def k88_0 : List Ins := [(0, 1, .aload_n 0, (.null, 0, 0, [], [])), (1, 3, .getfield 75, (.int 0, 10, 9, [], [336])), (4, 3, .ifCond .ne 6, (.null, 1, 1, [], [])), (7, 2, .ldc 160, (.int (-1000002), 0, 0, [], [503])), (9, 1, .ireturn, (.null, 0, 0, [], []))]
def k88_1 : List Ins := [(10, 1, .aload_n 0, (.null, 0, 0, [], [])), (11, 1, .aload_n 0, (.null, 0, 0, [], [])), (12, 3, .getfield 79, (.int 0, 10, 10, [], [337])), (15, 2, .bipush 24, (.int 24, 0, 0, [], [])), (17, 1, .iadd, (.null, 0, 0, [], [])), (18, 1, .iconst 1, (.int 1, 0, 0, [], [])), (19, 1, .isub, (.null, 0, 0, [], [])), (20, 2, .bipush 24, (.int 24, 0, 0, [], [])), (22, 1, .irem, (.null, 0, 0, [], [])), (23, 3, .putfield 79, (.int 0, 10, 10, [], [337])), (26, 1, .aload_n 0, (.null, 0, 0, [], [])), (27, 1, .dup, (.null, 0, 0, [], [])), (28, 3, .getfield 75, (.int 0, 10, 9, [], [336])), (31, 1, .iconst 1, (.int 1, 0, 0, [], [])), (32, 1, .isub, (.null, 0, 0, [], [])), (33, 3, .putfield 75, (.int 0, 10, 9, [], [336])), (36, 1, .aload_n 0, (.null, 0, 0, [], [])), (37, 3, .getfield 54, (.null, 10, 4, [], [331])), (40, 1, .aload_n 0, (.null, 0, 0, [], [])), (41, 3, .getfield 68, (.null, 10, 7, [], [334])), (44, 1, .aload_n 0, (.null, 0, 0, [], [])), (45, 3, .getfield 79, (.int 0, 10, 10, [], [337])), (48, 1, .aaload, (.null, 1, 0, [], [])), (49, 3, .invokevirtual 161, (.null, 1, 0, [(2, 9, 2)], [486, 487, 488])), (52, 1, .aload_n 0, (.null, 0, 0, [], [])), (53, 3, .getfield 64, (.null, 10, 6, [], [333])), (56, 3, .invokevirtual 164, (.null, 0, 0, [(4, 32, 1)], [491, 492, 493])), (59, 1, .aload_n 0, (.null, 0, 0, [], [])), (60, 3, .getfield 75, (.int 0, 10, 9, [], [336])), (63, 1, .ireturn, (.null, 0, 0, [], []))]
def m88 : MI := (yX11_undo, cX11_undo, 1, (some .int), [k88_0, k88_1])
def k89_0 : List Ins := [(0, 1, .aload_n 0, (.null, 0, 0, [], [])), (1, 3, .invokevirtual 167, (.null, 0, 1, [(10, 122, 1)], [508, 510, 9])), (4, 3, .ifCond .eq 6, (.null, 1, 3, [], [])), (7, 2, .ldc 160, (.int (-1000002), 0, 0, [], [503])), (9, 1, .ireturn, (.null, 0, 0, [], []))]
def k89_1 : List Ins := [(10, 1, .iload_n 1, (.null, 1, 0, [], [])), (11, 1, .iconst 1, (.int 1, 0, 0, [], [])), (12, 2, .bipush 24, (.int 24, 0, 0, [], [])), (14, 3, .invokestatic 92, (.null, 3, 1, [(0, 118, 3)], [374, 375])), (17, 3, .ifCond .ne 6, (.null, 2, 3, [], [])), (20, 2, .ldc 96, (.int (-1000001), 0, 0, [], [377])), (22, 1, .ireturn, (.null, 0, 0, [], []))]
def k89_2 : List Ins := [(23, 1, .aload_n 0, (.null, 0, 0, [], [])), (24, 3, .getfield 54, (.null, 10, 4, [], [331])), (27, 3, .getfield 171, (.int 0, 2, 2, [], [227])), (30, 1, .iload_n 1, (.null, 1, 0, [], [])), (31, 1, .iadd, (.null, 0, 0, [], [])), (32, 3, .sipush 999, (.int 999, 0, 0, [], [])), (35, 3, .if_icmp .le 6, (.null, 3, 3, [], [])), (38, 2, .ldc 138, (.int (-1000003), 0, 0, [], [429])), (40, 1, .ireturn, (.null, 0, 0, [], []))]
def k89_3 : List Ins := [(41, 1, .iconst 0, (.int 0, 0, 0, [], [])), (42, 1, .istore_n 2, (.null, 2, 0, [], [])), (43, 0, .nop, (.null, 4, 7, [], []))]
def k89_4 : List Ins := [(43, 1, .iload_n 2, (.null, 2, 0, [], [])), (44, 1, .iload_n 1, (.null, 1, 0, [], [])), (45, 3, .if_icmp .ge 20, (.null, 5, 1, [], [])), (48, 1, .aload_n 0, (.null, 0, 0, [], [])), (49, 3, .invokevirtual 174, (.null, 0, 0, [(10, 126, 1)], [512, 514, 10])), (52, 1, .aload_n 0, (.null, 0, 0, [], [])), (53, 3, .getfield 54, (.null, 10, 4, [], [331])), (56, 3, .invokevirtual 177, (.null, 0, 0, [(2, 10, 4)], [519, 520, 521])), (59, 3, .iinc 2 1, (.int 1, 2, 0, [], [])), (62, 3, .goto (-19), (.int 0, 4, 7, [], []))]
def k89_5 : List Ins := [(65, 1, .aload_n 0, (.null, 0, 0, [], [])), (66, 3, .getfield 54, (.null, 10, 4, [], [331])), (69, 3, .getfield 180, (.null, 2, 13, [], [257])), (72, 2, .bipush 21, (.int 21, 0, 0, [], [])), (74, 1, .iaload, (.null, 0, 0, [], [])), (75, 1, .ireturn, (.null, 0, 0, [], []))]
def m89 : MI := (yX11_ticks, cX11_ticks, 3, (some .int), [k89_0, k89_1, k89_2, k89_3, k89_4, k89_5])
def k90_0 : List Ins := [(0, 1, .aload_n 0, (.null, 0, 0, [], [])), (1, 3, .invokevirtual 167, (.null, 0, 1, [(10, 122, 1)], [508, 510, 9])), (4, 3, .ifCond .eq 6, (.null, 1, 3, [], [])), (7, 2, .ldc 160, (.int (-1000002), 0, 0, [], [503])), (9, 1, .ireturn, (.null, 0, 0, [], []))]
def k90_1 : List Ins := [(10, 1, .iload_n 1, (.null, 1, 0, [], [])), (11, 1, .iconst 2, (.int 2, 0, 0, [], [])), (12, 2, .bipush 20, (.int 20, 0, 0, [], [])), (14, 3, .invokestatic 92, (.null, 3, 1, [(0, 118, 3)], [374, 375])), (17, 3, .ifCond .ne 6, (.null, 2, 3, [], [])), (20, 2, .ldc 96, (.int (-1000001), 0, 0, [], [377])), (22, 1, .ireturn, (.null, 0, 0, [], []))]
def k90_2 : List Ins := [(23, 1, .aload_n 0, (.null, 0, 0, [], [])), (24, 3, .invokevirtual 174, (.null, 0, 0, [(10, 126, 1)], [512, 514, 10])), (27, 1, .aload_n 0, (.null, 0, 0, [], [])), (28, 3, .getfield 54, (.null, 10, 4, [], [331])), (31, 3, .getfield 183, (.int 0, 2, 1, [], [225])), (34, 1, .istore_n 2, (.null, 2, 0, [], [])), (35, 1, .aload_n 0, (.null, 0, 0, [], [])), (36, 3, .getfield 54, (.null, 10, 4, [], [331])), (39, 1, .iload_n 1, (.null, 1, 0, [], [])), (40, 3, .putfield 183, (.int 0, 2, 1, [], [225])), (43, 1, .iload_n 2, (.null, 2, 0, [], [])), (44, 1, .ireturn, (.null, 0, 0, [], []))]
def m90 : MI := (yX11_wide, cX11_wide, 3, (some .int), [k90_0, k90_1, k90_2])
def k91_0 : List Ins := [(0, 1, .aload_n 0, (.null, 0, 0, [], [])), (1, 1, .iload_n 1, (.null, 1, 0, [], [])), (2, 3, .invokevirtual 186, (.null, 1, 1, [(10, 120, 2)], [551, 553, 13])), (5, 3, .ifCond .ne 6, (.null, 1, 3, [], [])), (8, 2, .ldc 96, (.int (-1000001), 0, 0, [], [377])), (10, 1, .ireturn, (.null, 0, 0, [], []))]
def k91_1 : List Ins := [(11, 1, .aload_n 0, (.null, 0, 0, [], [])), (12, 3, .getfield 54, (.null, 10, 4, [], [331])), (15, 1, .iload_n 1, (.null, 1, 0, [], [])), (16, 3, .invokevirtual 189, (.null, 1, 1, [(2, 19, 2)], [555, 556, 557])), (19, 3, .ifCond .ne 6, (.null, 2, 3, [], [])), (22, 2, .ldc 160, (.int (-1000002), 0, 0, [], [503])), (24, 1, .ireturn, (.null, 0, 0, [], []))]
def k91_2 : List Ins := [(25, 1, .aload_n 0, (.null, 0, 0, [], [])), (26, 3, .invokevirtual 174, (.null, 0, 0, [(10, 126, 1)], [512, 514, 10])), (29, 1, .aload_n 0, (.null, 0, 0, [], [])), (30, 3, .getfield 54, (.null, 10, 4, [], [331])), (33, 1, .iload_n 1, (.null, 1, 0, [], [])), (34, 1, .aload_n 0, (.null, 0, 0, [], [])), (35, 3, .getfield 54, (.null, 10, 4, [], [331])), (38, 3, .getfield 192, (.null, 2, 9, [], [248])), (41, 1, .iload_n 1, (.null, 1, 0, [], [])), (42, 1, .iaload, (.null, 0, 0, [], [])), (43, 3, .invokestatic 194, (.null, 1, 1, [(0, 18, 1)], [559, 533])), (46, 3, .invokevirtual 197, (.null, 2, 0, [(2, 15, 3)], [560, 540, 541])), (49, 1, .aload_n 0, (.null, 0, 0, [], [])), (50, 3, .getfield 54, (.null, 10, 4, [], [331])), (53, 3, .getfield 192, (.null, 2, 9, [], [248])), (56, 1, .iload_n 1, (.null, 1, 0, [], [])), (57, 1, .iaload, (.null, 0, 0, [], [])), (58, 1, .ireturn, (.null, 0, 0, [], []))]
def m91 : MI := (yX11_poke, cX11_poke, 2, (some .int), [k91_0, k91_1, k91_2])
def k92_0 : List Ins := [(0, 1, .aload_n 0, (.null, 0, 0, [], [])), (1, 1, .iload_n 1, (.null, 1, 0, [], [])), (2, 3, .invokevirtual 186, (.null, 1, 1, [(10, 120, 2)], [551, 553, 13])), (5, 3, .ifCond .eq 11, (.null, 1, 0, [], [])), (8, 1, .aload_n 0, (.null, 0, 0, [], [])), (9, 1, .iload_n 2, (.null, 2, 0, [], [])), (10, 3, .invokevirtual 201, (.null, 1, 1, [(10, 121, 2)], [565, 567, 14])), (13, 3, .ifCond .ne 6, (.null, 2, 7, [], [])), (16, 0, .nop, (.null, 1, 0, [], []))]
def k92_1 : List Ins := [(16, 2, .ldc 96, (.int (-1000001), 0, 0, [], [377])), (18, 1, .ireturn, (.null, 0, 0, [], []))]
def k92_2 : List Ins := [(19, 1, .aload_n 0, (.null, 0, 0, [], [])), (20, 3, .getfield 54, (.null, 10, 4, [], [331])), (23, 3, .getfield 192, (.null, 2, 9, [], [248])), (26, 1, .iload_n 1, (.null, 1, 0, [], [])), (27, 1, .iaload, (.null, 0, 0, [], [])), (28, 2, .bipush 21, (.int 21, 0, 0, [], [])), (30, 3, .if_icmp .eq 6, (.null, 3, 7, [], [])), (33, 2, .ldc 160, (.int (-1000002), 0, 0, [], [503])), (35, 1, .ireturn, (.null, 0, 0, [], []))]
def k92_3 : List Ins := [(36, 1, .aload_n 0, (.null, 0, 0, [], [])), (37, 3, .invokevirtual 174, (.null, 0, 0, [(10, 126, 1)], [512, 514, 10])), (40, 1, .aload_n 0, (.null, 0, 0, [], [])), (41, 3, .getfield 54, (.null, 10, 4, [], [331])), (44, 1, .iload_n 1, (.null, 1, 0, [], [])), (45, 1, .iload_n 2, (.null, 2, 0, [], [])), (46, 3, .invokevirtual 204, (.null, 2, 0, [(2, 16, 3)], [569, 570, 571])), (49, 1, .aload_n 0, (.null, 0, 0, [], [])), (50, 3, .getfield 54, (.null, 10, 4, [], [331])), (53, 3, .getfield 180, (.null, 2, 13, [], [257])), (56, 2, .bipush 20, (.int 20, 0, 0, [], [])), (58, 1, .iaload, (.null, 0, 0, [], [])), (59, 1, .ireturn, (.null, 0, 0, [], []))]
def m92 : MI := (yX11_post, cX11_post, 3, (some .int), [k92_0, k92_1, k92_2, k92_3])
def k93_0 : List Ins := [(0, 1, .aload_n 0, (.null, 0, 0, [], [])), (1, 1, .iload_n 1, (.null, 1, 0, [], [])), (2, 3, .invokevirtual 186, (.null, 1, 1, [(10, 120, 2)], [551, 553, 13])), (5, 3, .ifCond .ne 6, (.null, 1, 7, [], [])), (8, 2, .ldc 96, (.int (-1000001), 0, 0, [], [377])), (10, 1, .ireturn, (.null, 0, 0, [], []))]
def k93_1 : List Ins := [(11, 1, .iload_n 2, (.null, 2, 0, [], [])), (12, 44, .tableswitch 128 0 6 #[44, 54, 64, 74, 84, 94, 104], (.null, 10, 0, [(0, 2, 3), (1, 3, 3), (2, 4, 3), (3, 5, 3), (4, 6, 3), (5, 7, 3), (6, 8, 3)], []))]
def k93_2 : List Ins := [(56, 1, .aload_n 0, (.null, 0, 0, [], [])), (57, 3, .getfield 54, (.null, 10, 4, [], [331])), (60, 3, .getfield 207, (.null, 2, 6, [], [240])), (63, 1, .iload_n 1, (.null, 1, 0, [], [])), (64, 1, .iaload, (.null, 0, 0, [], [])), (65, 1, .ireturn, (.null, 0, 0, [], []))]
def k93_3 : List Ins := [(66, 1, .aload_n 0, (.null, 0, 0, [], [])), (67, 3, .getfield 54, (.null, 10, 4, [], [331])), (70, 3, .getfield 210, (.null, 2, 7, [], [242])), (73, 1, .iload_n 1, (.null, 1, 0, [], [])), (74, 1, .iaload, (.null, 0, 0, [], [])), (75, 1, .ireturn, (.null, 0, 0, [], []))]
def k93_4 : List Ins := [(76, 1, .aload_n 0, (.null, 0, 0, [], [])), (77, 3, .getfield 54, (.null, 10, 4, [], [331])), (80, 3, .getfield 213, (.null, 2, 8, [], [245])), (83, 1, .iload_n 1, (.null, 1, 0, [], [])), (84, 1, .iaload, (.null, 0, 0, [], [])), (85, 1, .ireturn, (.null, 0, 0, [], []))]
def k93_5 : List Ins := [(86, 1, .aload_n 0, (.null, 0, 0, [], [])), (87, 3, .getfield 54, (.null, 10, 4, [], [331])), (90, 3, .getfield 192, (.null, 2, 9, [], [248])), (93, 1, .iload_n 1, (.null, 1, 0, [], [])), (94, 1, .iaload, (.null, 0, 0, [], [])), (95, 1, .ireturn, (.null, 0, 0, [], []))]
def k93_6 : List Ins := [(96, 1, .aload_n 0, (.null, 0, 0, [], [])), (97, 3, .getfield 54, (.null, 10, 4, [], [331])), (100, 3, .getfield 216, (.null, 2, 10, [], [250])), (103, 1, .iload_n 1, (.null, 1, 0, [], [])), (104, 1, .iaload, (.null, 0, 0, [], [])), (105, 1, .ireturn, (.null, 0, 0, [], []))]
def k93_7 : List Ins := [(106, 1, .aload_n 0, (.null, 0, 0, [], [])), (107, 3, .getfield 54, (.null, 10, 4, [], [331])), (110, 3, .getfield 219, (.null, 2, 11, [], [252])), (113, 1, .iload_n 1, (.null, 1, 0, [], [])), (114, 1, .iaload, (.null, 0, 0, [], [])), (115, 1, .ireturn, (.null, 0, 0, [], []))]
def k93_8 : List Ins := [(116, 1, .aload_n 0, (.null, 0, 0, [], [])), (117, 3, .getfield 54, (.null, 10, 4, [], [331])), (120, 1, .iload_n 1, (.null, 1, 0, [], [])), (121, 3, .invokevirtual 189, (.null, 1, 1, [(2, 19, 2)], [555, 556, 557])), (124, 3, .ifCond .eq 14, (.null, 9, 0, [], [])), (127, 1, .aload_n 0, (.null, 0, 0, [], [])), (128, 3, .getfield 54, (.null, 10, 4, [], [331])), (131, 1, .iload_n 1, (.null, 1, 0, [], [])), (132, 3, .invokevirtual 222, (.null, 1, 1, [(2, 13, 3)], [577, 528, 529])), (135, 3, .goto 4, (.null, 0, 0, [], [])), (139, 1, .ireturn, (.null, 0, 0, [], []))]
def k93_9 : List Ins := [(138, 1, .iconst 0, (.int 0, 0, 0, [], [])), (139, 1, .ireturn, (.null, 0, 0, [], []))]
def k93_10 : List Ins := [(140, 2, .ldc 96, (.int (-1000001), 0, 0, [], [377])), (142, 1, .ireturn, (.null, 0, 0, [], []))]
def m93 : MI := (yX11_letter, cX11_letter, 3, (some .int), [k93_0, k93_1, k93_2, k93_3, k93_4, k93_5, k93_6, k93_7, k93_8, k93_9, k93_10])
def k94_0 : List Ins := [(0, 1, .aload_n 0, (.null, 0, 0, [], [])), (1, 1, .iload_n 1, (.null, 1, 0, [], [])), (2, 3, .invokevirtual 201, (.null, 1, 1, [(10, 121, 2)], [565, 567, 14])), (5, 3, .ifCond .eq 12, (.null, 1, 0, [], [])), (8, 1, .iload_n 2, (.null, 2, 0, [], [])), (9, 1, .iconst 0, (.int 0, 0, 0, [], [])), (10, 1, .iconst 1, (.int 1, 0, 0, [], [])), (11, 3, .invokestatic 92, (.null, 3, 1, [(0, 118, 3)], [374, 375])), (14, 3, .ifCond .ne 6, (.null, 2, 7, [], [])), (17, 0, .nop, (.null, 1, 0, [], []))]
def k94_1 : List Ins := [(17, 2, .ldc 96, (.int (-1000001), 0, 0, [], [377])), (19, 1, .ireturn, (.null, 0, 0, [], []))]
def k94_2 : List Ins := [(20, 1, .iload_n 2, (.null, 2, 0, [], [])), (21, 3, .ifCond .ne 15, (.null, 3, 3, [], [])), (24, 1, .aload_n 0, (.null, 0, 0, [], [])), (25, 3, .getfield 54, (.null, 10, 4, [], [331])), (28, 3, .getfield 225, (.null, 2, 14, [], [259])), (31, 1, .iload_n 1, (.null, 1, 0, [], [])), (32, 1, .iaload, (.null, 0, 0, [], [])), (33, 3, .goto 12, (.null, 0, 0, [], [])), (45, 1, .ireturn, (.null, 0, 0, [], []))]
def k94_3 : List Ins := [(36, 1, .aload_n 0, (.null, 0, 0, [], [])), (37, 3, .getfield 54, (.null, 10, 4, [], [331])), (40, 3, .getfield 180, (.null, 2, 13, [], [257])), (43, 1, .iload_n 1, (.null, 1, 0, [], [])), (44, 1, .iaload, (.null, 0, 0, [], [])), (45, 1, .ireturn, (.null, 0, 0, [], []))]
def m94 : MI := (yX11_floor, cX11_floor, 3, (some .int), [k94_0, k94_1, k94_2, k94_3])
def k95_0 : List Ins := [(0, 1, .aload_n 0, (.null, 0, 0, [], [])), (1, 3, .invokevirtual 167, (.null, 0, 1, [(10, 122, 1)], [508, 510, 9])), (4, 3, .ifCond .eq 6, (.null, 1, 3, [], [])), (7, 2, .ldc 160, (.int (-1000002), 0, 0, [], [503])), (9, 1, .ireturn, (.null, 0, 0, [], []))]
def k95_1 : List Ins := [(10, 1, .iload_n 1, (.null, 1, 0, [], [])), (11, 33, .tableswitch 79 0 4 #[33, 41, 49, 60, 68], (.null, 7, 0, [(0, 2, 1), (1, 3, 1), (2, 4, 1), (3, 5, 1), (4, 6, 1)], []))]
def k95_2 : List Ins := [(44, 1, .aload_n 0, (.null, 0, 0, [], [])), (45, 3, .getfield 54, (.null, 10, 4, [], [331])), (48, 3, .getfield 228, (.int 0, 2, 0, [], [221])), (51, 1, .ireturn, (.null, 0, 0, [], []))]
def k95_3 : List Ins := [(52, 1, .aload_n 0, (.null, 0, 0, [], [])), (53, 3, .getfield 54, (.null, 10, 4, [], [331])), (56, 3, .getfield 183, (.int 0, 2, 1, [], [225])), (59, 1, .ireturn, (.null, 0, 0, [], []))]
def k95_4 : List Ins := [(60, 1, .aload_n 0, (.null, 0, 0, [], [])), (61, 3, .getfield 54, (.null, 10, 4, [], [331])), (64, 3, .getfield 180, (.null, 2, 13, [], [257])), (67, 2, .bipush 20, (.int 20, 0, 0, [], [])), (69, 1, .iaload, (.null, 0, 0, [], [])), (70, 1, .ireturn, (.null, 0, 0, [], []))]
def k95_5 : List Ins := [(71, 1, .aload_n 0, (.null, 0, 0, [], [])), (72, 3, .getfield 54, (.null, 10, 4, [], [331])), (75, 3, .invokevirtual 231, (.null, 0, 1, [(2, 22, 1)], [586, 587, 588])), (78, 1, .ireturn, (.null, 0, 0, [], []))]
def k95_6 : List Ins := [(79, 1, .aload_n 0, (.null, 0, 0, [], [])), (80, 3, .getfield 54, (.null, 10, 4, [], [331])), (83, 3, .getfield 180, (.null, 2, 13, [], [257])), (86, 2, .bipush 21, (.int 21, 0, 0, [], [])), (88, 1, .iaload, (.null, 0, 0, [], [])), (89, 1, .ireturn, (.null, 0, 0, [], []))]
def k95_7 : List Ins := [(90, 2, .ldc 96, (.int (-1000001), 0, 0, [], [377])), (92, 1, .ireturn, (.null, 0, 0, [], []))]
def m95 : MI := (yX11_stand, cX11_stand, 2, (some .int), [k95_0, k95_1, k95_2, k95_3, k95_4, k95_5, k95_6, k95_7])
def k96_0 : List Ins := [(0, 1, .aload_n 0, (.null, 0, 0, [], [])), (1, 1, .iload_n 1, (.null, 1, 0, [], [])), (2, 3, .invokevirtual 186, (.null, 1, 1, [(10, 120, 2)], [551, 553, 13])), (5, 3, .ifCond .eq 22, (.null, 1, 0, [], [])), (8, 1, .iload_n 2, (.null, 2, 0, [], [])), (9, 1, .iconst 0, (.int 0, 0, 0, [], [])), (10, 2, .bipush 60, (.int 60, 0, 0, [], [])), (12, 3, .invokestatic 92, (.null, 3, 1, [(0, 118, 3)], [374, 375])), (15, 3, .ifCond .eq 12, (.null, 1, 0, [], [])), (18, 1, .iload_n 3, (.null, 3, 0, [], [])), (19, 1, .iconst 0, (.int 0, 0, 0, [], [])), (20, 1, .iconst 2, (.int 2, 0, 0, [], [])), (21, 3, .invokestatic 92, (.null, 3, 1, [(0, 118, 3)], [374, 375])), (24, 3, .ifCond .ne 6, (.null, 2, 15, [], [])), (27, 0, .nop, (.null, 1, 0, [], []))]
def k96_1 : List Ins := [(27, 2, .ldc 96, (.int (-1000001), 0, 0, [], [377])), (29, 1, .ireturn, (.null, 0, 0, [], []))]
def k96_2 : List Ins := [(30, 1, .aload_n 0, (.null, 0, 0, [], [])), (31, 3, .getfield 64, (.null, 10, 6, [], [333])), (34, 1, .aload_n 0, (.null, 0, 0, [], [])), (35, 3, .getfield 54, (.null, 10, 4, [], [331])), (38, 1, .iload_n 2, (.null, 2, 0, [], [])), (39, 3, .invokevirtual 235, (.null, 2, 3, [(4, 33, 3)], [602, 603, 604])), (42, 2, .astore 4, (.null, 4, 0, [], [])), (44, 1, .iload_n 3, (.null, 3, 0, [], [])), (45, 3, .ifCond .ne 11, (.null, 3, 26, [], [])), (48, 2, .aload 4, (.null, 4, 0, [], [])), (50, 3, .getfield 192, (.null, 2, 9, [], [248])), (53, 1, .iload_n 1, (.null, 1, 0, [], [])), (54, 1, .iaload, (.null, 0, 0, [], [])), (55, 1, .ireturn, (.null, 0, 0, [], []))]
def k96_3 : List Ins := [(56, 1, .iload_n 3, (.null, 3, 0, [], [])), (57, 1, .iconst 1, (.int 1, 0, 0, [], [])), (58, 3, .if_icmp .ne 13, (.null, 4, 18, [], [])), (61, 2, .aload 4, (.null, 4, 0, [], [])), (63, 3, .getfield 216, (.null, 2, 10, [], [250])), (66, 1, .iload_n 1, (.null, 1, 0, [], [])), (67, 1, .iaload, (.null, 0, 0, [], [])), (68, 3, .goto 10, (.null, 0, 0, [], [])), (78, 1, .ireturn, (.null, 0, 0, [], []))]
def k96_4 : List Ins := [(71, 2, .aload 4, (.null, 4, 0, [], [])), (73, 3, .getfield 219, (.null, 2, 11, [], [252])), (76, 1, .iload_n 1, (.null, 1, 0, [], [])), (77, 1, .iaload, (.null, 0, 0, [], [])), (78, 1, .ireturn, (.null, 0, 0, [], []))]
def m96 : MI := (yX11_ahead, cX11_ahead, 5, (some .int), [k96_0, k96_1, k96_2, k96_3, k96_4])
def k97_0 : List Ins := [(0, 1, .aload_n 0, (.null, 0, 0, [], [])), (1, 1, .iload_n 1, (.null, 1, 0, [], [])), (2, 3, .invokevirtual 201, (.null, 1, 1, [(10, 121, 2)], [565, 567, 14])), (5, 3, .ifCond .eq 13, (.null, 1, 0, [], [])), (8, 1, .iload_n 2, (.null, 2, 0, [], [])), (9, 1, .iconst 0, (.int 0, 0, 0, [], [])), (10, 2, .bipush 60, (.int 60, 0, 0, [], [])), (12, 3, .invokestatic 92, (.null, 3, 1, [(0, 118, 3)], [374, 375])), (15, 3, .ifCond .ne 6, (.null, 2, 7, [], [])), (18, 0, .nop, (.null, 1, 0, [], []))]
def k97_1 : List Ins := [(18, 2, .ldc 96, (.int (-1000001), 0, 0, [], [377])), (20, 1, .ireturn, (.null, 0, 0, [], []))]
def k97_2 : List Ins := [(21, 1, .aload_n 0, (.null, 0, 0, [], [])), (22, 3, .getfield 64, (.null, 10, 6, [], [333])), (25, 1, .aload_n 0, (.null, 0, 0, [], [])), (26, 3, .getfield 54, (.null, 10, 4, [], [331])), (29, 1, .iload_n 2, (.null, 2, 0, [], [])), (30, 3, .invokevirtual 235, (.null, 2, 3, [(4, 33, 3)], [602, 603, 604])), (33, 3, .getfield 225, (.null, 2, 14, [], [259])), (36, 1, .iload_n 1, (.null, 1, 0, [], [])), (37, 1, .iaload, (.null, 0, 0, [], [])), (38, 1, .ireturn, (.null, 0, 0, [], []))]
def m97 : MI := (yX11_full, cX11_full, 3, (some .int), [k97_0, k97_1, k97_2])
def k98_0 : List Ins := [(0, 1, .aload_n 0, (.null, 0, 0, [], [])), (1, 3, .invokevirtual 167, (.null, 0, 1, [(10, 122, 1)], [508, 510, 9])), (4, 3, .ifCond .eq 6, (.null, 1, 7, [], [])), (7, 2, .ldc 160, (.int (-1000002), 0, 0, [], [503])), (9, 1, .ireturn, (.null, 0, 0, [], []))]
def k98_1 : List Ins := [(10, 1, .iload_n 1, (.null, 1, 0, [], [])), (11, 1, .iconst 0, (.int 0, 0, 0, [], [])), (12, 2, .bipush 60, (.int 60, 0, 0, [], [])), (14, 3, .invokestatic 92, (.null, 3, 1, [(0, 118, 3)], [374, 375])), (17, 3, .ifCond .eq 12, (.null, 2, 0, [], [])), (20, 1, .iload_n 2, (.null, 2, 0, [], [])), (21, 1, .iconst 0, (.int 0, 0, 0, [], [])), (22, 1, .iconst 1, (.int 1, 0, 0, [], [])), (23, 3, .invokestatic 92, (.null, 3, 1, [(0, 118, 3)], [374, 375])), (26, 3, .ifCond .ne 6, (.null, 3, 7, [], [])), (29, 0, .nop, (.null, 2, 0, [], []))]
def k98_2 : List Ins := [(29, 2, .ldc 96, (.int (-1000001), 0, 0, [], [377])), (31, 1, .ireturn, (.null, 0, 0, [], []))]
def k98_3 : List Ins := [(32, 1, .aload_n 0, (.null, 0, 0, [], [])), (33, 3, .getfield 64, (.null, 10, 6, [], [333])), (36, 1, .aload_n 0, (.null, 0, 0, [], [])), (37, 3, .getfield 54, (.null, 10, 4, [], [331])), (40, 1, .iload_n 1, (.null, 1, 0, [], [])), (41, 3, .invokevirtual 235, (.null, 2, 3, [(4, 33, 3)], [602, 603, 604])), (44, 1, .astore_n 3, (.null, 3, 0, [], [])), (45, 1, .iload_n 2, (.null, 2, 0, [], [])), (46, 3, .ifCond .ne 13, (.null, 4, 8, [], [])), (49, 1, .aload_n 3, (.null, 3, 0, [], [])), (50, 3, .getfield 180, (.null, 2, 13, [], [257])), (53, 2, .bipush 21, (.int 21, 0, 0, [], [])), (55, 1, .iaload, (.null, 0, 0, [], [])), (56, 3, .goto 7, (.null, 0, 0, [], [])), (63, 1, .ireturn, (.null, 0, 0, [], []))]
def k98_4 : List Ins := [(59, 1, .aload_n 3, (.null, 3, 0, [], [])), (60, 3, .invokevirtual 239, (.null, 0, 1, [(2, 24, 3)], [620, 621, 622])), (63, 1, .ireturn, (.null, 0, 0, [], []))]
def m98 : MI := (yX11_all, cX11_all, 4, (some .int), [k98_0, k98_1, k98_2, k98_3, k98_4])
def k99_0 : List Ins := [(0, 1, .aload_n 0, (.null, 0, 0, [], [])), (1, 1, .iload_n 1, (.null, 1, 0, [], [])), (2, 3, .invokevirtual 186, (.null, 1, 1, [(10, 120, 2)], [551, 553, 13])), (5, 3, .ifCond .eq 12, (.null, 1, 0, [], [])), (8, 1, .iload_n 2, (.null, 2, 0, [], [])), (9, 1, .iconst 0, (.int 0, 0, 0, [], [])), (10, 1, .iconst 1, (.int 1, 0, 0, [], [])), (11, 3, .invokestatic 92, (.null, 3, 1, [(0, 118, 3)], [374, 375])), (14, 3, .ifCond .ne 6, (.null, 2, 7, [], [])), (17, 0, .nop, (.null, 1, 0, [], []))]
def k99_1 : List Ins := [(17, 2, .ldc 96, (.int (-1000001), 0, 0, [], [377])), (19, 1, .ireturn, (.null, 0, 0, [], []))]
def k99_2 : List Ins := [(20, 1, .iload_n 2, (.null, 2, 0, [], [])), (21, 3, .ifCond .ne 18, (.null, 3, 3, [], [])), (24, 1, .aload_n 0, (.null, 0, 0, [], [])), (25, 3, .getfield 64, (.null, 10, 6, [], [333])), (28, 1, .aload_n 0, (.null, 0, 0, [], [])), (29, 3, .getfield 54, (.null, 10, 4, [], [331])), (32, 1, .iload_n 1, (.null, 1, 0, [], [])), (33, 3, .invokevirtual 242, (.null, 2, 1, [(4, 34, 4)], [628, 629, 630])), (36, 3, .goto 17, (.null, 0, 0, [], [])), (53, 1, .ireturn, (.null, 0, 0, [], []))]
def k99_3 : List Ins := [(39, 1, .aload_n 0, (.null, 0, 0, [], [])), (40, 3, .getfield 64, (.null, 10, 6, [], [333])), (43, 1, .aload_n 0, (.null, 0, 0, [], [])), (44, 3, .getfield 54, (.null, 10, 4, [], [331])), (47, 1, .iconst 1, (.int 1, 0, 0, [], [])), (48, 1, .iload_n 1, (.null, 1, 0, [], [])), (49, 1, .ishl, (.null, 0, 0, [], [])), (50, 3, .invokevirtual 246, (.null, 2, 1, [(4, 35, 4)], [634, 635, 636])), (53, 1, .ireturn, (.null, 0, 0, [], []))]
def m99 : MI := (yX11_when, cX11_when, 3, (some .int), [k99_0, k99_1, k99_2, k99_3])
def k100_0 : List Ins := [(0, 1, .aload_n 0, (.null, 0, 0, [], [])), (1, 3, .invokevirtual 167, (.null, 0, 1, [(10, 122, 1)], [508, 510, 9])), (4, 3, .ifCond .eq 6, (.null, 1, 1, [], [])), (7, 2, .ldc 160, (.int (-1000002), 0, 0, [], [503])), (9, 1, .ireturn, (.null, 0, 0, [], []))]
def k100_1 : List Ins := [(10, 1, .aload_n 0, (.null, 0, 0, [], [])), (11, 3, .getfield 64, (.null, 10, 6, [], [333])), (14, 1, .aload_n 0, (.null, 0, 0, [], [])), (15, 3, .getfield 54, (.null, 10, 4, [], [331])), (18, 1, .aload_n 0, (.null, 0, 0, [], [])), (19, 3, .getfield 54, (.null, 10, 4, [], [331])), (22, 3, .invokevirtual 249, (.null, 0, 1, [(2, 20, 1)], [642, 595, 596])), (25, 3, .invokevirtual 246, (.null, 2, 1, [(4, 35, 4)], [634, 635, 636])), (28, 1, .ireturn, (.null, 0, 0, [], []))]
def m100 : MI := (yX11_over, cX11_over, 1, (some .int), [k100_0, k100_1])
def k101_0 : List Ins := [(0, 1, .aload_n 0, (.null, 0, 0, [], [])), (1, 3, .invokevirtual 167, (.null, 0, 1, [(10, 122, 1)], [508, 510, 9])), (4, 3, .ifCond .eq 6, (.null, 1, 7, [], [])), (7, 2, .ldc 160, (.int (-1000002), 0, 0, [], [503])), (9, 1, .ireturn, (.null, 0, 0, [], []))]
def k101_1 : List Ins := [(10, 1, .iload_n 1, (.null, 1, 0, [], [])), (11, 1, .iconst 1, (.int 1, 0, 0, [], [])), (12, 2, .bipush 40, (.int 40, 0, 0, [], [])), (14, 3, .invokestatic 92, (.null, 3, 1, [(0, 118, 3)], [374, 375])), (17, 3, .ifCond .eq 8, (.null, 2, 0, [], [])), (20, 1, .iload_n 2, (.null, 2, 0, [], [])), (21, 1, .iconst (-1), (.int (-1), 0, 0, [], [])), (22, 3, .if_icmp .ge 6, (.null, 3, 7, [], [])), (25, 0, .nop, (.null, 2, 0, [], []))]
def k101_2 : List Ins := [(25, 2, .ldc 96, (.int (-1000001), 0, 0, [], [377])), (27, 1, .ireturn, (.null, 0, 0, [], []))]
def k101_3 : List Ins := [(28, 1, .iload_n 2, (.null, 2, 0, [], [])), (29, 1, .aload_n 0, (.null, 0, 0, [], [])), (30, 3, .getfield 54, (.null, 10, 4, [], [331])), (33, 3, .getfield 157, (.int 0, 2, 3, [], [232])), (36, 3, .if_icmp .lt 6, (.null, 4, 7, [], [])), (39, 2, .ldc 252, (.int (-1000000), 0, 0, [], [647])), (41, 1, .ireturn, (.null, 0, 0, [], []))]
def k101_4 : List Ins := [(42, 1, .aload_n 0, (.null, 0, 0, [], [])), (43, 3, .getfield 64, (.null, 10, 6, [], [333])), (46, 1, .aload_n 0, (.null, 0, 0, [], [])), (47, 3, .getfield 54, (.null, 10, 4, [], [331])), (50, 1, .iload_n 1, (.null, 1, 0, [], [])), (51, 3, .invokevirtual 253, (.null, 2, 0, [(4, 36, 3)], [648, 649, 650])), (54, 1, .iload_n 2, (.null, 2, 0, [], [])), (55, 1, .iconst (-1), (.int (-1), 0, 0, [], [])), (56, 3, .if_icmp .ne 13, (.null, 5, 5, [], [])), (59, 1, .aload_n 0, (.null, 0, 0, [], [])), (60, 3, .getfield 64, (.null, 10, 6, [], [333])), (63, 3, .getfield 257, (.int 0, 4, 4, [], [305])), (66, 3, .goto 12, (.null, 0, 0, [], [])), (78, 1, .ireturn, (.null, 0, 0, [], []))]
def k101_5 : List Ins := [(69, 1, .aload_n 0, (.null, 0, 0, [], [])), (70, 3, .getfield 64, (.null, 10, 6, [], [333])), (73, 3, .getfield 260, (.null, 4, 3, [], [303])), (76, 1, .iload_n 2, (.null, 2, 0, [], [])), (77, 1, .iaload, (.null, 0, 0, [], [])), (78, 1, .ireturn, (.null, 0, 0, [], []))]
def m101 : MI := (yX11_order, cX11_order, 3, (some .int), [k101_0, k101_1, k101_2, k101_3, k101_4, k101_5])
def k102_0 : List Ins := [(0, 1, .aload_n 0, (.null, 0, 0, [], [])), (1, 3, .invokevirtual 167, (.null, 0, 1, [(10, 122, 1)], [508, 510, 9])), (4, 3, .ifCond .eq 6, (.null, 1, 3, [], [])), (7, 2, .ldc 160, (.int (-1000002), 0, 0, [], [503])), (9, 1, .ireturn, (.null, 0, 0, [], []))]
def k102_1 : List Ins := [(10, 1, .iload_n 1, (.null, 1, 0, [], [])), (11, 1, .iconst 1, (.int 1, 0, 0, [], [])), (12, 2, .bipush 40, (.int 40, 0, 0, [], [])), (14, 3, .invokestatic 92, (.null, 3, 1, [(0, 118, 3)], [374, 375])), (17, 3, .ifCond .ne 6, (.null, 2, 3, [], [])), (20, 2, .ldc 96, (.int (-1000001), 0, 0, [], [377])), (22, 1, .ireturn, (.null, 0, 0, [], []))]
def k102_2 : List Ins := [(23, 1, .aload_n 0, (.null, 0, 0, [], [])), (24, 3, .getfield 64, (.null, 10, 6, [], [333])), (27, 1, .aload_n 0, (.null, 0, 0, [], [])), (28, 3, .getfield 54, (.null, 10, 4, [], [331])), (31, 1, .iload_n 1, (.null, 1, 0, [], [])), (32, 3, .invokevirtual 263, (.null, 2, 1, [(4, 40, 4)], [677, 678, 679])), (35, 1, .ireturn, (.null, 0, 0, [], []))]
def m102 : MI := (yX11_need, cX11_need, 2, (some .int), [k102_0, k102_1, k102_2])
def k103_0 : List Ins := [(0, 1, .aload_n 0, (.null, 0, 0, [], [])), (1, 1, .iload_n 1, (.null, 1, 0, [], [])), (2, 3, .invokevirtual 186, (.null, 1, 1, [(10, 120, 2)], [551, 553, 13])), (5, 3, .ifCond .eq 13, (.null, 1, 0, [], [])), (8, 1, .iload_n 2, (.null, 2, 0, [], [])), (9, 1, .iconst 1, (.int 1, 0, 0, [], [])), (10, 2, .bipush 40, (.int 40, 0, 0, [], [])), (12, 3, .invokestatic 92, (.null, 3, 1, [(0, 118, 3)], [374, 375])), (15, 3, .ifCond .ne 6, (.null, 2, 7, [], [])), (18, 0, .nop, (.null, 1, 0, [], []))]
def k103_1 : List Ins := [(18, 2, .ldc 96, (.int (-1000001), 0, 0, [], [377])), (20, 1, .ireturn, (.null, 0, 0, [], []))]
def k103_2 : List Ins := [(21, 1, .aload_n 0, (.null, 0, 0, [], [])), (22, 3, .getfield 54, (.null, 10, 4, [], [331])), (25, 3, .getfield 192, (.null, 2, 9, [], [248])), (28, 1, .iload_n 1, (.null, 1, 0, [], [])), (29, 1, .iaload, (.null, 0, 0, [], [])), (30, 2, .bipush 20, (.int 20, 0, 0, [], [])), (32, 3, .if_icmp .eq 6, (.null, 3, 7, [], [])), (35, 2, .ldc 160, (.int (-1000002), 0, 0, [], [503])), (37, 1, .ireturn, (.null, 0, 0, [], []))]
def k103_3 : List Ins := [(38, 1, .aload_n 0, (.null, 0, 0, [], [])), (39, 3, .getfield 64, (.null, 10, 6, [], [333])), (42, 1, .aload_n 0, (.null, 0, 0, [], [])), (43, 3, .getfield 54, (.null, 10, 4, [], [331])), (46, 1, .iload_n 1, (.null, 1, 0, [], [])), (47, 1, .iload_n 2, (.null, 2, 0, [], [])), (48, 3, .invokevirtual 266, (.null, 3, 1, [(4, 41, 7)], [685, 686, 687])), (51, 1, .ireturn, (.null, 0, 0, [], []))]
def m103 : MI := (yX11_latest, cX11_latest, 3, (some .int), [k103_0, k103_1, k103_2, k103_3])
def k104_0 : List Ins := [(0, 1, .aload_n 0, (.null, 0, 0, [], [])), (1, 3, .invokevirtual 167, (.null, 0, 1, [(10, 122, 1)], [508, 510, 9])), (4, 3, .ifCond .eq 6, (.null, 1, 7, [], [])), (7, 2, .ldc 160, (.int (-1000002), 0, 0, [], [503])), (9, 1, .ireturn, (.null, 0, 0, [], []))]
def k104_1 : List Ins := [(10, 1, .iload_n 1, (.null, 1, 0, [], [])), (11, 1, .iconst 0, (.int 0, 0, 0, [], [])), (12, 2, .bipush 54, (.int 54, 0, 0, [], [])), (14, 3, .invokestatic 92, (.null, 3, 1, [(0, 118, 3)], [374, 375])), (17, 3, .ifCond .eq 12, (.null, 2, 0, [], [])), (20, 1, .iload_n 2, (.null, 2, 0, [], [])), (21, 1, .iconst 0, (.int 0, 0, 0, [], [])), (22, 1, .iconst 2, (.int 2, 0, 0, [], [])), (23, 3, .invokestatic 92, (.null, 3, 1, [(0, 118, 3)], [374, 375])), (26, 3, .ifCond .ne 6, (.null, 3, 7, [], [])), (29, 0, .nop, (.null, 2, 0, [], []))]
def k104_2 : List Ins := [(29, 2, .ldc 96, (.int (-1000001), 0, 0, [], [377])), (31, 1, .ireturn, (.null, 0, 0, [], []))]
def k104_3 : List Ins := [(32, 1, .aload_n 0, (.null, 0, 0, [], [])), (33, 1, .iload_n 1, (.null, 1, 0, [], [])), (34, 1, .iload_n 2, (.null, 2, 0, [], [])), (35, 3, .invokevirtual 270, (.null, 2, 1, [(10, 127, 8)], [694, 696, 18])), (38, 1, .ireturn, (.null, 0, 0, [], []))]
def m104 : MI := (yX11_sets, cX11_sets, 3, (some .int), [k104_0, k104_1, k104_2, k104_3])
def k105_0 : List Ins := [(0, 1, .aload_n 0, (.null, 0, 0, [], [])), (1, 1, .iload_n 1, (.null, 1, 0, [], [])), (2, 3, .invokevirtual 186, (.null, 1, 1, [(10, 120, 2)], [551, 553, 13])), (5, 3, .ifCond .eq 14, (.null, 1, 0, [], [])), (8, 1, .iload_n 2, (.null, 2, 0, [], [])), (9, 1, .iconst 0, (.int 0, 0, 0, [], [])), (10, 3, .sipush 999, (.int 999, 0, 0, [], [])), (13, 3, .invokestatic 92, (.null, 3, 1, [(0, 118, 3)], [374, 375])), (16, 3, .ifCond .ne 6, (.null, 2, 7, [], [])), (19, 0, .nop, (.null, 1, 0, [], []))]
def k105_1 : List Ins := [(19, 2, .ldc 96, (.int (-1000001), 0, 0, [], [377])), (21, 1, .ireturn, (.null, 0, 0, [], []))]
def k105_2 : List Ins := [(22, 1, .aload_n 0, (.null, 0, 0, [], [])), (23, 1, .iload_n 1, (.null, 1, 0, [], [])), (24, 1, .iload_n 2, (.null, 2, 0, [], [])), (25, 3, .invokevirtual 274, (.null, 2, 1, [(10, 128, 7)], [706, 708, 19])), (28, 1, .ireturn, (.null, 0, 0, [], []))]
def m105 : MI := (yX11_share, cX11_share, 3, (some .int), [k105_0, k105_1, k105_2])
def k106_0 : List Ins := [(0, 1, .aload_n 0, (.null, 0, 0, [], [])), (1, 3, .invokevirtual 167, (.null, 0, 1, [(10, 122, 1)], [508, 510, 9])), (4, 3, .ifCond .eq 6, (.null, 1, 7, [], [])), (7, 2, .ldc 160, (.int (-1000002), 0, 0, [], [503])), (9, 1, .ireturn, (.null, 0, 0, [], []))]
def k106_1 : List Ins := [(10, 1, .iload_n 1, (.null, 1, 0, [], [])), (11, 1, .iconst 0, (.int 0, 0, 0, [], [])), (12, 1, .iconst 4, (.int 4, 0, 0, [], [])), (13, 3, .invokestatic 92, (.null, 3, 1, [(0, 118, 3)], [374, 375])), (16, 3, .ifCond .eq 13, (.null, 2, 0, [], [])), (19, 1, .iload_n 2, (.null, 2, 0, [], [])), (20, 1, .iconst 1, (.int 1, 0, 0, [], [])), (21, 2, .bipush 20, (.int 20, 0, 0, [], [])), (23, 3, .invokestatic 92, (.null, 3, 1, [(0, 118, 3)], [374, 375])), (26, 3, .ifCond .ne 6, (.null, 3, 7, [], [])), (29, 0, .nop, (.null, 2, 0, [], []))]
def k106_2 : List Ins := [(29, 2, .ldc 96, (.int (-1000001), 0, 0, [], [377])), (31, 1, .ireturn, (.null, 0, 0, [], []))]
def k106_3 : List Ins := [(32, 1, .aload_n 0, (.null, 0, 0, [], [])), (33, 3, .getfield 64, (.null, 10, 6, [], [333])), (36, 1, .aload_n 0, (.null, 0, 0, [], [])), (37, 3, .getfield 54, (.null, 10, 4, [], [331])), (40, 1, .iload_n 1, (.null, 1, 0, [], [])), (41, 1, .iload_n 2, (.null, 2, 0, [], [])), (42, 3, .invokevirtual 277, (.null, 3, 1, [(4, 42, 4)], [714, 715, 716])), (45, 1, .ireturn, (.null, 0, 0, [], []))]
def m106 : MI := (yX11_byTurns, cX11_byTurns, 3, (some .int), [k106_0, k106_1, k106_2, k106_3])
def k107_0 : List Ins := [(0, 1, .aload_n 0, (.null, 0, 0, [], [])), (1, 1, .iload_n 1, (.null, 1, 0, [], [])), (2, 3, .invokevirtual 186, (.null, 1, 1, [(10, 120, 2)], [551, 553, 13])), (5, 3, .ifCond .eq 30, (.null, 1, 0, [], [])), (8, 1, .iload_n 2, (.null, 2, 0, [], [])), (9, 1, .iconst 0, (.int 0, 0, 0, [], [])), (10, 1, .iconst 4, (.int 4, 0, 0, [], [])), (11, 3, .invokestatic 92, (.null, 3, 1, [(0, 118, 3)], [374, 375])), (14, 3, .ifCond .eq 21, (.null, 1, 0, [], [])), (17, 1, .iload_n 3, (.null, 3, 0, [], [])), (18, 3, .invokestatic 88, (.null, 1, 1, [(0, 119, 1)], [371, 372])), (21, 3, .ifCond .eq 14, (.null, 1, 0, [], [])), (24, 2, .iload 5, (.null, 5, 0, [], [])), (26, 1, .iconst 1, (.int 1, 0, 0, [], [])), (27, 2, .bipush 12, (.int 12, 0, 0, [], [])), (29, 3, .invokestatic 92, (.null, 3, 1, [(0, 118, 3)], [374, 375])), (32, 3, .ifCond .ne 6, (.null, 2, 63, [], [])), (35, 0, .nop, (.null, 1, 0, [], []))]
def k107_1 : List Ins := [(35, 2, .ldc 96, (.int (-1000001), 0, 0, [], [377])), (37, 1, .ireturn, (.null, 0, 0, [], []))]
def k107_2 : List Ins := [(38, 1, .aload_n 0, (.null, 0, 0, [], [])), (39, 3, .getfield 12, (.null, 10, 0, [], [327])), (42, 1, .iload_n 3, (.null, 3, 0, [], [])), (43, 3, .invokevirtual 108, (.null, 1, 1, [(8, 70, 2)], [395, 396, 397])), (46, 3, .ifCond .eq 9, (.null, 3, 63, [], [])), (49, 1, .aload_n 0, (.null, 0, 0, [], [])), (50, 1, .iconst 1, (.int 1, 0, 0, [], [])), (51, 3, .invokevirtual 97, (.null, 1, 1, [(10, 123, 2)], [378, 380, 0])), (54, 1, .ireturn, (.null, 0, 0, [], []))]
def k107_3 : List Ins := [(55, 1, .aload_n 0, (.null, 0, 0, [], [])), (56, 3, .getfield 12, (.null, 10, 0, [], [327])), (59, 1, .iload_n 3, (.null, 3, 0, [], [])), (60, 2, .iload 4, (.null, 4, 0, [], [])), (62, 2, .iload 5, (.null, 5, 0, [], [])), (64, 3, .invokevirtual 111, (.null, 3, 1, [(8, 71, 4)], [399, 400, 401])), (67, 3, .ifCond .ne 9, (.null, 4, 63, [], [])), (70, 1, .aload_n 0, (.null, 0, 0, [], [])), (71, 1, .iconst 2, (.int 2, 0, 0, [], [])), (72, 3, .invokevirtual 97, (.null, 1, 1, [(10, 123, 2)], [378, 380, 0])), (75, 1, .ireturn, (.null, 0, 0, [], []))]
def k107_4 : List Ins := [(76, 1, .aload_n 0, (.null, 0, 0, [], [])), (77, 3, .getfield 64, (.null, 10, 6, [], [333])), (80, 1, .aload_n 0, (.null, 0, 0, [], [])), (81, 3, .getfield 12, (.null, 10, 0, [], [327])), (84, 3, .getfield 122, (.null, 8, 2, [], [112])), (87, 1, .iload_n 3, (.null, 3, 0, [], [])), (88, 1, .aaload, (.null, 3, 0, [], [])), (89, 2, .iload 4, (.null, 4, 0, [], [])), (91, 2, .iload 5, (.null, 5, 0, [], [])), (93, 3, .invokevirtual 280, (.null, 3, 0, [(4, 44, 4)], [737, 738, 739])), (96, 1, .aload_n 0, (.null, 0, 0, [], [])), (97, 1, .aload_n 0, (.null, 0, 0, [], [])), (98, 1, .iload_n 1, (.null, 1, 0, [], [])), (99, 1, .iload_n 2, (.null, 2, 0, [], [])), (100, 3, .invokevirtual 284, (.null, 2, 1, [(10, 129, 3)], [741, 743, 21])), (103, 3, .invokevirtual 105, (.null, 1, 1, [(10, 124, 2)], [387, 389, 1])), (106, 1, .ireturn, (.null, 0, 0, [], []))]
def m107 : MI := (yX11_who, cX11_who, 6, (some .int), [k107_0, k107_1, k107_2, k107_3, k107_4])
def k108_0 : List Ins := [(0, 1, .aload_n 0, (.null, 0, 0, [], [])), (1, 1, .iload_n 1, (.null, 1, 0, [], [])), (2, 3, .invokevirtual 186, (.null, 1, 1, [(10, 120, 2)], [551, 553, 13])), (5, 3, .ifCond .eq 33, (.null, 1, 0, [], [])), (8, 1, .iload_n 2, (.null, 2, 0, [], [])), (9, 1, .iconst 0, (.int 0, 0, 0, [], [])), (10, 2, .bipush 60, (.int 60, 0, 0, [], [])), (12, 3, .invokestatic 92, (.null, 3, 1, [(0, 118, 3)], [374, 375])), (15, 3, .ifCond .eq 23, (.null, 1, 0, [], [])), (18, 1, .iload_n 3, (.null, 3, 0, [], [])), (19, 1, .iconst 0, (.int 0, 0, 0, [], [])), (20, 2, .bipush 10, (.int 10, 0, 0, [], [])), (22, 3, .invokestatic 92, (.null, 3, 1, [(0, 118, 3)], [374, 375])), (25, 3, .ifCond .eq 13, (.null, 1, 0, [], [])), (28, 2, .iload 4, (.null, 4, 0, [], [])), (30, 1, .iconst 0, (.int 0, 0, 0, [], [])), (31, 1, .iconst 1, (.int 1, 0, 0, [], [])), (32, 3, .invokestatic 92, (.null, 3, 1, [(0, 118, 3)], [374, 375])), (35, 3, .ifCond .ne 7, (.null, 2, 31, [], [])), (38, 0, .nop, (.null, 1, 0, [], []))]
def k108_1 : List Ins := [(38, 3, .ldc2_w 287, (.long (-1000001), 0, 0, [], [774])), (41, 1, .lreturn, (.null, 0, 0, [], []))]
def k108_2 : List Ins := [(42, 1, .aload_n 0, (.null, 0, 0, [], [])), (43, 3, .getfield 64, (.null, 10, 6, [], [333])), (46, 1, .aload_n 0, (.null, 0, 0, [], [])), (47, 3, .getfield 54, (.null, 10, 4, [], [331])), (50, 1, .iload_n 1, (.null, 1, 0, [], [])), (51, 1, .iload_n 2, (.null, 2, 0, [], [])), (52, 1, .iload_n 3, (.null, 3, 0, [], [])), (53, 2, .iload 4, (.null, 4, 0, [], [])), (55, 3, .invokevirtual 289, (.null, 5, 2, [(4, 48, 13)], [775, 776, 777])), (58, 1, .lreturn, (.null, 0, 0, [], []))]
def m108 : MI := (yX11_lost, cX11_lost, 5, (some .long), [k108_0, k108_1, k108_2])
def k109_0 : List Ins := [(0, 1, .aload_n 0, (.null, 0, 0, [], [])), (1, 3, .invokevirtual 167, (.null, 0, 1, [(10, 122, 1)], [508, 510, 9])), (4, 3, .ifCond .eq 6, (.null, 1, 15, [], [])), (7, 2, .ldc 160, (.int (-1000002), 0, 0, [], [503])), (9, 1, .ireturn, (.null, 0, 0, [], []))]
def k109_1 : List Ins := [(10, 1, .iload_n 1, (.null, 1, 0, [], [])), (11, 1, .iconst 0, (.int 0, 0, 0, [], [])), (12, 2, .bipush 60, (.int 60, 0, 0, [], [])), (14, 3, .invokestatic 92, (.null, 3, 1, [(0, 118, 3)], [374, 375])), (17, 3, .ifCond .eq 23, (.null, 2, 0, [], [])), (20, 1, .iload_n 2, (.null, 2, 0, [], [])), (21, 1, .iconst 1, (.int 1, 0, 0, [], [])), (22, 3, .ldc_w 293, (.int 999999, 0, 0, [], [796])), (25, 3, .invokestatic 92, (.null, 3, 1, [(0, 118, 3)], [374, 375])), (28, 3, .ifCond .eq 12, (.null, 2, 0, [], [])), (31, 1, .iload_n 3, (.null, 3, 0, [], [])), (32, 1, .iconst 0, (.int 0, 0, 0, [], [])), (33, 1, .iconst 1, (.int 1, 0, 0, [], [])), (34, 3, .invokestatic 92, (.null, 3, 1, [(0, 118, 3)], [374, 375])), (37, 3, .ifCond .ne 6, (.null, 3, 15, [], [])), (40, 0, .nop, (.null, 2, 0, [], []))]
def k109_2 : List Ins := [(40, 2, .ldc 96, (.int (-1000001), 0, 0, [], [377])), (42, 1, .ireturn, (.null, 0, 0, [], []))]
def k109_3 : List Ins := [(43, 1, .aload_n 0, (.null, 0, 0, [], [])), (44, 3, .getfield 64, (.null, 10, 6, [], [333])), (47, 1, .aload_n 0, (.null, 0, 0, [], [])), (48, 3, .getfield 54, (.null, 10, 4, [], [331])), (51, 1, .iload_n 1, (.null, 1, 0, [], [])), (52, 1, .iload_n 2, (.null, 2, 0, [], [])), (53, 1, .iload_n 3, (.null, 3, 0, [], [])), (54, 3, .invokevirtual 294, (.null, 4, 1, [(4, 52, 11)], [797, 798, 799])), (57, 1, .ireturn, (.null, 0, 0, [], []))]
def m109 : MI := (yX11_drawn, cX11_drawn, 4, (some .int), [k109_0, k109_1, k109_2, k109_3])
def k110_0 : List Ins := [(0, 1, .iload_n 1, (.null, 1, 0, [], [])), (1, 1, .iconst 0, (.int 0, 0, 0, [], [])), (2, 1, .iconst 1, (.int 1, 0, 0, [], [])), (3, 3, .invokestatic 92, (.null, 3, 1, [(0, 118, 3)], [374, 375])), (6, 3, .ifCond .ne 6, (.null, 1, 3, [], [])), (9, 2, .ldc 96, (.int (-1000001), 0, 0, [], [377])), (11, 1, .ireturn, (.null, 0, 0, [], []))]
def k110_1 : List Ins := [(12, 1, .aload_n 0, (.null, 0, 0, [], [])), (13, 3, .invokevirtual 167, (.null, 0, 1, [(10, 122, 1)], [508, 510, 9])), (16, 3, .ifCond .eq 6, (.null, 2, 3, [], [])), (19, 2, .ldc 160, (.int (-1000002), 0, 0, [], [503])), (21, 1, .ireturn, (.null, 0, 0, [], []))]
def k110_2 : List Ins := [(22, 1, .aload_n 0, (.null, 0, 0, [], [])), (23, 3, .getfield 72, (.null, 10, 8, [], [335])), (26, 1, .iload_n 1, (.null, 1, 0, [], [])), (27, 1, .aaload, (.null, 1, 0, [], [])), (28, 1, .aload_n 0, (.null, 0, 0, [], [])), (29, 3, .getfield 54, (.null, 10, 4, [], [331])), (32, 3, .invokevirtual 161, (.null, 1, 0, [(2, 9, 2)], [486, 487, 488])), (35, 1, .iconst 1, (.int 1, 0, 0, [], [])), (36, 1, .ireturn, (.null, 0, 0, [], []))]
def m110 : MI := (yX11_image, cX11_image, 2, (some .int), [k110_0, k110_1, k110_2])
def k111_0 : List Ins := [(0, 1, .iload_n 1, (.null, 1, 0, [], [])), (1, 1, .iconst 0, (.int 0, 0, 0, [], [])), (2, 1, .iconst 1, (.int 1, 0, 0, [], [])), (3, 3, .invokestatic 92, (.null, 3, 1, [(0, 118, 3)], [374, 375])), (6, 3, .ifCond .ne 6, (.null, 1, 3, [], [])), (9, 2, .ldc 96, (.int (-1000001), 0, 0, [], [377])), (11, 1, .ireturn, (.null, 0, 0, [], []))]
def k111_1 : List Ins := [(12, 1, .aload_n 0, (.null, 0, 0, [], [])), (13, 3, .getfield 72, (.null, 10, 8, [], [335])), (16, 1, .iload_n 1, (.null, 1, 0, [], [])), (17, 1, .aaload, (.null, 1, 0, [], [])), (18, 3, .getfield 157, (.int 0, 2, 3, [], [232])), (21, 3, .ifCond .ne 6, (.null, 2, 3, [], [])), (24, 2, .ldc 160, (.int (-1000002), 0, 0, [], [503])), (26, 1, .ireturn, (.null, 0, 0, [], []))]
def k111_2 : List Ins := [(27, 1, .aload_n 0, (.null, 0, 0, [], [])), (28, 1, .aload_n 0, (.null, 0, 0, [], [])), (29, 3, .getfield 72, (.null, 10, 8, [], [335])), (32, 1, .iload_n 1, (.null, 1, 0, [], [])), (33, 1, .aaload, (.null, 1, 0, [], [])), (34, 3, .invokevirtual 153, (.null, 1, 0, [(10, 125, 2)], [482, 484, 8])), (37, 1, .iconst 1, (.int 1, 0, 0, [], [])), (38, 1, .ireturn, (.null, 0, 0, [], []))]
def m111 : MI := (yX11_restore, cX11_restore, 2, (some .int), [k111_0, k111_1, k111_2])
def k112_0 : List Ins := [(0, 1, .aload_n 0, (.null, 0, 0, [], [])), (1, 1, .iload_n 1, (.null, 1, 0, [], [])), (2, 3, .invokevirtual 186, (.null, 1, 1, [(10, 120, 2)], [551, 553, 13])), (5, 3, .ifCond .eq 15, (.null, 1, 0, [], [])), (8, 1, .aload_n 0, (.null, 0, 0, [], [])), (9, 3, .getfield 54, (.null, 10, 4, [], [331])), (12, 3, .getfield 298, (.null, 2, 5, [], [237])), (15, 1, .iload_n 1, (.null, 1, 0, [], [])), (16, 1, .iaload, (.null, 0, 0, [], [])), (17, 3, .goto 5, (.null, 0, 0, [], [])), (22, 1, .ireturn, (.null, 0, 0, [], []))]
def k112_1 : List Ins := [(20, 2, .ldc 96, (.int (-1000001), 0, 0, [], [377])), (22, 1, .ireturn, (.null, 0, 0, [], []))]
def m112 : MI := (yX11_kind, cX11_kind, 2, (some .int), [k112_0, k112_1])
def k113_0 : List Ins := [(0, 1, .aload_n 0, (.null, 0, 0, [], [])), (1, 1, .iload_n 1, (.null, 1, 0, [], [])), (2, 3, .invokevirtual 186, (.null, 1, 1, [(10, 120, 2)], [551, 553, 13])), (5, 3, .ifCond .eq 12, (.null, 1, 0, [], [])), (8, 1, .iload_n 2, (.null, 2, 0, [], [])), (9, 1, .iconst 0, (.int 0, 0, 0, [], [])), (10, 1, .iconst 5, (.int 5, 0, 0, [], [])), (11, 3, .invokestatic 92, (.null, 3, 1, [(0, 118, 3)], [374, 375])), (14, 3, .ifCond .ne 6, (.null, 2, 7, [], [])), (17, 0, .nop, (.null, 1, 0, [], []))]
def k113_1 : List Ins := [(17, 2, .ldc 96, (.int (-1000001), 0, 0, [], [377])), (19, 1, .ireturn, (.null, 0, 0, [], []))]
def k113_2 : List Ins := [(20, 1, .aload_n 0, (.null, 0, 0, [], [])), (21, 1, .iload_n 1, (.null, 1, 0, [], [])), (22, 3, .invokevirtual 301, (.null, 1, 3, [(10, 131, 2)], [823, 825, 25])), (25, 1, .iload_n 2, (.null, 2, 0, [], [])), (26, 3, .invokestatic 305, (.null, 2, 1, [(0, 132, 2)], [827, 828])), (29, 3, .ifCond .ne 9, (.null, 3, 3, [], [])), (32, 1, .aload_n 0, (.null, 0, 0, [], [])), (33, 1, .iconst 3, (.int 3, 0, 0, [], [])), (34, 3, .invokevirtual 97, (.null, 1, 1, [(10, 123, 2)], [378, 380, 0])), (37, 1, .ireturn, (.null, 0, 0, [], []))]
def k113_3 : List Ins := [(38, 1, .aload_n 0, (.null, 0, 0, [], [])), (39, 1, .iload_n 1, (.null, 1, 0, [], [])), (40, 3, .invokevirtual 105, (.null, 1, 1, [(10, 124, 2)], [387, 389, 1])), (43, 1, .ireturn, (.null, 0, 0, [], []))]
def m113 : MI := (yX11_as, cX11_as, 3, (some .int), [k113_0, k113_1, k113_2, k113_3])
def k114_0 : List Ins := [(0, 1, .aload_n 0, (.null, 0, 0, [], [])), (1, 1, .iload_n 1, (.null, 1, 0, [], [])), (2, 3, .invokevirtual 186, (.null, 1, 1, [(10, 120, 2)], [551, 553, 13])), (5, 3, .ifCond .eq 12, (.null, 1, 0, [], [])), (8, 1, .iload_n 2, (.null, 2, 0, [], [])), (9, 1, .iconst 0, (.int 0, 0, 0, [], [])), (10, 1, .iconst 1, (.int 1, 0, 0, [], [])), (11, 3, .invokestatic 92, (.null, 3, 1, [(0, 118, 3)], [374, 375])), (14, 3, .ifCond .ne 6, (.null, 2, 7, [], [])), (17, 0, .nop, (.null, 1, 0, [], []))]
def k114_1 : List Ins := [(17, 2, .ldc 96, (.int (-1000001), 0, 0, [], [377])), (19, 1, .ireturn, (.null, 0, 0, [], []))]
def k114_2 : List Ins := [(20, 1, .aload_n 0, (.null, 0, 0, [], [])), (21, 3, .getfield 26, (.null, 10, 2, [], [329])), (24, 1, .iload_n 1, (.null, 1, 0, [], [])), (25, 1, .aload_n 0, (.null, 0, 0, [], [])), (26, 3, .getfield 54, (.null, 10, 4, [], [331])), (29, 3, .getfield 210, (.null, 2, 7, [], [242])), (32, 1, .iload_n 1, (.null, 1, 0, [], [])), (33, 1, .iaload, (.null, 0, 0, [], [])), (34, 1, .aload_n 0, (.null, 0, 0, [], [])), (35, 3, .getfield 54, (.null, 10, 4, [], [331])), (38, 3, .getfield 216, (.null, 2, 10, [], [250])), (41, 1, .iload_n 1, (.null, 1, 0, [], [])), (42, 1, .iaload, (.null, 0, 0, [], [])), (43, 3, .invokevirtual 309, (.null, 3, 0, [(0, 1, 4)], [834, 835, 836])), (46, 1, .aload_n 0, (.null, 0, 0, [], [])), (47, 1, .iload_n 1, (.null, 1, 0, [], [])), (48, 3, .invokevirtual 301, (.null, 1, 3, [(10, 131, 2)], [823, 825, 25])), (51, 1, .astore_n 3, (.null, 3, 0, [], [])), (52, 1, .iload_n 2, (.null, 2, 0, [], [])), (53, 3, .ifCond .ne 14, (.null, 3, 9, [], [])), (56, 1, .aload_n 3, (.null, 3, 0, [], [])), (57, 1, .aload_n 0, (.null, 0, 0, [], [])), (58, 3, .getfield 26, (.null, 10, 2, [], [329])), (61, 3, .invokevirtual 312, (.null, 1, 1, [(1, 4, 3), (9, 78, 2), (3, 4, 3), (5, 54, 2), (7, 68, 2)], [838, 840, 839, 27, 841, 842, 879, 880, 868, 842, 869, 870, 874, 875])), (64, 3, .goto 11, (.null, 0, 0, [], [])), (75, 1, .ireturn, (.null, 0, 0, [], []))]
def k114_3 : List Ins := [(67, 1, .aload_n 3, (.null, 3, 0, [], [])), (68, 1, .aload_n 0, (.null, 0, 0, [], [])), (69, 3, .getfield 26, (.null, 10, 2, [], [329])), (72, 3, .invokevirtual 316, (.null, 1, 1, [(1, 5, 2), (9, 79, 2), (3, 30, 2), (5, 55, 3), (7, 55, 3)], [884, 1412, 865, 28, 1415, 850, 1421, 859, 1416, 854, 1417, 885, 1420, 885])), (75, 1, .ireturn, (.null, 0, 0, [], []))]
def m114 : MI := (yX11_ask, cX11_ask, 4, (some .int), [k114_0, k114_1, k114_2, k114_3])
def k115_0 : List Ins := [(0, 1, .iload_n 1, (.null, 1, 0, [], [])), (1, 1, .iconst 0, (.int 0, 0, 0, [], [])), (2, 1, .aload_n 0, (.null, 0, 0, [], [])), (3, 3, .getfield 26, (.null, 10, 2, [], [329])), (6, 3, .getfield 319, (.int 0, 0, 1, [], [155])), (9, 1, .iconst 1, (.int 1, 0, 0, [], [])), (10, 1, .isub, (.null, 0, 0, [], [])), (11, 3, .invokestatic 92, (.null, 3, 1, [(0, 118, 3)], [374, 375])), (14, 3, .ifCond .eq 15, (.null, 1, 0, [], [])), (17, 1, .aload_n 0, (.null, 0, 0, [], [])), (18, 3, .getfield 26, (.null, 10, 2, [], [329])), (21, 3, .getfield 322, (.null, 0, 0, [], [153])), (24, 1, .iload_n 1, (.null, 1, 0, [], [])), (25, 1, .iaload, (.null, 0, 0, [], [])), (26, 3, .goto 5, (.null, 0, 0, [], [])), (31, 1, .ireturn, (.null, 0, 0, [], []))]
def k115_1 : List Ins := [(29, 2, .ldc 252, (.int (-1000000), 0, 0, [], [647])), (31, 1, .ireturn, (.null, 0, 0, [], []))]
def m115 : MI := (yX11_trace, cX11_trace, 2, (some .int), [k115_0, k115_1])
def k116_0 : List Ins := [(0, 1, .iload_n 1, (.null, 1, 0, [], [])), (1, 47, .tableswitch 114 0 7 #[47, 55, 63, 71, 79, 93, 101, 106], (.null, 9, 0, [(0, 1, 1), (1, 2, 1), (2, 3, 1), (3, 4, 1), (4, 5, 1), (5, 6, 1), (6, 7, 1), (7, 8, 1)], []))]
def k116_1 : List Ins := [(48, 1, .aload_n 0, (.null, 0, 0, [], [])), (49, 3, .getfield 12, (.null, 10, 0, [], [327])), (52, 3, .invokevirtual 325, (.null, 0, 1, [(8, 75, 3)], [897, 898, 899])), (55, 1, .ireturn, (.null, 0, 0, [], []))]
def k116_2 : List Ins := [(56, 1, .aload_n 0, (.null, 0, 0, [], [])), (57, 3, .getfield 54, (.null, 10, 4, [], [331])), (60, 3, .getfield 157, (.int 0, 2, 3, [], [232])), (63, 1, .ireturn, (.null, 0, 0, [], []))]
def k116_3 : List Ins := [(64, 1, .aload_n 0, (.null, 0, 0, [], [])), (65, 3, .getfield 54, (.null, 10, 4, [], [331])), (68, 3, .getfield 228, (.int 0, 2, 0, [], [221])), (71, 1, .ireturn, (.null, 0, 0, [], []))]
def k116_4 : List Ins := [(72, 1, .aload_n 0, (.null, 0, 0, [], [])), (73, 3, .getfield 54, (.null, 10, 4, [], [331])), (76, 3, .getfield 171, (.int 0, 2, 2, [], [227])), (79, 1, .ireturn, (.null, 0, 0, [], []))]
def k116_5 : List Ins := [(80, 1, .aload_n 0, (.null, 0, 0, [], [])), (81, 3, .getfield 54, (.null, 10, 4, [], [331])), (84, 3, .getfield 180, (.null, 2, 13, [], [257])), (87, 2, .bipush 21, (.int 21, 0, 0, [], [])), (89, 1, .iaload, (.null, 0, 0, [], [])), (90, 3, .invokestatic 328, (.null, 1, 1, [(0, 228, 1)], [762, 664])), (93, 1, .ireturn, (.null, 0, 0, [], []))]
def k116_6 : List Ins := [(94, 1, .aload_n 0, (.null, 0, 0, [], [])), (95, 3, .getfield 54, (.null, 10, 4, [], [331])), (98, 3, .invokevirtual 239, (.null, 0, 1, [(2, 24, 3)], [620, 621, 622])), (101, 1, .ireturn, (.null, 0, 0, [], []))]
def k116_7 : List Ins := [(102, 1, .aload_n 0, (.null, 0, 0, [], [])), (103, 3, .getfield 75, (.int 0, 10, 9, [], [336])), (106, 1, .ireturn, (.null, 0, 0, [], []))]
def k116_8 : List Ins := [(107, 1, .aload_n 0, (.null, 0, 0, [], [])), (108, 3, .getfield 19, (.null, 10, 1, [], [328])), (111, 3, .getfield 135, (.int 0, 6, 1, [], [129])), (114, 1, .ireturn, (.null, 0, 0, [], []))]
def k116_9 : List Ins := [(115, 2, .ldc 96, (.int (-1000001), 0, 0, [], [377])), (117, 1, .ireturn, (.null, 0, 0, [], []))]
def m116 : MI := (yX11_count, cX11_count, 2, (some .int), [k116_0, k116_1, k116_2, k116_3, k116_4, k116_5, k116_6, k116_7, k116_8, k116_9])
def k117_0 : List Ins := [(0, 1, .aload_n 0, (.null, 0, 0, [], [])), (1, 3, .getfield 85, (.int 0, 10, 12, [], [339])), (4, 1, .ireturn, (.null, 0, 0, [], []))]
def m117 : MI := (yX11_status, cX11_status, 1, (some .int), [k117_0])
def k118_0 : List Ins := [(0, 1, .iload_n 0, (.null, 0, 0, [], [])), (1, 1, .iload_n 1, (.null, 1, 0, [], [])), (2, 3, .if_icmp .lt 12, (.null, 1, 0, [], [])), (5, 1, .iload_n 0, (.null, 0, 0, [], [])), (6, 1, .iload_n 2, (.null, 2, 0, [], [])), (7, 3, .if_icmp .gt 7, (.null, 1, 0, [], [])), (10, 1, .iconst 1, (.int 1, 0, 0, [], [])), (11, 3, .goto 4, (.null, 0, 0, [], [])), (15, 1, .ireturn, (.null, 1, 0, [], []))]
def k118_1 : List Ins := [(14, 1, .iconst 0, (.int 0, 0, 0, [], [])), (15, 1, .ireturn, (.null, 1, 0, [], []))]
def m118 : MI := (yX11_within, cX11_within, 3, (some .boolean), [k118_0, k118_1])
def k119_0 : List Ins := [(0, 1, .iload_n 0, (.null, 0, 0, [], [])), (1, 1, .iconst 0, (.int 0, 0, 0, [], [])), (2, 2, .bipush 7, (.int 7, 0, 0, [], [])), (4, 3, .invokestatic 92, (.null, 3, 1, [(0, 118, 3)], [374, 375])), (7, 1, .ireturn, (.null, 1, 0, [], []))]
def m119 : MI := (yX11_isRow, cX11_isRow, 1, (some .boolean), [k119_0])
def k120_0 : List Ins := [(0, 1, .iload_n 1, (.null, 1, 0, [], [])), (1, 1, .iconst 0, (.int 0, 0, 0, [], [])), (2, 1, .aload_n 0, (.null, 0, 0, [], [])), (3, 3, .getfield 54, (.null, 10, 4, [], [331])), (6, 3, .getfield 157, (.int 0, 2, 3, [], [232])), (9, 1, .iconst 1, (.int 1, 0, 0, [], [])), (10, 1, .isub, (.null, 0, 0, [], [])), (11, 3, .invokestatic 92, (.null, 3, 1, [(0, 118, 3)], [374, 375])), (14, 1, .ireturn, (.null, 1, 0, [], []))]
def m120 : MI := (yX11_isLetter, cX11_isLetter, 2, (some .boolean), [k120_0])
def k121_0 : List Ins := [(0, 1, .iload_n 1, (.null, 1, 0, [], [])), (1, 1, .iconst 0, (.int 0, 0, 0, [], [])), (2, 1, .aload_n 0, (.null, 0, 0, [], [])), (3, 3, .getfield 54, (.null, 10, 4, [], [331])), (6, 3, .getfield 228, (.int 0, 2, 0, [], [221])), (9, 1, .iconst 1, (.int 1, 0, 0, [], [])), (10, 1, .isub, (.null, 0, 0, [], [])), (11, 3, .invokestatic 92, (.null, 3, 1, [(0, 118, 3)], [374, 375])), (14, 1, .ireturn, (.null, 1, 0, [], []))]
def m121 : MI := (yX11_isFloor, cX11_isFloor, 2, (some .boolean), [k121_0])
def k122_0 : List Ins := [(0, 1, .aload_n 0, (.null, 0, 0, [], [])), (1, 3, .getfield 54, (.null, 10, 4, [], [331])), (4, 3, .getfield 157, (.int 0, 2, 3, [], [232])), (7, 3, .ifCond .ne 7, (.null, 1, 0, [], [])), (10, 1, .iconst 1, (.int 1, 0, 0, [], [])), (11, 3, .goto 4, (.null, 0, 0, [], [])), (15, 1, .ireturn, (.null, 1, 0, [], []))]
def k122_1 : List Ins := [(14, 1, .iconst 0, (.int 0, 0, 0, [], [])), (15, 1, .ireturn, (.null, 1, 0, [], []))]
def m122 : MI := (yX11_hasNoHouse, cX11_hasNoHouse, 1, (some .boolean), [k122_0, k122_1])
def k123_0 : List Ins := [(0, 1, .aload_n 0, (.null, 0, 0, [], [])), (1, 1, .iload_n 1, (.null, 1, 0, [], [])), (2, 3, .putfield 85, (.int 0, 10, 12, [], [339])), (5, 3, .ldc_w 333, (.int (-1000010), 0, 0, [], [382])), (8, 1, .iload_n 1, (.null, 1, 0, [], [])), (9, 1, .isub, (.null, 0, 0, [], [])), (10, 1, .ireturn, (.null, 0, 0, [], []))]
def m123 : MI := (yX11_found, cX11_found, 2, (some .int), [k123_0])
def k124_0 : List Ins := [(0, 1, .aload_n 0, (.null, 0, 0, [], [])), (1, 1, .iconst 0, (.int 0, 0, 0, [], [])), (2, 3, .putfield 85, (.int 0, 10, 12, [], [339])), (5, 1, .iload_n 1, (.null, 1, 0, [], [])), (6, 1, .ireturn, (.null, 0, 0, [], []))]
def m124 : MI := (yX11_foundNothing, cX11_foundNothing, 2, (some .int), [k124_0])
def k125_0 : List Ins := [(0, 1, .aload_n 0, (.null, 0, 0, [], [])), (1, 3, .getfield 54, (.null, 10, 4, [], [331])), (4, 1, .aload_n 1, (.null, 1, 0, [], [])), (5, 3, .invokevirtual 161, (.null, 1, 0, [(2, 9, 2)], [486, 487, 488])), (8, 1, .aload_n 0, (.null, 0, 0, [], [])), (9, 1, .iconst 0, (.int 0, 0, 0, [], [])), (10, 3, .putfield 75, (.int 0, 10, 9, [], [336])), (13, 1, .aload_n 0, (.null, 0, 0, [], [])), (14, 3, .getfield 64, (.null, 10, 6, [], [333])), (17, 3, .invokevirtual 164, (.null, 0, 0, [(4, 32, 1)], [491, 492, 493])), (20, 1, .return_, (.null, 0, 0, [], []))]
def m125 : MI := (yX11_standAs, cX11_standAs, 2, none, [k125_0])
def k126_0 : List Ins := [(0, 1, .aload_n 0, (.null, 0, 0, [], [])), (1, 3, .getfield 68, (.null, 10, 7, [], [334])), (4, 1, .aload_n 0, (.null, 0, 0, [], [])), (5, 3, .getfield 79, (.int 0, 10, 10, [], [337])), (8, 1, .aaload, (.null, 1, 0, [], [])), (9, 1, .aload_n 0, (.null, 0, 0, [], [])), (10, 3, .getfield 54, (.null, 10, 4, [], [331])), (13, 3, .invokevirtual 161, (.null, 1, 0, [(2, 9, 2)], [486, 487, 488])), (16, 1, .aload_n 0, (.null, 0, 0, [], [])), (17, 1, .aload_n 0, (.null, 0, 0, [], [])), (18, 3, .getfield 79, (.int 0, 10, 10, [], [337])), (21, 1, .iconst 1, (.int 1, 0, 0, [], [])), (22, 1, .iadd, (.null, 0, 0, [], [])), (23, 2, .bipush 24, (.int 24, 0, 0, [], [])), (25, 1, .irem, (.null, 0, 0, [], [])), (26, 3, .putfield 79, (.int 0, 10, 10, [], [337])), (29, 1, .aload_n 0, (.null, 0, 0, [], [])), (30, 2, .bipush 24, (.int 24, 0, 0, [], [])), (32, 1, .aload_n 0, (.null, 0, 0, [], [])), (33, 3, .getfield 75, (.int 0, 10, 9, [], [336])), (36, 1, .iconst 1, (.int 1, 0, 0, [], [])), (37, 1, .iadd, (.null, 0, 0, [], [])), (38, 3, .invokestatic 334, (.null, 1, 0, [], [516, 517, 90, 518])), (41, 3, .putfield 75, (.int 0, 10, 9, [], [336])), (44, 1, .aload_n 0, (.null, 0, 0, [], [])), (45, 3, .getfield 64, (.null, 10, 6, [], [333])), (48, 3, .invokevirtual 164, (.null, 0, 0, [(4, 32, 1)], [491, 492, 493])), (51, 1, .return_, (.null, 0, 0, [], []))]
def m126 : MI := (yX11_keepForUndo, cX11_keepForUndo, 1, none, [k126_0])
def k127_0 : List Ins := [(0, 1, .aload_n 0, (.null, 0, 0, [], [])), (1, 3, .getfield 54, (.null, 10, 4, [], [331])), (4, 3, .invokevirtual 249, (.null, 0, 1, [(2, 20, 1)], [642, 595, 596])), (7, 1, .aload_n 0, (.null, 0, 0, [], [])), (8, 3, .getfield 54, (.null, 10, 4, [], [331])), (11, 3, .getfield 180, (.null, 2, 13, [], [257])), (14, 2, .bipush 21, (.int 21, 0, 0, [], [])), (16, 1, .iaload, (.null, 0, 0, [], [])), (17, 1, .iconst (-1), (.int (-1), 0, 0, [], [])), (18, 1, .ixor, (.null, 0, 0, [], [])), (19, 1, .iand, (.null, 0, 0, [], [])), (20, 1, .istore_n 3, (.null, 3, 0, [], [])), (21, 1, .iconst 0, (.int 0, 0, 0, [], [])), (22, 2, .istore 4, (.null, 4, 0, [], [])), (24, 1, .iload_n 3, (.null, 3, 0, [], [])), (25, 2, .istore 5, (.null, 5, 0, [], [])), (27, 1, .iconst 0, (.int 0, 0, 0, [], [])), (28, 2, .istore 6, (.null, 6, 0, [], [])), (30, 1, .iconst 0, (.int 0, 0, 0, [], [])), (31, 2, .istore 7, (.null, 7, 0, [], [])), (33, 0, .nop, (.null, 1, 255, [], []))]
def k127_1 : List Ins := [(33, 2, .iload 7, (.null, 7, 0, [], [])), (35, 1, .iload_n 3, (.null, 3, 0, [], [])), (36, 3, .if_icmp .gt 48, (.null, 3, 116, [], [])), (39, 2, .iload 7, (.null, 7, 0, [], [])), (41, 1, .iload_n 3, (.null, 3, 0, [], [])), (42, 1, .iconst (-1), (.int (-1), 0, 0, [], [])), (43, 1, .ixor, (.null, 0, 0, [], [])), (44, 1, .iand, (.null, 0, 0, [], [])), (45, 3, .ifCond .ne 33, (.null, 2, 255, [], [])), (48, 1, .aload_n 0, (.null, 0, 0, [], [])), (49, 3, .getfield 54, (.null, 10, 4, [], [331])), (52, 2, .iload 7, (.null, 7, 0, [], [])), (54, 3, .invokevirtual 339, (.null, 1, 1, [(2, 25, 4)], [698, 699, 700])), (57, 1, .iload_n 1, (.null, 1, 0, [], [])), (58, 3, .if_icmp .ne 20, (.null, 2, 255, [], [])), (61, 3, .iinc 4 1, (.int 1, 4, 0, [], [])), (64, 2, .iload 5, (.null, 5, 0, [], [])), (66, 2, .iload 7, (.null, 7, 0, [], [])), (68, 1, .iand, (.null, 0, 0, [], [])), (69, 2, .istore 5, (.null, 5, 0, [], [])), (71, 2, .iload 6, (.null, 6, 0, [], [])), (73, 2, .iload 7, (.null, 7, 0, [], [])), (75, 1, .ior, (.null, 0, 0, [], [])), (76, 2, .istore 6, (.null, 6, 0, [], [])), (78, 0, .nop, (.null, 2, 255, [], []))]
def k127_2 : List Ins := [(78, 3, .iinc 7 1, (.int 1, 7, 0, [], [])), (81, 3, .goto (-48), (.int 0, 1, 255, [], []))]
def k127_3 : List Ins := [(84, 1, .iload_n 2, (.null, 2, 0, [], [])), (85, 3, .ifCond .ne 6, (.null, 4, 116, [], [])), (88, 2, .iload 4, (.null, 4, 0, [], [])), (90, 1, .ireturn, (.null, 0, 0, [], []))]
def k127_4 : List Ins := [(91, 1, .iload_n 2, (.null, 2, 0, [], [])), (92, 1, .iconst 2, (.int 2, 0, 0, [], [])), (93, 3, .if_icmp .ne 6, (.null, 5, 48, [], [])), (96, 2, .iload 6, (.null, 6, 0, [], [])), (98, 1, .ireturn, (.null, 0, 0, [], []))]
def k127_5 : List Ins := [(99, 2, .iload 4, (.null, 4, 0, [], [])), (101, 3, .ifCond .ne 7, (.null, 6, 32, [], [])), (104, 1, .iconst 0, (.int 0, 0, 0, [], [])), (105, 3, .goto 5, (.null, 0, 0, [], [])), (110, 1, .ireturn, (.null, 0, 0, [], []))]
def k127_6 : List Ins := [(108, 2, .iload 5, (.null, 5, 0, [], [])), (110, 1, .ireturn, (.null, 0, 0, [], []))]
def m127 : MI := (yX11_setsSoThick, cX11_setsSoThick, 8, (some .int), [k127_0, k127_1, k127_2, k127_3, k127_4, k127_5, k127_6])
def k128_0 : List Ins := [(0, 1, .aload_n 0, (.null, 0, 0, [], [])), (1, 3, .getfield 54, (.null, 10, 4, [], [331])), (4, 3, .invokevirtual 239, (.null, 0, 1, [(2, 24, 3)], [620, 621, 622])), (7, 1, .istore_n 3, (.null, 3, 0, [], [])), (8, 1, .iload_n 3, (.null, 3, 0, [], [])), (9, 3, .ifCond .eq 15, (.null, 1, 0, [], [])), (12, 1, .aload_n 0, (.null, 0, 0, [], [])), (13, 3, .getfield 54, (.null, 10, 4, [], [331])), (16, 3, .getfield 216, (.null, 2, 10, [], [250])), (19, 1, .iload_n 1, (.null, 1, 0, [], [])), (20, 1, .iaload, (.null, 0, 0, [], [])), (21, 3, .ifCond .ne 5, (.null, 2, 15, [], [])), (24, 0, .nop, (.null, 1, 0, [], []))]
def k128_1 : List Ins := [(24, 1, .iconst 0, (.int 0, 0, 0, [], [])), (25, 1, .ireturn, (.null, 0, 0, [], []))]
def k128_2 : List Ins := [(26, 1, .iconst 0, (.int 0, 0, 0, [], [])), (27, 2, .istore 4, (.null, 4, 0, [], [])), (29, 1, .iconst 0, (.int 0, 0, 0, [], [])), (30, 2, .istore 5, (.null, 5, 0, [], [])), (32, 1, .iconst 0, (.int 0, 0, 0, [], [])), (33, 2, .istore 6, (.null, 6, 0, [], [])), (35, 0, .nop, (.null, 3, 127, [], []))]
def k128_3 : List Ins := [(35, 2, .iload 6, (.null, 6, 0, [], [])), (37, 1, .aload_n 0, (.null, 0, 0, [], [])), (38, 3, .getfield 54, (.null, 10, 4, [], [331])), (41, 3, .getfield 157, (.int 0, 2, 3, [], [232])), (44, 3, .if_icmp .ge 50, (.null, 5, 63, [], [])), (47, 2, .iload 4, (.null, 4, 0, [], [])), (49, 1, .iload_n 2, (.null, 2, 0, [], [])), (50, 1, .aload_n 0, (.null, 0, 0, [], [])), (51, 3, .getfield 54, (.null, 10, 4, [], [331])), (54, 3, .getfield 216, (.null, 2, 10, [], [250])), (57, 2, .iload 6, (.null, 6, 0, [], [])), (59, 1, .iaload, (.null, 0, 0, [], [])), (60, 1, .imul, (.null, 0, 0, [], [])), (61, 1, .iload_n 3, (.null, 3, 0, [], [])), (62, 1, .idiv, (.null, 0, 0, [], [])), (63, 1, .iadd, (.null, 0, 0, [], [])), (64, 2, .istore 4, (.null, 4, 0, [], [])), (66, 2, .iload 6, (.null, 6, 0, [], [])), (68, 1, .iload_n 1, (.null, 1, 0, [], [])), (69, 3, .if_icmp .ge 19, (.null, 4, 127, [], [])), (72, 1, .aload_n 0, (.null, 0, 0, [], [])), (73, 3, .getfield 54, (.null, 10, 4, [], [331])), (76, 3, .getfield 216, (.null, 2, 10, [], [250])), (79, 2, .iload 6, (.null, 6, 0, [], [])), (81, 1, .iaload, (.null, 0, 0, [], [])), (82, 3, .ifCond .le 6, (.null, 4, 127, [], [])), (85, 3, .iinc 5 1, (.int 1, 5, 0, [], [])), (88, 0, .nop, (.null, 4, 127, [], []))]
def k128_4 : List Ins := [(88, 3, .iinc 6 1, (.int 1, 6, 0, [], [])), (91, 3, .goto (-56), (.int 0, 3, 127, [], []))]
def k128_5 : List Ins := [(94, 1, .iload_n 2, (.null, 2, 0, [], [])), (95, 1, .aload_n 0, (.null, 0, 0, [], [])), (96, 3, .getfield 54, (.null, 10, 4, [], [331])), (99, 3, .getfield 216, (.null, 2, 10, [], [250])), (102, 1, .iload_n 1, (.null, 1, 0, [], [])), (103, 1, .iaload, (.null, 0, 0, [], [])), (104, 1, .imul, (.null, 0, 0, [], [])), (105, 1, .iload_n 3, (.null, 3, 0, [], [])), (106, 1, .idiv, (.null, 0, 0, [], [])), (107, 2, .istore 6, (.null, 6, 0, [], [])), (109, 2, .iload 5, (.null, 5, 0, [], [])), (111, 1, .iload_n 2, (.null, 2, 0, [], [])), (112, 2, .iload 4, (.null, 4, 0, [], [])), (114, 1, .isub, (.null, 0, 0, [], [])), (115, 3, .if_icmp .ge 10, (.null, 6, 64, [], [])), (118, 2, .iload 6, (.null, 6, 0, [], [])), (120, 1, .iconst 1, (.int 1, 0, 0, [], [])), (121, 1, .iadd, (.null, 0, 0, [], [])), (122, 3, .goto 5, (.null, 0, 0, [], [])), (127, 1, .ireturn, (.null, 0, 0, [], []))]
def k128_6 : List Ins := [(125, 2, .iload 6, (.null, 6, 0, [], [])), (127, 1, .ireturn, (.null, 0, 0, [], []))]
def m128 : MI := (yX11_stampsFor, cX11_stampsFor, 7, (some .int), [k128_0, k128_1, k128_2, k128_3, k128_4, k128_5, k128_6])
def k129_0 : List Ins := [(0, 1, .iload_n 2, (.null, 2, 0, [], [])), (1, 31, .tableswitch 108 0 3 #[31, 47, 64, 88], (.null, 5, 3, [(0, 1, 3), (1, 2, 3), (2, 3, 3), (3, 4, 3)], []))]
def k129_1 : List Ins := [(32, 1, .aload_n 0, (.null, 0, 0, [], [])), (33, 3, .getfield 64, (.null, 10, 6, [], [333])), (36, 1, .aload_n 0, (.null, 0, 0, [], [])), (37, 3, .getfield 54, (.null, 10, 4, [], [331])), (40, 1, .iload_n 1, (.null, 1, 0, [], [])), (41, 1, .iconst 0, (.int 0, 0, 0, [], [])), (42, 1, .iconst 1, (.int 1, 0, 0, [], [])), (43, 1, .iconst 5, (.int 5, 0, 0, [], [])), (44, 3, .invokevirtual 342, (.null, 5, 1, [(4, 46, 8)], [745, 746, 747])), (47, 1, .ireturn, (.null, 0, 0, [], []))]
def k129_2 : List Ins := [(48, 1, .aload_n 0, (.null, 0, 0, [], [])), (49, 3, .getfield 64, (.null, 10, 6, [], [333])), (52, 1, .aload_n 0, (.null, 0, 0, [], [])), (53, 3, .getfield 54, (.null, 10, 4, [], [331])), (56, 1, .iload_n 1, (.null, 1, 0, [], [])), (57, 1, .iconst 1, (.int 1, 0, 0, [], [])), (58, 1, .iconst 1, (.int 1, 0, 0, [], [])), (59, 2, .bipush 9, (.int 9, 0, 0, [], [])), (61, 3, .invokevirtual 342, (.null, 5, 1, [(4, 46, 8)], [745, 746, 747])), (64, 1, .ireturn, (.null, 0, 0, [], []))]
def k129_3 : List Ins := [(65, 1, .aload_n 0, (.null, 0, 0, [], [])), (66, 3, .getfield 64, (.null, 10, 6, [], [333])), (69, 1, .aload_n 0, (.null, 0, 0, [], [])), (70, 3, .getfield 54, (.null, 10, 4, [], [331])), (73, 1, .iload_n 1, (.null, 1, 0, [], [])), (74, 1, .iconst 2, (.int 2, 0, 0, [], [])), (75, 1, .iconst 0, (.int 0, 0, 0, [], [])), (76, 1, .aload_n 0, (.null, 0, 0, [], [])), (77, 3, .getfield 54, (.null, 10, 4, [], [331])), (80, 3, .getfield 228, (.int 0, 2, 0, [], [221])), (83, 1, .iconst 1, (.int 1, 0, 0, [], [])), (84, 1, .isub, (.null, 0, 0, [], [])), (85, 3, .invokevirtual 342, (.null, 5, 1, [(4, 46, 8)], [745, 746, 747])), (88, 1, .ireturn, (.null, 0, 0, [], []))]
def k129_4 : List Ins := [(89, 1, .aload_n 0, (.null, 0, 0, [], [])), (90, 3, .getfield 64, (.null, 10, 6, [], [333])), (93, 1, .aload_n 0, (.null, 0, 0, [], [])), (94, 3, .getfield 54, (.null, 10, 4, [], [331])), (97, 1, .iload_n 1, (.null, 1, 0, [], [])), (98, 1, .iconst 3, (.int 3, 0, 0, [], [])), (99, 1, .iconst 2, (.int 2, 0, 0, [], [])), (100, 2, .bipush 20, (.int 20, 0, 0, [], [])), (102, 3, .invokevirtual 342, (.null, 5, 1, [(4, 46, 8)], [745, 746, 747])), (105, 3, .invokestatic 328, (.null, 1, 1, [(0, 228, 1)], [762, 664])), (108, 1, .ireturn, (.null, 0, 0, [], []))]
def k129_5 : List Ins := [(109, 1, .aload_n 0, (.null, 0, 0, [], [])), (110, 3, .getfield 64, (.null, 10, 6, [], [333])), (113, 1, .aload_n 0, (.null, 0, 0, [], [])), (114, 3, .getfield 54, (.null, 10, 4, [], [331])), (117, 1, .iload_n 1, (.null, 1, 0, [], [])), (118, 1, .iconst 3, (.int 3, 0, 0, [], [])), (119, 1, .iconst 2, (.int 2, 0, 0, [], [])), (120, 2, .bipush 20, (.int 20, 0, 0, [], [])), (122, 3, .invokevirtual 342, (.null, 5, 1, [(4, 46, 8)], [745, 746, 747])), (125, 3, .invokestatic 346, (.null, 1, 1, [(0, 130, 1)], [763, 764])), (128, 1, .ireturn, (.null, 0, 0, [], []))]
def m129 : MI := (yX11_whoFits, cX11_whoFits, 3, (some .int), [k129_0, k129_1, k129_2, k129_3, k129_4, k129_5])
def k130_0 : List Ins := [(0, 1, .iload_n 0, (.null, 0, 0, [], [])), (1, 3, .ifCond .ne 8, (.null, 1, 1, [], [])), (4, 2, .ldc 252, (.int (-1000000), 0, 0, [], [647])), (6, 3, .goto 7, (.null, 0, 0, [], [])), (13, 1, .ireturn, (.null, 0, 0, [], []))]
def k130_1 : List Ins := [(9, 1, .iload_n 0, (.null, 0, 0, [], [])), (10, 3, .invokestatic 349, (.null, 1, 1, [(0, 227, 2)], [766, 767])), (13, 1, .ireturn, (.null, 0, 0, [], []))]
def m130 : MI := (yX11_lowestOf, cX11_lowestOf, 1, (some .int), [k130_0, k130_1])
def k131_0 : List Ins := [(0, 1, .aload_n 0, (.null, 0, 0, [], [])), (1, 3, .getfield 47, (.null, 10, 3, [], [330])), (4, 1, .aload_n 0, (.null, 0, 0, [], [])), (5, 3, .getfield 54, (.null, 10, 4, [], [331])), (8, 3, .getfield 298, (.null, 2, 5, [], [237])), (11, 1, .iload_n 1, (.null, 1, 0, [], [])), (12, 1, .iaload, (.null, 0, 0, [], [])), (13, 1, .iconst 1, (.int 1, 0, 0, [], [])), (14, 1, .isub, (.null, 0, 0, [], [])), (15, 1, .aaload, (.null, 2, 0, [], [])), (16, 1, .areturn, (.null, 0, 0, [], []))]
def m131 : MI := (yX11_sortOf, cX11_sortOf, 2, (some (.object "LetterChute$Letter")), [k131_0])
def k132_0 : List Ins := [(0, 1, .iload_n 1, (.null, 1, 0, [], [])), (1, 39, .tableswitch 66 0 5 #[39, 41, 46, 51, 56, 61], (.null, 7, 0, [(0, 1, 0), (1, 2, 1), (2, 3, 1), (3, 4, 1), (4, 5, 1), (5, 6, 1)], []))]
def k132_1 : List Ins := [(40, 1, .iconst 1, (.int 1, 0, 0, [], [])), (41, 1, .ireturn, (.null, 1, 0, [], []))]
def k132_2 : List Ins := [(42, 1, .aload_n 0, (.null, 0, 0, [], [])), (43, 3, .instanceof 32, (.null, 0, 0, [(1, 1, 0), (9, 1, 20), (3, 1, 19), (5, 0, 4), (7, 0, 5)], [175, 1])), (46, 1, .ireturn, (.null, 1, 0, [], []))]
def k132_3 : List Ins := [(47, 1, .aload_n 0, (.null, 0, 0, [], [])), (48, 3, .instanceof 35, (.null, 0, 0, [(1, 0, 13), (9, 1, 0), (3, 0, 14), (5, 0, 15), (7, 0, 16)], [185, 9])), (51, 1, .ireturn, (.null, 1, 0, [], []))]
def k132_4 : List Ins := [(52, 1, .aload_n 0, (.null, 0, 0, [], [])), (53, 3, .instanceof 38, (.null, 0, 0, [(1, 0, 24), (9, 0, 25), (3, 1, 0), (5, 0, 26), (7, 0, 27)], [192, 3])), (56, 1, .ireturn, (.null, 1, 0, [], []))]
def k132_5 : List Ins := [(57, 1, .aload_n 0, (.null, 0, 0, [], [])), (58, 3, .instanceof 41, (.null, 0, 0, [(1, 0, 35), (9, 0, 36), (3, 0, 37), (5, 1, 0), (7, 1, 21)], [199, 5])), (61, 1, .ireturn, (.null, 1, 0, [], []))]
def k132_6 : List Ins := [(62, 1, .aload_n 0, (.null, 0, 0, [], [])), (63, 3, .instanceof 44, (.null, 0, 0, [(1, 0, 45), (9, 0, 46), (3, 0, 47), (5, 0, 48), (7, 1, 0)], [206, 7])), (66, 1, .ireturn, (.null, 1, 0, [], []))]
def k132_7 : List Ins := [(67, 1, .iconst 0, (.int 0, 0, 0, [], [])), (68, 1, .ireturn, (.null, 1, 0, [], []))]
def m132 : MI := (yX11_isOfKind, cX11_isOfKind, 2, (some .boolean), [k132_0, k132_1, k132_2, k132_3, k132_4, k132_5, k132_6, k132_7])
def k133_0 : List Ins := [(0, 1, .aload_n 0, (.null, 0, 0, [], [])), (1, 3, .invokespecial 1, (.null, 0, 0, [], [911, 98, 99])), (4, 1, .aload_n 0, (.null, 0, 0, [], [])), (5, 3, .sipush 320, (.int 320, 0, 0, [], [])), (8, 2, .newarray .int, (.null, 0, 0, [], [120])), (10, 3, .putfield 7, (.null, 11, 0, [], [913])), (13, 1, .aload_n 0, (.null, 0, 0, [], [])), (14, 2, .bipush 8, (.int 8, 0, 0, [], [])), (16, 2, .newarray .int, (.null, 0, 0, [], [120])), (18, 3, .putfield 13, (.null, 11, 1, [], [914])), (21, 1, .aload_n 0, (.null, 0, 0, [], [])), (22, 2, .bipush 8, (.int 8, 0, 0, [], [])), (24, 2, .newarray .int, (.null, 0, 0, [], [120])), (26, 3, .putfield 16, (.null, 11, 2, [], [915])), (29, 1, .aload_n 0, (.null, 0, 0, [], [])), (30, 2, .bipush 6, (.int 6, 0, 0, [], [])), (32, 2, .newarray .int, (.null, 0, 0, [], [120])), (34, 3, .putfield 19, (.null, 11, 7, [], [920])), (37, 1, .aload_n 0, (.null, 0, 0, [], [])), (38, 2, .bipush 6, (.int 6, 0, 0, [], [])), (40, 2, .newarray .int, (.null, 0, 0, [], [120])), (42, 3, .putfield 22, (.null, 11, 8, [], [921])), (45, 1, .aload_n 0, (.null, 0, 0, [], [])), (46, 2, .bipush 32, (.int 32, 0, 0, [], [])), (48, 2, .newarray .int, (.null, 0, 0, [], [120])), (50, 3, .putfield 25, (.null, 11, 9, [], [922])), (53, 1, .aload_n 0, (.null, 0, 0, [], [])), (54, 3, .sipush 768, (.int 768, 0, 0, [], [])), (57, 2, .newarray .int, (.null, 0, 0, [], [120])), (59, 3, .putfield 28, (.null, 11, 10, [], [923])), (62, 1, .aload_n 0, (.null, 0, 0, [], [])), (63, 2, .bipush 96, (.int 96, 0, 0, [], [])), (65, 2, .newarray .int, (.null, 0, 0, [], [120])), (67, 3, .putfield 31, (.null, 11, 12, [], [925])), (70, 1, .aload_n 0, (.null, 0, 0, [], [])), (71, 2, .bipush 100, (.int 100, 0, 0, [], [])), (73, 2, .newarray .int, (.null, 0, 0, [], [120])), (75, 3, .putfield 34, (.null, 11, 15, [], [928])), (78, 1, .aload_n 0, (.null, 0, 0, [], [])), (79, 2, .bipush 16, (.int 16, 0, 0, [], [])), (81, 2, .newarray .int, (.null, 0, 0, [], [120])), (83, 3, .putfield 37, (.null, 11, 17, [], [930])), (86, 1, .aload_n 0, (.null, 0, 0, [], [])), (87, 2, .bipush 6, (.int 6, 0, 0, [], [])), (89, 2, .newarray .int, (.null, 0, 0, [], [120])), (91, 3, .putfield 40, (.null, 11, 23, [], [936])), (94, 1, .aload_n 0, (.null, 0, 0, [], [])), (95, 2, .bipush 6, (.int 6, 0, 0, [], [])), (97, 2, .newarray .int, (.null, 0, 0, [], [120])), (99, 3, .putfield 43, (.null, 11, 24, [], [937])), (102, 1, .aload_n 0, (.null, 0, 0, [], [])), (103, 2, .bipush 32, (.int 32, 0, 0, [], [])), (105, 2, .newarray .int, (.null, 0, 0, [], [120])), (107, 3, .putfield 46, (.null, 11, 25, [], [938])), (110, 1, .aload_n 0, (.null, 0, 0, [], [])), (111, 2, .bipush 32, (.int 32, 0, 0, [], [])), (113, 2, .newarray .int, (.null, 0, 0, [], [120])), (115, 3, .putfield 49, (.null, 11, 28, [], [941])), (118, 1, .aload_n 0, (.null, 0, 0, [], [])), (119, 2, .ldc 52, (.int (-1000000), 0, 0, [], [912])), (121, 3, .putfield 53, (.int 0, 11, 29, [], [942])), (124, 1, .aload_n 0, (.null, 0, 0, [], [])), (125, 2, .bipush 6, (.int 6, 0, 0, [], [])), (127, 2, .newarray .int, (.null, 0, 0, [], [120])), (129, 3, .putfield 57, (.null, 11, 32, [], [945])), (132, 1, .aload_n 0, (.null, 0, 0, [], [])), (133, 2, .bipush 6, (.int 6, 0, 0, [], [])), (135, 2, .newarray .int, (.null, 0, 0, [], [120])), (137, 3, .putfield 60, (.null, 11, 33, [], [946])), (140, 1, .aload_n 0, (.null, 0, 0, [], [])), (141, 2, .bipush 6, (.int 6, 0, 0, [], [])), (143, 2, .newarray .int, (.null, 0, 0, [], [120])), (145, 3, .putfield 63, (.null, 11, 34, [], [947])), (148, 1, .iconst 0, (.int 0, 0, 0, [], [])), (149, 1, .istore_n 1, (.null, 1, 0, [], [])), (150, 0, .nop, (.null, 1, 3, [], []))]
def k133_1 : List Ins := [(150, 1, .iload_n 1, (.null, 1, 0, [], [])), (151, 2, .bipush 8, (.int 8, 0, 0, [], [])), (153, 3, .if_icmp .ge 16, (.null, 2, 0, [], [])), (156, 1, .aload_n 0, (.null, 0, 0, [], [])), (157, 3, .getfield 16, (.null, 11, 2, [], [915])), (160, 1, .iload_n 1, (.null, 1, 0, [], [])), (161, 1, .iconst (-1), (.int (-1), 0, 0, [], [])), (162, 1, .iastore, (.null, 0, 0, [], [])), (163, 3, .iinc 1 1, (.int 1, 1, 0, [], [])), (166, 3, .goto (-16), (.int 0, 1, 3, [], []))]
def k133_2 : List Ins := [(169, 1, .return_, (.null, 0, 0, [], []))]
def m133 : MI := (yX12_init, cX12_init, 2, none, [k133_0, k133_1, k133_2])
def k134_0 : List Ins := [(0, 1, .lload_n 0, (.null, 0, 0, [], [])), (1, 1, .lload_n 2, (.null, 2, 0, [], [])), (2, 1, .lcmp, (.null, 0, 0, [], [])), (3, 3, .ifCond .lt 14, (.null, 1, 0, [], [])), (6, 1, .lload_n 0, (.null, 0, 0, [], [])), (7, 2, .lload 4, (.null, 4, 0, [], [])), (9, 1, .lcmp, (.null, 0, 0, [], [])), (10, 3, .ifCond .gt 7, (.null, 1, 0, [], [])), (13, 1, .iconst 1, (.int 1, 0, 0, [], [])), (14, 3, .goto 4, (.null, 0, 0, [], [])), (18, 1, .ireturn, (.null, 1, 0, [], []))]
def k134_1 : List Ins := [(17, 1, .iconst 0, (.int 0, 0, 0, [], [])), (18, 1, .ireturn, (.null, 1, 0, [], []))]
def m134 : MI := (yX12_in, cX12_in, 6, (some .boolean), [k134_0, k134_1])
def k135_0 : List Ins := [(0, 1, .iload_n 0, (.null, 0, 0, [], [])), (1, 1, .iload_n 1, (.null, 1, 0, [], [])), (2, 1, .ishr, (.null, 0, 0, [], [])), (3, 1, .iconst 1, (.int 1, 0, 0, [], [])), (4, 1, .iand, (.null, 0, 0, [], [])), (5, 1, .iconst 1, (.int 1, 0, 0, [], [])), (6, 3, .if_icmp .ne 7, (.null, 1, 0, [], [])), (9, 1, .iconst 1, (.int 1, 0, 0, [], [])), (10, 3, .goto 4, (.null, 0, 0, [], [])), (14, 1, .ireturn, (.null, 1, 0, [], []))]
def k135_1 : List Ins := [(13, 1, .iconst 0, (.int 0, 0, 0, [], [])), (14, 1, .ireturn, (.null, 1, 0, [], []))]
def m135 : MI := (yX12_has, cX12_has, 2, (some .boolean), [k135_0, k135_1])
def k136_0 : List Ins := [(0, 1, .iconst 0, (.int 0, 0, 0, [], [])), (1, 1, .istore_n 1, (.null, 1, 0, [], [])), (2, 1, .iload_n 0, (.null, 0, 0, [], [])), (3, 1, .istore_n 2, (.null, 2, 0, [], [])), (4, 0, .nop, (.null, 1, 6, [], []))]
def k136_1 : List Ins := [(4, 1, .iload_n 2, (.null, 2, 0, [], [])), (5, 3, .ifCond .eq 15, (.null, 2, 2, [], [])), (8, 3, .iinc 1 1, (.int 1, 1, 0, [], [])), (11, 1, .iload_n 2, (.null, 2, 0, [], [])), (12, 1, .iload_n 2, (.null, 2, 0, [], [])), (13, 1, .iconst 1, (.int 1, 0, 0, [], [])), (14, 1, .isub, (.null, 0, 0, [], [])), (15, 1, .iand, (.null, 0, 0, [], [])), (16, 1, .istore_n 2, (.null, 2, 0, [], [])), (17, 3, .goto (-13), (.int 0, 1, 6, [], []))]
def k136_2 : List Ins := [(20, 1, .iload_n 1, (.null, 1, 0, [], [])), (21, 1, .ireturn, (.null, 0, 0, [], []))]
def m136 : MI := (yX12_ones, cX12_ones, 3, (some .int), [k136_0, k136_1, k136_2])
def k137_0 : List Ins := [(0, 1, .aload_n 0, (.null, 0, 0, [], [])), (1, 1, .iload_n 1, (.null, 1, 0, [], [])), (2, 3, .putfield 66, (.int 0, 11, 3, [], [916])), (5, 2, .ldc 69, (.int (-1000010), 0, 0, [], [1036])), (7, 1, .iload_n 1, (.null, 1, 0, [], [])), (8, 1, .isub, (.null, 0, 0, [], [])), (9, 1, .ireturn, (.null, 0, 0, [], []))]
def m137 : MI := (yX12_found, cX12_found, 2, (some .int), [k137_0])
def k138_0 : List Ins := [(0, 1, .aload_n 0, (.null, 0, 0, [], [])), (1, 1, .iconst 0, (.int 0, 0, 0, [], [])), (2, 3, .putfield 66, (.int 0, 11, 3, [], [916])), (5, 1, .iload_n 1, (.null, 1, 0, [], [])), (6, 1, .ireturn, (.null, 0, 0, [], []))]
def m138 : MI := (yX12_well, cX12_well, 2, (some .int), [k138_0])
def k139_0 : List Ins := [(0, 1, .iload_n 0, (.null, 0, 0, [], [])), (1, 1, .i2l, (.null, 0, 0, [], [])), (2, 1, .lconst 0, (.long 0, 0, 0, [], [])), (3, 3, .ldc2_w 70, (.long 7, 0, 0, [], [1026])), (6, 3, .invokestatic 72, (.null, 3, 1, [(0, 134, 6)], [1027, 1028])), (9, 1, .ireturn, (.null, 1, 0, [], []))]
def m139 : MI := (yX12_isRow, cX12_isRow, 1, (some .boolean), [k139_0])
def k140_0 : List Ins := [(0, 1, .iload_n 1, (.null, 1, 0, [], [])), (1, 3, .invokestatic 76, (.null, 1, 1, [(0, 139, 1)], [1023, 1024])), (4, 3, .ifCond .eq 21, (.null, 1, 0, [], [])), (7, 1, .iload_n 2, (.null, 2, 0, [], [])), (8, 1, .i2l, (.null, 0, 0, [], [])), (9, 1, .lconst 0, (.long 0, 0, 0, [], [])), (10, 3, .ldc2_w 80, (.long 2, 0, 0, [], [1030])), (13, 3, .invokestatic 72, (.null, 3, 1, [(0, 134, 6)], [1027, 1028])), (16, 3, .ifCond .eq 9, (.null, 1, 0, [], [])), (19, 1, .iload_n 3, (.null, 3, 0, [], [])), (20, 2, .bipush 40, (.int 40, 0, 0, [], [])), (22, 3, .if_icmp .le 6, (.null, 2, 15, [], [])), (25, 0, .nop, (.null, 1, 0, [], []))]
def k140_1 : List Ins := [(25, 2, .ldc 82, (.int (-1000001), 0, 0, [], [1031])), (27, 1, .ireturn, (.null, 0, 0, [], []))]
def k140_2 : List Ins := [(28, 1, .iload_n 3, (.null, 3, 0, [], [])), (29, 3, .ifCond .ge 9, (.null, 3, 15, [], [])), (32, 1, .aload_n 0, (.null, 0, 0, [], [])), (33, 1, .iconst 4, (.int 4, 0, 0, [], [])), (34, 3, .invokevirtual 83, (.null, 1, 1, [(11, 137, 2)], [1032, 1034, 26])), (37, 1, .ireturn, (.null, 0, 0, [], []))]
def k140_3 : List Ins := [(38, 1, .aload_n 0, (.null, 0, 0, [], [])), (39, 3, .getfield 13, (.null, 11, 1, [], [914])), (42, 1, .iload_n 1, (.null, 1, 0, [], [])), (43, 1, .iload_n 2, (.null, 2, 0, [], [])), (44, 1, .iastore, (.null, 0, 0, [], [])), (45, 1, .aload_n 0, (.null, 0, 0, [], [])), (46, 3, .getfield 16, (.null, 11, 2, [], [915])), (49, 1, .iload_n 1, (.null, 1, 0, [], [])), (50, 1, .iload_n 3, (.null, 3, 0, [], [])), (51, 1, .iastore, (.null, 0, 0, [], [])), (52, 1, .iconst 0, (.int 0, 0, 0, [], [])), (53, 2, .istore 4, (.null, 4, 0, [], [])), (55, 0, .nop, (.null, 4, 27, [], []))]
def k140_4 : List Ins := [(55, 2, .iload 4, (.null, 4, 0, [], [])), (57, 1, .iload_n 3, (.null, 3, 0, [], [])), (58, 3, .if_icmp .ge 22, (.null, 5, 9, [], [])), (61, 1, .aload_n 0, (.null, 0, 0, [], [])), (62, 3, .getfield 7, (.null, 11, 0, [], [913])), (65, 2, .bipush 40, (.int 40, 0, 0, [], [])), (67, 1, .iload_n 1, (.null, 1, 0, [], [])), (68, 1, .imul, (.null, 0, 0, [], [])), (69, 2, .iload 4, (.null, 4, 0, [], [])), (71, 1, .iadd, (.null, 0, 0, [], [])), (72, 1, .iconst 0, (.int 0, 0, 0, [], [])), (73, 1, .iastore, (.null, 0, 0, [], [])), (74, 3, .iinc 4 1, (.int 1, 4, 0, [], [])), (77, 3, .goto (-22), (.int 0, 4, 27, [], []))]
def k140_5 : List Ins := [(80, 1, .aload_n 0, (.null, 0, 0, [], [])), (81, 1, .iload_n 3, (.null, 3, 0, [], [])), (82, 3, .invokevirtual 87, (.null, 1, 1, [(11, 138, 2)], [1037, 1039, 27])), (85, 1, .ireturn, (.null, 0, 0, [], []))]
def m140 : MI := (yX12_row, cX12_row, 5, (some .int), [k140_0, k140_1, k140_2, k140_3, k140_4, k140_5])
def k141_0 : List Ins := [(0, 1, .iload_n 1, (.null, 1, 0, [], [])), (1, 3, .invokestatic 76, (.null, 1, 1, [(0, 139, 1)], [1023, 1024])), (4, 3, .ifCond .ne 6, (.null, 1, 15, [], [])), (7, 2, .ldc 82, (.int (-1000001), 0, 0, [], [1031])), (9, 1, .ireturn, (.null, 0, 0, [], []))]
def k141_1 : List Ins := [(10, 1, .aload_n 0, (.null, 0, 0, [], [])), (11, 3, .getfield 16, (.null, 11, 2, [], [915])), (14, 1, .iload_n 1, (.null, 1, 0, [], [])), (15, 1, .iaload, (.null, 0, 0, [], [])), (16, 3, .ifCond .ge 9, (.null, 2, 15, [], [])), (19, 1, .aload_n 0, (.null, 0, 0, [], [])), (20, 1, .iconst 1, (.int 1, 0, 0, [], [])), (21, 3, .invokevirtual 83, (.null, 1, 1, [(11, 137, 2)], [1032, 1034, 26])), (24, 1, .ireturn, (.null, 0, 0, [], []))]
def k141_2 : List Ins := [(25, 1, .iload_n 2, (.null, 2, 0, [], [])), (26, 1, .i2l, (.null, 0, 0, [], [])), (27, 1, .lconst 0, (.long 0, 0, 0, [], [])), (28, 1, .aload_n 0, (.null, 0, 0, [], [])), (29, 3, .getfield 16, (.null, 11, 2, [], [915])), (32, 1, .iload_n 1, (.null, 1, 0, [], [])), (33, 1, .iaload, (.null, 0, 0, [], [])), (34, 1, .iconst 1, (.int 1, 0, 0, [], [])), (35, 1, .isub, (.null, 0, 0, [], [])), (36, 1, .i2l, (.null, 0, 0, [], [])), (37, 3, .invokestatic 72, (.null, 3, 1, [(0, 134, 6)], [1027, 1028])), (40, 3, .ifCond .ne 9, (.null, 3, 15, [], [])), (43, 1, .aload_n 0, (.null, 0, 0, [], [])), (44, 1, .iconst 2, (.int 2, 0, 0, [], [])), (45, 3, .invokevirtual 83, (.null, 1, 1, [(11, 137, 2)], [1032, 1034, 26])), (48, 1, .ireturn, (.null, 0, 0, [], []))]
def k141_3 : List Ins := [(49, 1, .aload_n 0, (.null, 0, 0, [], [])), (50, 3, .getfield 7, (.null, 11, 0, [], [913])), (53, 2, .bipush 40, (.int 40, 0, 0, [], [])), (55, 1, .iload_n 1, (.null, 1, 0, [], [])), (56, 1, .imul, (.null, 0, 0, [], [])), (57, 1, .iload_n 2, (.null, 2, 0, [], [])), (58, 1, .iadd, (.null, 0, 0, [], [])), (59, 1, .aload_n 0, (.null, 0, 0, [], [])), (60, 3, .getfield 13, (.null, 11, 1, [], [914])), (63, 1, .iload_n 1, (.null, 1, 0, [], [])), (64, 1, .iaload, (.null, 0, 0, [], [])), (65, 3, .ifCond .ne 13, (.null, 4, 15, [], [])), (68, 1, .iload_n 3, (.null, 3, 0, [], [])), (69, 2, .bipush 24, (.int 24, 0, 0, [], [])), (71, 1, .ishl, (.null, 0, 0, [], [])), (72, 2, .bipush 24, (.int 24, 0, 0, [], [])), (74, 1, .ishr, (.null, 0, 0, [], [])), (75, 3, .goto 24, (.int 0, 6, 7, [], []))]
def k141_4 : List Ins := [(78, 1, .aload_n 0, (.null, 0, 0, [], [])), (79, 3, .getfield 13, (.null, 11, 1, [], [914])), (82, 1, .iload_n 1, (.null, 1, 0, [], [])), (83, 1, .iaload, (.null, 0, 0, [], [])), (84, 1, .iconst 1, (.int 1, 0, 0, [], [])), (85, 3, .if_icmp .ne 13, (.null, 5, 15, [], [])), (88, 1, .iload_n 3, (.null, 3, 0, [], [])), (89, 2, .bipush 16, (.int 16, 0, 0, [], [])), (91, 1, .ishl, (.null, 0, 0, [], [])), (92, 2, .bipush 16, (.int 16, 0, 0, [], [])), (94, 1, .ishr, (.null, 0, 0, [], [])), (95, 3, .goto 4, (.int 0, 6, 7, [], []))]
def k141_5 : List Ins := [(98, 1, .iload_n 3, (.null, 3, 0, [], [])), (99, 0, .nop, (.null, 6, 7, [], []))]
def k141_6 : List Ins := [(99, 1, .iastore, (.null, 0, 0, [], [])), (100, 1, .aload_n 0, (.null, 0, 0, [], [])), (101, 1, .aload_n 0, (.null, 0, 0, [], [])), (102, 3, .getfield 7, (.null, 11, 0, [], [913])), (105, 2, .bipush 40, (.int 40, 0, 0, [], [])), (107, 1, .iload_n 1, (.null, 1, 0, [], [])), (108, 1, .imul, (.null, 0, 0, [], [])), (109, 1, .iload_n 2, (.null, 2, 0, [], [])), (110, 1, .iadd, (.null, 0, 0, [], [])), (111, 1, .iaload, (.null, 0, 0, [], [])), (112, 3, .invokevirtual 87, (.null, 1, 1, [(11, 138, 2)], [1037, 1039, 27])), (115, 1, .ireturn, (.null, 0, 0, [], []))]
def m141 : MI := (yX12_set, cX12_set, 4, (some .int), [k141_0, k141_1, k141_2, k141_3, k141_4, k141_5, k141_6])
def k142_0 : List Ins := [(0, 1, .iload_n 2, (.null, 2, 0, [], [])), (1, 3, .ifCond .lt 27, (.null, 1, 0, [], [])), (4, 1, .iload_n 3, (.null, 3, 0, [], [])), (5, 3, .ifCond .lt 23, (.null, 1, 0, [], [])), (8, 1, .iload_n 2, (.null, 2, 0, [], [])), (9, 1, .i2l, (.null, 0, 0, [], [])), (10, 1, .iload_n 3, (.null, 3, 0, [], [])), (11, 1, .i2l, (.null, 0, 0, [], [])), (12, 1, .ladd, (.null, 0, 0, [], [])), (13, 1, .aload_n 0, (.null, 0, 0, [], [])), (14, 3, .getfield 16, (.null, 11, 2, [], [915])), (17, 1, .iload_n 1, (.null, 1, 0, [], [])), (18, 1, .iaload, (.null, 0, 0, [], [])), (19, 1, .i2l, (.null, 0, 0, [], [])), (20, 1, .lcmp, (.null, 0, 0, [], [])), (21, 3, .ifCond .gt 7, (.null, 1, 0, [], [])), (24, 1, .iconst 1, (.int 1, 0, 0, [], [])), (25, 3, .goto 4, (.null, 0, 0, [], [])), (29, 1, .ireturn, (.null, 1, 0, [], []))]
def k142_1 : List Ins := [(28, 1, .iconst 0, (.int 0, 0, 0, [], [])), (29, 1, .ireturn, (.null, 1, 0, [], []))]
def m142 : MI := (yX12_isSpan, cX12_isSpan, 4, (some .boolean), [k142_0, k142_1])
def k143_0 : List Ins := [(0, 1, .iload_n 1, (.null, 1, 0, [], [])), (1, 3, .invokestatic 76, (.null, 1, 1, [(0, 139, 1)], [1023, 1024])), (4, 3, .ifCond .eq 10, (.null, 1, 0, [], [])), (7, 1, .iload_n 3, (.null, 3, 0, [], [])), (8, 3, .invokestatic 76, (.null, 1, 1, [(0, 139, 1)], [1023, 1024])), (11, 3, .ifCond .ne 6, (.null, 2, 63, [], [])), (14, 0, .nop, (.null, 1, 0, [], []))]
def k143_1 : List Ins := [(14, 2, .ldc 82, (.int (-1000001), 0, 0, [], [1031])), (16, 1, .ireturn, (.null, 0, 0, [], []))]
def k143_2 : List Ins := [(17, 1, .aload_n 0, (.null, 0, 0, [], [])), (18, 3, .getfield 16, (.null, 11, 2, [], [915])), (21, 1, .iload_n 1, (.null, 1, 0, [], [])), (22, 1, .iaload, (.null, 0, 0, [], [])), (23, 3, .ifCond .lt 12, (.null, 3, 1, [], [])), (26, 1, .aload_n 0, (.null, 0, 0, [], [])), (27, 3, .getfield 16, (.null, 11, 2, [], [915])), (30, 1, .iload_n 3, (.null, 3, 0, [], [])), (31, 1, .iaload, (.null, 0, 0, [], [])), (32, 3, .ifCond .ge 9, (.null, 4, 63, [], [])), (35, 0, .nop, (.null, 3, 1, [], []))]
def k143_3 : List Ins := [(35, 1, .aload_n 0, (.null, 0, 0, [], [])), (36, 1, .iconst 1, (.int 1, 0, 0, [], [])), (37, 3, .invokevirtual 83, (.null, 1, 1, [(11, 137, 2)], [1032, 1034, 26])), (40, 1, .ireturn, (.null, 0, 0, [], []))]
def k143_4 : List Ins := [(41, 1, .aload_n 0, (.null, 0, 0, [], [])), (42, 3, .getfield 13, (.null, 11, 1, [], [914])), (45, 1, .iload_n 1, (.null, 1, 0, [], [])), (46, 1, .iaload, (.null, 0, 0, [], [])), (47, 1, .aload_n 0, (.null, 0, 0, [], [])), (48, 3, .getfield 13, (.null, 11, 1, [], [914])), (51, 1, .iload_n 3, (.null, 3, 0, [], [])), (52, 1, .iaload, (.null, 0, 0, [], [])), (53, 3, .if_icmp .eq 9, (.null, 5, 63, [], [])), (56, 1, .aload_n 0, (.null, 0, 0, [], [])), (57, 1, .iconst 5, (.int 5, 0, 0, [], [])), (58, 3, .invokevirtual 83, (.null, 1, 1, [(11, 137, 2)], [1032, 1034, 26])), (61, 1, .ireturn, (.null, 0, 0, [], []))]
def k143_5 : List Ins := [(62, 1, .aload_n 0, (.null, 0, 0, [], [])), (63, 1, .iload_n 1, (.null, 1, 0, [], [])), (64, 1, .iload_n 2, (.null, 2, 0, [], [])), (65, 2, .iload 5, (.null, 5, 0, [], [])), (67, 3, .invokevirtual 90, (.null, 3, 1, [(11, 142, 4)], [1049, 1051, 28])), (70, 3, .ifCond .eq 15, (.null, 6, 1, [], [])), (73, 1, .aload_n 0, (.null, 0, 0, [], [])), (74, 1, .iload_n 3, (.null, 3, 0, [], [])), (75, 2, .iload 4, (.null, 4, 0, [], [])), (77, 2, .iload 5, (.null, 5, 0, [], [])), (79, 3, .invokevirtual 90, (.null, 3, 1, [(11, 142, 4)], [1049, 1051, 28])), (82, 3, .ifCond .ne 9, (.null, 7, 63, [], [])), (85, 0, .nop, (.null, 6, 1, [], []))]
def k143_6 : List Ins := [(85, 1, .aload_n 0, (.null, 0, 0, [], [])), (86, 1, .iconst 2, (.int 2, 0, 0, [], [])), (87, 3, .invokevirtual 83, (.null, 1, 1, [(11, 137, 2)], [1032, 1034, 26])), (90, 1, .ireturn, (.null, 0, 0, [], []))]
def k143_7 : List Ins := [(91, 1, .iload_n 2, (.null, 2, 0, [], [])), (92, 2, .iload 4, (.null, 4, 0, [], [])), (94, 3, .if_icmp .lt 7, (.null, 8, 63, [], [])), (97, 1, .iconst 1, (.int 1, 0, 0, [], [])), (98, 3, .goto 4, (.int 0, 9, 63, [], []))]
def k143_8 : List Ins := [(101, 1, .iconst 0, (.int 0, 0, 0, [], [])), (102, 0, .nop, (.null, 9, 63, [], []))]
def k143_9 : List Ins := [(102, 2, .istore 6, (.null, 6, 0, [], [])), (104, 1, .iconst 0, (.int 0, 0, 0, [], [])), (105, 2, .istore 7, (.null, 7, 0, [], [])), (107, 0, .nop, (.null, 10, 255, [], []))]
def k143_10 : List Ins := [(107, 2, .iload 7, (.null, 7, 0, [], [])), (109, 2, .iload 5, (.null, 5, 0, [], [])), (111, 3, .if_icmp .ge 57, (.null, 13, 33, [], [])), (114, 2, .iload 6, (.null, 6, 0, [], [])), (116, 3, .ifCond .eq 8, (.null, 11, 255, [], [])), (119, 2, .iload 7, (.null, 7, 0, [], [])), (121, 3, .goto 10, (.int 0, 12, 255, [], []))]
def k143_11 : List Ins := [(124, 2, .iload 5, (.null, 5, 0, [], [])), (126, 1, .iconst 1, (.int 1, 0, 0, [], [])), (127, 1, .isub, (.null, 0, 0, [], [])), (128, 2, .iload 7, (.null, 7, 0, [], [])), (130, 1, .isub, (.null, 0, 0, [], [])), (131, 0, .nop, (.null, 12, 255, [], []))]
def k143_12 : List Ins := [(131, 2, .istore 8, (.null, 8, 0, [], [])), (133, 1, .aload_n 0, (.null, 0, 0, [], [])), (134, 3, .getfield 7, (.null, 11, 0, [], [913])), (137, 2, .bipush 40, (.int 40, 0, 0, [], [])), (139, 1, .iload_n 3, (.null, 3, 0, [], [])), (140, 1, .imul, (.null, 0, 0, [], [])), (141, 2, .iload 4, (.null, 4, 0, [], [])), (143, 1, .iadd, (.null, 0, 0, [], [])), (144, 2, .iload 8, (.null, 8, 0, [], [])), (146, 1, .iadd, (.null, 0, 0, [], [])), (147, 1, .aload_n 0, (.null, 0, 0, [], [])), (148, 3, .getfield 7, (.null, 11, 0, [], [913])), (151, 2, .bipush 40, (.int 40, 0, 0, [], [])), (153, 1, .iload_n 1, (.null, 1, 0, [], [])), (154, 1, .imul, (.null, 0, 0, [], [])), (155, 1, .iload_n 2, (.null, 2, 0, [], [])), (156, 1, .iadd, (.null, 0, 0, [], [])), (157, 2, .iload 8, (.null, 8, 0, [], [])), (159, 1, .iadd, (.null, 0, 0, [], [])), (160, 1, .iaload, (.null, 0, 0, [], [])), (161, 1, .iastore, (.null, 0, 0, [], [])), (162, 3, .iinc 7 1, (.int 1, 7, 0, [], [])), (165, 3, .goto (-58), (.int 0, 10, 255, [], []))]
def k143_13 : List Ins := [(168, 1, .aload_n 0, (.null, 0, 0, [], [])), (169, 2, .iload 5, (.null, 5, 0, [], [])), (171, 3, .invokevirtual 87, (.null, 1, 1, [(11, 138, 2)], [1037, 1039, 27])), (174, 1, .ireturn, (.null, 0, 0, [], []))]
def m143 : MI := (yX12_copy, cX12_copy, 9, (some .int), [k143_0, k143_1, k143_2, k143_3, k143_4, k143_5, k143_6, k143_7, k143_8, k143_9, k143_10, k143_11, k143_12, k143_13])
def k144_0 : List Ins := [(0, 1, .iload_n 1, (.null, 1, 0, [], [])), (1, 3, .invokestatic 76, (.null, 1, 1, [(0, 139, 1)], [1023, 1024])), (4, 3, .ifCond .ne 6, (.null, 1, 3, [], [])), (7, 2, .ldc 82, (.int (-1000001), 0, 0, [], [1031])), (9, 1, .ireturn, (.null, 0, 0, [], []))]
def k144_1 : List Ins := [(10, 1, .aload_n 0, (.null, 0, 0, [], [])), (11, 3, .getfield 16, (.null, 11, 2, [], [915])), (14, 1, .iload_n 1, (.null, 1, 0, [], [])), (15, 1, .iaload, (.null, 0, 0, [], [])), (16, 3, .ifCond .ge 9, (.null, 2, 3, [], [])), (19, 1, .aload_n 0, (.null, 0, 0, [], [])), (20, 1, .iconst 1, (.int 1, 0, 0, [], [])), (21, 3, .invokevirtual 83, (.null, 1, 1, [(11, 137, 2)], [1032, 1034, 26])), (24, 1, .ireturn, (.null, 0, 0, [], []))]
def k144_2 : List Ins := [(25, 1, .aload_n 0, (.null, 0, 0, [], [])), (26, 3, .getfield 16, (.null, 11, 2, [], [915])), (29, 1, .iload_n 1, (.null, 1, 0, [], [])), (30, 1, .iaload, (.null, 0, 0, [], [])), (31, 1, .istore_n 2, (.null, 2, 0, [], [])), (32, 1, .aload_n 0, (.null, 0, 0, [], [])), (33, 3, .getfield 16, (.null, 11, 2, [], [915])), (36, 1, .iload_n 1, (.null, 1, 0, [], [])), (37, 1, .iconst (-1), (.int (-1), 0, 0, [], [])), (38, 1, .iastore, (.null, 0, 0, [], [])), (39, 1, .aload_n 0, (.null, 0, 0, [], [])), (40, 1, .iload_n 2, (.null, 2, 0, [], [])), (41, 3, .invokevirtual 87, (.null, 1, 1, [(11, 138, 2)], [1037, 1039, 27])), (44, 1, .ireturn, (.null, 0, 0, [], []))]
def m144 : MI := (yX12_drop, cX12_drop, 3, (some .int), [k144_0, k144_1, k144_2])
def k145_0 : List Ins := [(0, 1, .iload_n 1, (.null, 1, 0, [], [])), (1, 1, .i2l, (.null, 0, 0, [], [])), (2, 1, .lconst 0, (.long 0, 0, 0, [], [])), (3, 3, .ldc2_w 94, (.long 255, 0, 0, [], [1061])), (6, 3, .invokestatic 72, (.null, 3, 1, [(0, 134, 6)], [1027, 1028])), (9, 3, .ifCond .ne 6, (.null, 1, 3, [], [])), (12, 2, .ldc 82, (.int (-1000001), 0, 0, [], [1031])), (14, 1, .ireturn, (.null, 0, 0, [], []))]
def k145_1 : List Ins := [(15, 1, .aload_n 0, (.null, 0, 0, [], [])), (16, 3, .getfield 96, (.int 0, 11, 14, [], [927])), (19, 2, .bipush 100, (.int 100, 0, 0, [], [])), (21, 3, .if_icmp .ne 6, (.null, 2, 3, [], [])), (24, 2, .ldc 99, (.int (-1000003), 0, 0, [], [1062])), (26, 1, .ireturn, (.null, 0, 0, [], []))]
def k145_2 : List Ins := [(27, 1, .aload_n 0, (.null, 0, 0, [], [])), (28, 3, .getfield 34, (.null, 11, 15, [], [928])), (31, 1, .aload_n 0, (.null, 0, 0, [], [])), (32, 3, .getfield 96, (.int 0, 11, 14, [], [927])), (35, 1, .iload_n 1, (.null, 1, 0, [], [])), (36, 1, .iastore, (.null, 0, 0, [], [])), (37, 1, .aload_n 0, (.null, 0, 0, [], [])), (38, 1, .dup, (.null, 0, 0, [], [])), (39, 3, .getfield 96, (.int 0, 11, 14, [], [927])), (42, 1, .iconst 1, (.int 1, 0, 0, [], [])), (43, 1, .iadd, (.null, 0, 0, [], [])), (44, 3, .putfield 96, (.int 0, 11, 14, [], [927])), (47, 1, .aload_n 0, (.null, 0, 0, [], [])), (48, 3, .getfield 96, (.int 0, 11, 14, [], [927])), (51, 1, .ireturn, (.null, 0, 0, [], []))]
def m145 : MI := (yX12_feed, cX12_feed, 2, (some .int), [k145_0, k145_1, k145_2])
def k146_0 : List Ins := [(0, 1, .iload_n 0, (.null, 0, 0, [], [])), (1, 1, .i2l, (.null, 0, 0, [], [])), (2, 3, .ldc2_w 100, (.long 48, 0, 0, [], [1086])), (5, 3, .ldc2_w 102, (.long 57, 0, 0, [], [1087])), (8, 3, .invokestatic 72, (.null, 3, 1, [(0, 134, 6)], [1027, 1028])), (11, 1, .ireturn, (.null, 1, 0, [], []))]
def m146 : MI := (yX12_isFigure, cX12_isFigure, 1, (some .boolean), [k146_0])
def k147_0 : List Ins := [(0, 1, .aload_n 0, (.null, 0, 0, [], [])), (1, 1, .aload_n 0, (.null, 0, 0, [], [])), (2, 3, .getfield 104, (.int 0, 11, 19, [], [932])), (5, 3, .putfield 107, (.int 0, 11, 20, [], [933])), (8, 1, .aload_n 0, (.null, 0, 0, [], [])), (9, 1, .iconst (-1), (.int (-1), 0, 0, [], [])), (10, 3, .putfield 110, (.int 0, 11, 21, [], [934])), (13, 1, .aload_n 0, (.null, 0, 0, [], [])), (14, 1, .iconst 0, (.int 0, 0, 0, [], [])), (15, 3, .putfield 113, (.int 0, 11, 22, [], [935])), (18, 1, .aload_n 0, (.null, 0, 0, [], [])), (19, 3, .getfield 104, (.int 0, 11, 19, [], [932])), (22, 1, .aload_n 0, (.null, 0, 0, [], [])), (23, 3, .getfield 96, (.int 0, 11, 14, [], [927])), (26, 3, .if_icmp .ne 4, (.null, 1, 1, [], [])), (29, 1, .return_, (.null, 0, 0, [], []))]
def k147_1 : List Ins := [(30, 1, .aload_n 0, (.null, 0, 0, [], [])), (31, 3, .getfield 34, (.null, 11, 15, [], [928])), (34, 1, .aload_n 0, (.null, 0, 0, [], [])), (35, 3, .getfield 104, (.int 0, 11, 19, [], [932])), (38, 1, .iaload, (.null, 0, 0, [], [])), (39, 1, .istore_n 1, (.null, 1, 0, [], [])), (40, 1, .iload_n 1, (.null, 1, 0, [], [])), (41, 3, .invokestatic 116, (.null, 1, 1, [(0, 146, 1)], [1083, 1084])), (44, 3, .ifCond .ne 49, (.null, 5, 1, [], [])), (47, 1, .aload_n 0, (.null, 0, 0, [], [])), (48, 1, .iload_n 1, (.null, 1, 0, [], [])), (49, 1, .i2l, (.null, 0, 0, [], [])), (50, 3, .ldc2_w 119, (.long 97, 0, 0, [], [1088])), (53, 3, .ldc2_w 121, (.long 122, 0, 0, [], [1089])), (56, 3, .invokestatic 72, (.null, 3, 1, [(0, 134, 6)], [1027, 1028])), (59, 3, .ifCond .ne 15, (.null, 2, 3, [], [])), (62, 1, .iload_n 1, (.null, 1, 0, [], [])), (63, 2, .bipush 44, (.int 44, 0, 0, [], [])), (65, 3, .if_icmp .eq 9, (.null, 2, 3, [], [])), (68, 1, .iload_n 1, (.null, 1, 0, [], [])), (69, 2, .bipush 59, (.int 59, 0, 0, [], [])), (71, 3, .if_icmp .ne 7, (.null, 3, 1, [], [])), (74, 0, .nop, (.null, 2, 3, [], []))]
def k147_2 : List Ins := [(74, 1, .iload_n 1, (.null, 1, 0, [], [])), (75, 3, .goto 4, (.int 0, 4, 1, [], []))]
def k147_3 : List Ins := [(78, 1, .iconst (-1), (.int (-1), 0, 0, [], [])), (79, 0, .nop, (.null, 4, 1, [], []))]
def k147_4 : List Ins := [(79, 3, .putfield 110, (.int 0, 11, 21, [], [934])), (82, 1, .aload_n 0, (.null, 0, 0, [], [])), (83, 1, .dup, (.null, 0, 0, [], [])), (84, 3, .getfield 104, (.int 0, 11, 19, [], [932])), (87, 1, .iconst 1, (.int 1, 0, 0, [], [])), (88, 1, .iadd, (.null, 0, 0, [], [])), (89, 3, .putfield 104, (.int 0, 11, 19, [], [932])), (92, 1, .return_, (.null, 0, 0, [], []))]
def k147_5 : List Ins := [(93, 1, .iconst 0, (.int 0, 0, 0, [], [])), (94, 1, .istore_n 2, (.null, 2, 0, [], [])), (95, 0, .nop, (.null, 6, 5, [], []))]
def k147_6 : List Ins := [(95, 1, .aload_n 0, (.null, 0, 0, [], [])), (96, 3, .getfield 104, (.int 0, 11, 19, [], [932])), (99, 1, .aload_n 0, (.null, 0, 0, [], [])), (100, 3, .getfield 96, (.int 0, 11, 14, [], [927])), (103, 3, .if_icmp .ge 70, (.null, 9, 5, [], [])), (106, 1, .aload_n 0, (.null, 0, 0, [], [])), (107, 3, .getfield 34, (.null, 11, 15, [], [928])), (110, 1, .aload_n 0, (.null, 0, 0, [], [])), (111, 3, .getfield 104, (.int 0, 11, 19, [], [932])), (114, 1, .iaload, (.null, 0, 0, [], [])), (115, 3, .invokestatic 116, (.null, 1, 1, [(0, 146, 1)], [1083, 1084])), (118, 3, .ifCond .eq 55, (.null, 9, 5, [], [])), (121, 1, .aload_n 0, (.null, 0, 0, [], [])), (122, 1, .iload_n 2, (.null, 2, 0, [], [])), (123, 1, .iconst 2, (.int 2, 0, 0, [], [])), (124, 3, .if_icmp .ge 26, (.null, 7, 5, [], [])), (127, 2, .bipush 10, (.int 10, 0, 0, [], [])), (129, 1, .aload_n 0, (.null, 0, 0, [], [])), (130, 3, .getfield 113, (.int 0, 11, 22, [], [935])), (133, 1, .imul, (.null, 0, 0, [], [])), (134, 1, .aload_n 0, (.null, 0, 0, [], [])), (135, 3, .getfield 34, (.null, 11, 15, [], [928])), (138, 1, .aload_n 0, (.null, 0, 0, [], [])), (139, 3, .getfield 104, (.int 0, 11, 19, [], [932])), (142, 1, .iaload, (.null, 0, 0, [], [])), (143, 1, .iadd, (.null, 0, 0, [], [])), (144, 2, .bipush 48, (.int 48, 0, 0, [], [])), (146, 1, .isub, (.null, 0, 0, [], [])), (147, 3, .goto 7, (.int 0, 8, 5, [], []))]
def k147_7 : List Ins := [(150, 1, .aload_n 0, (.null, 0, 0, [], [])), (151, 3, .getfield 113, (.int 0, 11, 22, [], [935])), (154, 0, .nop, (.null, 8, 5, [], []))]
def k147_8 : List Ins := [(154, 3, .putfield 113, (.int 0, 11, 22, [], [935])), (157, 3, .iinc 2 1, (.int 1, 2, 0, [], [])), (160, 1, .aload_n 0, (.null, 0, 0, [], [])), (161, 1, .dup, (.null, 0, 0, [], [])), (162, 3, .getfield 104, (.int 0, 11, 19, [], [932])), (165, 1, .iconst 1, (.int 1, 0, 0, [], [])), (166, 1, .iadd, (.null, 0, 0, [], [])), (167, 3, .putfield 104, (.int 0, 11, 19, [], [932])), (170, 3, .goto (-75), (.int 0, 6, 5, [], []))]
def k147_9 : List Ins := [(173, 1, .aload_n 0, (.null, 0, 0, [], [])), (174, 1, .iload_n 2, (.null, 2, 0, [], [])), (175, 1, .iconst 3, (.int 3, 0, 0, [], [])), (176, 3, .if_icmp .ge 7, (.null, 10, 0, [], [])), (179, 1, .iconst 0, (.int 0, 0, 0, [], [])), (180, 3, .goto 4, (.int 0, 11, 0, [], []))]
def k147_10 : List Ins := [(183, 1, .iconst (-1), (.int (-1), 0, 0, [], [])), (184, 0, .nop, (.null, 11, 0, [], []))]
def k147_11 : List Ins := [(184, 3, .putfield 110, (.int 0, 11, 21, [], [934])), (187, 1, .return_, (.null, 0, 0, [], []))]
def m147 : MI := (yX12_next, cX12_next, 3, none, [k147_0, k147_1, k147_2, k147_3, k147_4, k147_5, k147_6, k147_7, k147_8, k147_9, k147_10, k147_11])
def k148_0 : List Ins := [(0, 1, .aload_n 0, (.null, 0, 0, [], [])), (1, 3, .invokevirtual 123, (.null, 0, 0, [(11, 147, 3)], [1079, 1081, 32])), (4, 1, .aload_n 0, (.null, 0, 0, [], [])), (5, 3, .getfield 110, (.int 0, 11, 21, [], [934])), (8, 1, .iload_n 1, (.null, 1, 0, [], [])), (9, 3, .if_icmp .ne 7, (.null, 1, 0, [], [])), (12, 1, .iconst 0, (.int 0, 0, 0, [], [])), (13, 3, .goto 4, (.null, 0, 0, [], [])), (17, 1, .ireturn, (.null, 0, 0, [], []))]
def k148_1 : List Ins := [(16, 1, .iconst 1, (.int 1, 0, 0, [], [])), (17, 1, .ireturn, (.null, 0, 0, [], []))]
def m148 : MI := (yX12_sign, cX12_sign, 2, (some .int), [k148_0, k148_1])
def k149_0 : List Ins := [(0, 1, .aload_n 0, (.null, 0, 0, [], [])), (1, 3, .invokevirtual 123, (.null, 0, 0, [(11, 147, 3)], [1079, 1081, 32])), (4, 1, .aload_n 0, (.null, 0, 0, [], [])), (5, 3, .getfield 110, (.int 0, 11, 21, [], [934])), (8, 3, .ifCond .eq 7, (.null, 1, 7, [], [])), (11, 1, .iconst 1, (.int 1, 0, 0, [], [])), (12, 3, .goto 23, (.null, 0, 0, [], [])), (35, 1, .ireturn, (.null, 0, 0, [], []))]
def k149_1 : List Ins := [(15, 1, .aload_n 0, (.null, 0, 0, [], [])), (16, 3, .getfield 113, (.int 0, 11, 22, [], [935])), (19, 1, .i2l, (.null, 0, 0, [], [])), (20, 1, .iload_n 1, (.null, 1, 0, [], [])), (21, 1, .i2l, (.null, 0, 0, [], [])), (22, 1, .iload_n 2, (.null, 2, 0, [], [])), (23, 1, .i2l, (.null, 0, 0, [], [])), (24, 3, .invokestatic 72, (.null, 3, 1, [(0, 134, 6)], [1027, 1028])), (27, 3, .ifCond .eq 7, (.null, 2, 0, [], [])), (30, 1, .iconst 0, (.int 0, 0, 0, [], [])), (31, 3, .goto 4, (.null, 0, 0, [], [])), (35, 1, .ireturn, (.null, 0, 0, [], []))]
def k149_2 : List Ins := [(34, 1, .iconst 2, (.int 2, 0, 0, [], [])), (35, 1, .ireturn, (.null, 0, 0, [], []))]
def m149 : MI := (yX12_numberIn, cX12_numberIn, 3, (some .int), [k149_0, k149_1, k149_2])
def k150_0 : List Ins := [(0, 1, .aload_n 0, (.null, 0, 0, [], [])), (1, 2, .bipush 104, (.int 104, 0, 0, [], [])), (3, 3, .invokevirtual 126, (.null, 1, 1, [(11, 148, 2)], [1075, 1077, 31])), (6, 1, .istore_n 1, (.null, 1, 0, [], [])), (7, 1, .iload_n 1, (.null, 1, 0, [], [])), (8, 3, .ifCond .ne 19, (.null, 1, 3, [], [])), (11, 1, .aload_n 0, (.null, 0, 0, [], [])), (12, 1, .iconst 3, (.int 3, 0, 0, [], [])), (13, 2, .bipush 9, (.int 9, 0, 0, [], [])), (15, 3, .invokevirtual 129, (.null, 2, 1, [(11, 149, 3)], [1090, 1092, 33])), (18, 1, .istore_n 1, (.null, 1, 0, [], [])), (19, 1, .aload_n 0, (.null, 0, 0, [], [])), (20, 1, .aload_n 0, (.null, 0, 0, [], [])), (21, 3, .getfield 113, (.int 0, 11, 22, [], [935])), (24, 3, .putfield 133, (.int 0, 11, 26, [], [939])), (27, 0, .nop, (.null, 1, 3, [], []))]
def k150_1 : List Ins := [(27, 1, .iload_n 1, (.null, 1, 0, [], [])), (28, 3, .ifCond .ne 12, (.null, 2, 3, [], [])), (31, 1, .aload_n 0, (.null, 0, 0, [], [])), (32, 2, .bipush 44, (.int 44, 0, 0, [], [])), (34, 3, .invokevirtual 126, (.null, 1, 1, [(11, 148, 2)], [1075, 1077, 31])), (37, 3, .goto 4, (.int 0, 3, 1, [], []))]
def k150_2 : List Ins := [(40, 1, .iload_n 1, (.null, 1, 0, [], [])), (41, 0, .nop, (.null, 3, 1, [], []))]
def k150_3 : List Ins := [(41, 1, .istore_n 1, (.null, 1, 0, [], [])), (42, 1, .iload_n 1, (.null, 1, 0, [], [])), (43, 3, .ifCond .ne 22, (.null, 4, 3, [], [])), (46, 1, .aload_n 0, (.null, 0, 0, [], [])), (47, 1, .iconst 2, (.int 2, 0, 0, [], [])), (48, 2, .bipush 20, (.int 20, 0, 0, [], [])), (50, 3, .invokevirtual 129, (.null, 2, 1, [(11, 149, 3)], [1090, 1092, 33])), (53, 1, .istore_n 1, (.null, 1, 0, [], [])), (54, 1, .aload_n 0, (.null, 0, 0, [], [])), (55, 3, .getfield 46, (.null, 11, 25, [], [938])), (58, 2, .bipush 30, (.int 30, 0, 0, [], [])), (60, 1, .aload_n 0, (.null, 0, 0, [], [])), (61, 3, .getfield 113, (.int 0, 11, 22, [], [935])), (64, 1, .iastore, (.null, 0, 0, [], [])), (65, 0, .nop, (.null, 4, 3, [], []))]
def k150_4 : List Ins := [(65, 1, .iload_n 1, (.null, 1, 0, [], [])), (66, 3, .ifCond .ne 12, (.null, 5, 2, [], [])), (69, 1, .aload_n 0, (.null, 0, 0, [], [])), (70, 2, .bipush 59, (.int 59, 0, 0, [], [])), (72, 3, .invokevirtual 126, (.null, 1, 1, [(11, 148, 2)], [1075, 1077, 31])), (75, 3, .goto 4, (.null, 0, 0, [], [])), (79, 1, .ireturn, (.null, 0, 0, [], []))]
def k150_5 : List Ins := [(78, 1, .iload_n 1, (.null, 1, 0, [], [])), (79, 1, .ireturn, (.null, 0, 0, [], []))]
def m150 : MI := (yX12_law, cX12_law, 2, (some .int), [k150_0, k150_1, k150_2, k150_3, k150_4, k150_5])
def k151_0 : List Ins := [(0, 1, .iload_n 0, (.null, 0, 0, [], [])), (1, 2, .bipush 99, (.int 99, 0, 0, [], [])), (3, 3, .if_icmp .ne 7, (.null, 1, 1, [], [])), (6, 1, .iconst 1, (.int 1, 0, 0, [], [])), (7, 3, .goto 44, (.null, 0, 0, [], [])), (51, 1, .ireturn, (.null, 0, 0, [], []))]
def k151_1 : List Ins := [(10, 1, .iload_n 0, (.null, 0, 0, [], [])), (11, 2, .bipush 115, (.int 115, 0, 0, [], [])), (13, 3, .if_icmp .ne 7, (.null, 2, 1, [], [])), (16, 1, .iconst 2, (.int 2, 0, 0, [], [])), (17, 3, .goto 34, (.null, 0, 0, [], [])), (51, 1, .ireturn, (.null, 0, 0, [], []))]
def k151_2 : List Ins := [(20, 1, .iload_n 0, (.null, 0, 0, [], [])), (21, 2, .bipush 108, (.int 108, 0, 0, [], [])), (23, 3, .if_icmp .ne 7, (.null, 3, 1, [], [])), (26, 1, .iconst 3, (.int 3, 0, 0, [], [])), (27, 3, .goto 24, (.null, 0, 0, [], [])), (51, 1, .ireturn, (.null, 0, 0, [], []))]
def k151_3 : List Ins := [(30, 1, .iload_n 0, (.null, 0, 0, [], [])), (31, 2, .bipush 112, (.int 112, 0, 0, [], [])), (33, 3, .if_icmp .ne 7, (.null, 4, 1, [], [])), (36, 1, .iconst 4, (.int 4, 0, 0, [], [])), (37, 3, .goto 14, (.null, 0, 0, [], [])), (51, 1, .ireturn, (.null, 0, 0, [], []))]
def k151_4 : List Ins := [(40, 1, .iload_n 0, (.null, 0, 0, [], [])), (41, 2, .bipush 114, (.int 114, 0, 0, [], [])), (43, 3, .if_icmp .ne 7, (.null, 5, 0, [], [])), (46, 1, .iconst 5, (.int 5, 0, 0, [], [])), (47, 3, .goto 4, (.null, 0, 0, [], [])), (51, 1, .ireturn, (.null, 0, 0, [], []))]
def k151_5 : List Ins := [(50, 1, .iconst 0, (.int 0, 0, 0, [], [])), (51, 1, .ireturn, (.null, 0, 0, [], []))]
def m151 : MI := (yX12_kindOf, cX12_kindOf, 1, (some .int), [k151_0, k151_1, k151_2, k151_3, k151_4, k151_5])
def k152_0 : List Ins := [(0, 1, .aload_n 0, (.null, 0, 0, [], [])), (1, 3, .invokevirtual 123, (.null, 0, 0, [(11, 147, 3)], [1079, 1081, 32])), (4, 1, .aload_n 0, (.null, 0, 0, [], [])), (5, 3, .getfield 110, (.int 0, 11, 21, [], [934])), (8, 3, .invokestatic 136, (.null, 1, 1, [(0, 151, 1)], [1098, 1099])), (11, 1, .istore_n 1, (.null, 1, 0, [], [])), (12, 1, .iload_n 1, (.null, 1, 0, [], [])), (13, 3, .ifCond .ne 5, (.null, 1, 3, [], [])), (16, 1, .iconst 1, (.int 1, 0, 0, [], [])), (17, 1, .ireturn, (.null, 0, 0, [], []))]
def k152_1 : List Ins := [(18, 1, .aload_n 0, (.null, 0, 0, [], [])), (19, 3, .getfield 139, (.int 0, 11, 27, [], [940])), (22, 2, .bipush 6, (.int 6, 0, 0, [], [])), (24, 3, .if_icmp .ne 5, (.null, 2, 3, [], [])), (27, 1, .iconst 3, (.int 3, 0, 0, [], [])), (28, 1, .ireturn, (.null, 0, 0, [], []))]
def k152_2 : List Ins := [(29, 1, .aload_n 0, (.null, 0, 0, [], [])), (30, 3, .getfield 139, (.int 0, 11, 27, [], [940])), (33, 1, .istore_n 2, (.null, 2, 0, [], [])), (34, 1, .aload_n 0, (.null, 0, 0, [], [])), (35, 3, .getfield 40, (.null, 11, 23, [], [936])), (38, 1, .iload_n 2, (.null, 2, 0, [], [])), (39, 1, .iload_n 1, (.null, 1, 0, [], [])), (40, 1, .iastore, (.null, 0, 0, [], [])), (41, 1, .aload_n 0, (.null, 0, 0, [], [])), (42, 3, .getfield 46, (.null, 11, 25, [], [938])), (45, 1, .iload_n 2, (.null, 2, 0, [], [])), (46, 2, .bipush 20, (.int 20, 0, 0, [], [])), (48, 1, .iastore, (.null, 0, 0, [], [])), (49, 1, .aload_n 0, (.null, 0, 0, [], [])), (50, 1, .iconst 0, (.int 0, 0, 0, [], [])), (51, 1, .aload_n 0, (.null, 0, 0, [], [])), (52, 3, .getfield 133, (.int 0, 11, 26, [], [939])), (55, 1, .iconst 1, (.int 1, 0, 0, [], [])), (56, 1, .isub, (.null, 0, 0, [], [])), (57, 3, .invokevirtual 129, (.null, 2, 1, [(11, 149, 3)], [1090, 1092, 33])), (60, 1, .istore_n 3, (.null, 3, 0, [], [])), (61, 1, .aload_n 0, (.null, 0, 0, [], [])), (62, 3, .getfield 46, (.null, 11, 25, [], [938])), (65, 2, .bipush 24, (.int 24, 0, 0, [], [])), (67, 1, .iload_n 2, (.null, 2, 0, [], [])), (68, 1, .iadd, (.null, 0, 0, [], [])), (69, 1, .aload_n 0, (.null, 0, 0, [], [])), (70, 3, .getfield 113, (.int 0, 11, 22, [], [935])), (73, 1, .iastore, (.null, 0, 0, [], [])), (74, 1, .iload_n 3, (.null, 3, 0, [], [])), (75, 3, .ifCond .ne 12, (.null, 3, 13, [], [])), (78, 1, .aload_n 0, (.null, 0, 0, [], [])), (79, 2, .bipush 44, (.int 44, 0, 0, [], [])), (81, 3, .invokevirtual 126, (.null, 1, 1, [(11, 148, 2)], [1075, 1077, 31])), (84, 3, .goto 4, (.int 0, 4, 5, [], []))]
def k152_3 : List Ins := [(87, 1, .iload_n 3, (.null, 3, 0, [], [])), (88, 0, .nop, (.null, 4, 5, [], []))]
def k152_4 : List Ins := [(88, 1, .istore_n 3, (.null, 3, 0, [], [])), (89, 1, .iload_n 3, (.null, 3, 0, [], [])), (90, 3, .ifCond .ne 21, (.null, 5, 13, [], [])), (93, 1, .aload_n 0, (.null, 0, 0, [], [])), (94, 1, .iconst 1, (.int 1, 0, 0, [], [])), (95, 2, .bipush 9, (.int 9, 0, 0, [], [])), (97, 3, .invokevirtual 129, (.null, 2, 1, [(11, 149, 3)], [1090, 1092, 33])), (100, 1, .istore_n 3, (.null, 3, 0, [], [])), (101, 1, .aload_n 0, (.null, 0, 0, [], [])), (102, 3, .getfield 43, (.null, 11, 24, [], [937])), (105, 1, .iload_n 2, (.null, 2, 0, [], [])), (106, 1, .aload_n 0, (.null, 0, 0, [], [])), (107, 3, .getfield 113, (.int 0, 11, 22, [], [935])), (110, 1, .iastore, (.null, 0, 0, [], [])), (111, 0, .nop, (.null, 5, 13, [], []))]
def k152_5 : List Ins := [(111, 1, .iload_n 3, (.null, 3, 0, [], [])), (112, 3, .ifCond .ne 12, (.null, 6, 13, [], [])), (115, 1, .aload_n 0, (.null, 0, 0, [], [])), (116, 2, .bipush 44, (.int 44, 0, 0, [], [])), (118, 3, .invokevirtual 126, (.null, 1, 1, [(11, 148, 2)], [1075, 1077, 31])), (121, 3, .goto 4, (.int 0, 7, 5, [], []))]
def k152_6 : List Ins := [(124, 1, .iload_n 3, (.null, 3, 0, [], [])), (125, 0, .nop, (.null, 7, 5, [], []))]
def k152_7 : List Ins := [(125, 1, .istore_n 3, (.null, 3, 0, [], [])), (126, 1, .iload_n 3, (.null, 3, 0, [], [])), (127, 3, .ifCond .ne 24, (.null, 8, 9, [], [])), (130, 1, .aload_n 0, (.null, 0, 0, [], [])), (131, 1, .iconst 0, (.int 0, 0, 0, [], [])), (132, 2, .bipush 20, (.int 20, 0, 0, [], [])), (134, 3, .invokevirtual 129, (.null, 2, 1, [(11, 149, 3)], [1090, 1092, 33])), (137, 1, .istore_n 3, (.null, 3, 0, [], [])), (138, 1, .aload_n 0, (.null, 0, 0, [], [])), (139, 3, .getfield 46, (.null, 11, 25, [], [938])), (142, 2, .bipush 18, (.int 18, 0, 0, [], [])), (144, 1, .iload_n 2, (.null, 2, 0, [], [])), (145, 1, .iadd, (.null, 0, 0, [], [])), (146, 1, .aload_n 0, (.null, 0, 0, [], [])), (147, 3, .getfield 113, (.int 0, 11, 22, [], [935])), (150, 1, .iastore, (.null, 0, 0, [], [])), (151, 0, .nop, (.null, 8, 9, [], []))]
def k152_8 : List Ins := [(151, 1, .aload_n 0, (.null, 0, 0, [], [])), (152, 1, .dup, (.null, 0, 0, [], [])), (153, 3, .getfield 139, (.int 0, 11, 27, [], [940])), (156, 1, .iconst 1, (.int 1, 0, 0, [], [])), (157, 1, .iadd, (.null, 0, 0, [], [])), (158, 3, .putfield 139, (.int 0, 11, 27, [], [940])), (161, 1, .iload_n 3, (.null, 3, 0, [], [])), (162, 3, .ifCond .ne 12, (.null, 9, 8, [], [])), (165, 1, .aload_n 0, (.null, 0, 0, [], [])), (166, 2, .bipush 59, (.int 59, 0, 0, [], [])), (168, 3, .invokevirtual 126, (.null, 1, 1, [(11, 148, 2)], [1075, 1077, 31])), (171, 3, .goto 4, (.null, 0, 0, [], [])), (175, 1, .ireturn, (.null, 0, 0, [], []))]
def k152_9 : List Ins := [(174, 1, .iload_n 3, (.null, 3, 0, [], [])), (175, 1, .ireturn, (.null, 0, 0, [], []))]
def m152 : MI := (yX12_letterItem, cX12_letterItem, 4, (some .int), [k152_0, k152_1, k152_2, k152_3, k152_4, k152_5, k152_6, k152_7, k152_8, k152_9])
def k153_0 : List Ins := [(0, 1, .aload_n 0, (.null, 0, 0, [], [])), (1, 1, .iconst 0, (.int 0, 0, 0, [], [])), (2, 3, .putfield 104, (.int 0, 11, 19, [], [932])), (5, 1, .aload_n 0, (.null, 0, 0, [], [])), (6, 1, .iconst 0, (.int 0, 0, 0, [], [])), (7, 3, .putfield 139, (.int 0, 11, 27, [], [940])), (10, 1, .iconst 0, (.int 0, 0, 0, [], [])), (11, 1, .istore_n 1, (.null, 1, 0, [], [])), (12, 0, .nop, (.null, 1, 3, [], []))]
def k153_1 : List Ins := [(12, 1, .iload_n 1, (.null, 1, 0, [], [])), (13, 2, .bipush 32, (.int 32, 0, 0, [], [])), (15, 3, .if_icmp .ge 16, (.null, 2, 1, [], [])), (18, 1, .aload_n 0, (.null, 0, 0, [], [])), (19, 3, .getfield 46, (.null, 11, 25, [], [938])), (22, 1, .iload_n 1, (.null, 1, 0, [], [])), (23, 1, .iconst 0, (.int 0, 0, 0, [], [])), (24, 1, .iastore, (.null, 0, 0, [], [])), (25, 3, .iinc 1 1, (.int 1, 1, 0, [], [])), (28, 3, .goto (-16), (.int 0, 1, 3, [], []))]
def k153_2 : List Ins := [(31, 1, .aload_n 0, (.null, 0, 0, [], [])), (32, 3, .invokevirtual 142, (.null, 0, 1, [(11, 150, 2)], [1071, 1073, 30])), (35, 1, .istore_n 1, (.null, 1, 0, [], [])), (36, 1, .iconst 1, (.int 1, 0, 0, [], [])), (37, 1, .istore_n 2, (.null, 2, 0, [], [])), (38, 0, .nop, (.null, 3, 7, [], []))]
def k153_3 : List Ins := [(38, 1, .iload_n 1, (.null, 1, 0, [], [])), (39, 3, .ifCond .ne 32, (.null, 6, 2, [], [])), (42, 1, .iload_n 2, (.null, 2, 0, [], [])), (43, 3, .ifCond .eq 28, (.null, 6, 2, [], [])), (46, 1, .aload_n 0, (.null, 0, 0, [], [])), (47, 3, .invokevirtual 146, (.null, 0, 1, [(11, 152, 4)], [1094, 1096, 34])), (50, 1, .istore_n 1, (.null, 1, 0, [], [])), (51, 1, .aload_n 0, (.null, 0, 0, [], [])), (52, 3, .getfield 104, (.int 0, 11, 19, [], [932])), (55, 1, .aload_n 0, (.null, 0, 0, [], [])), (56, 3, .getfield 96, (.int 0, 11, 14, [], [927])), (59, 3, .if_icmp .ge 7, (.null, 4, 3, [], [])), (62, 1, .iconst 1, (.int 1, 0, 0, [], [])), (63, 3, .goto 4, (.int 0, 5, 3, [], []))]
def k153_4 : List Ins := [(66, 1, .iconst 0, (.int 0, 0, 0, [], [])), (67, 0, .nop, (.null, 5, 3, [], []))]
def k153_5 : List Ins := [(67, 1, .istore_n 2, (.null, 2, 0, [], [])), (68, 3, .goto (-30), (.int 0, 3, 7, [], []))]
def k153_6 : List Ins := [(71, 1, .iload_n 1, (.null, 1, 0, [], [])), (72, 1, .ireturn, (.null, 0, 0, [], []))]
def m153 : MI := (yX12_readAll, cX12_readAll, 3, (some .int), [k153_0, k153_1, k153_2, k153_3, k153_4, k153_5, k153_6])
def k154_0 : List Ins := [(0, 1, .aload_n 0, (.null, 0, 0, [], [])), (1, 3, .invokevirtual 149, (.null, 0, 1, [(11, 153, 3)], [1067, 1069, 29])), (4, 1, .istore_n 1, (.null, 1, 0, [], [])), (5, 1, .aload_n 0, (.null, 0, 0, [], [])), (6, 1, .iconst 0, (.int 0, 0, 0, [], [])), (7, 3, .putfield 96, (.int 0, 11, 14, [], [927])), (10, 1, .iload_n 1, (.null, 1, 0, [], [])), (11, 3, .ifCond .eq 16, (.null, 1, 1, [], [])), (14, 1, .aload_n 0, (.null, 0, 0, [], [])), (15, 1, .iload_n 1, (.null, 1, 0, [], [])), (16, 3, .putfield 152, (.int 0, 11, 16, [], [929])), (19, 2, .ldc 155, (.int (-1000100), 0, 0, [], [1101])), (21, 1, .aload_n 0, (.null, 0, 0, [], [])), (22, 3, .getfield 107, (.int 0, 11, 20, [], [933])), (25, 1, .isub, (.null, 0, 0, [], [])), (26, 1, .ireturn, (.null, 0, 0, [], []))]
def k154_1 : List Ins := [(27, 1, .aload_n 0, (.null, 0, 0, [], [])), (28, 1, .aload_n 0, (.null, 0, 0, [], [])), (29, 3, .getfield 133, (.int 0, 11, 26, [], [939])), (32, 3, .putfield 156, (.int 0, 11, 4, [], [917])), (35, 1, .aload_n 0, (.null, 0, 0, [], [])), (36, 1, .aload_n 0, (.null, 0, 0, [], [])), (37, 3, .getfield 139, (.int 0, 11, 27, [], [940])), (40, 3, .putfield 159, (.int 0, 11, 5, [], [918])), (43, 1, .aload_n 0, (.null, 0, 0, [], [])), (44, 1, .iconst 1, (.int 1, 0, 0, [], [])), (45, 3, .putfield 162, (.int 1, 11, 6, [], [919])), (48, 1, .iconst 0, (.int 0, 0, 0, [], [])), (49, 1, .istore_n 2, (.null, 2, 0, [], [])), (50, 0, .nop, (.null, 2, 5, [], []))]
def k154_2 : List Ins := [(50, 1, .iload_n 2, (.null, 2, 0, [], [])), (51, 2, .bipush 6, (.int 6, 0, 0, [], [])), (53, 3, .if_icmp .ge 33, (.null, 3, 1, [], [])), (56, 1, .aload_n 0, (.null, 0, 0, [], [])), (57, 3, .getfield 19, (.null, 11, 7, [], [920])), (60, 1, .iload_n 2, (.null, 2, 0, [], [])), (61, 1, .aload_n 0, (.null, 0, 0, [], [])), (62, 3, .getfield 40, (.null, 11, 23, [], [936])), (65, 1, .iload_n 2, (.null, 2, 0, [], [])), (66, 1, .iaload, (.null, 0, 0, [], [])), (67, 1, .iastore, (.null, 0, 0, [], [])), (68, 1, .aload_n 0, (.null, 0, 0, [], [])), (69, 3, .getfield 22, (.null, 11, 8, [], [921])), (72, 1, .iload_n 2, (.null, 2, 0, [], [])), (73, 1, .aload_n 0, (.null, 0, 0, [], [])), (74, 3, .getfield 43, (.null, 11, 24, [], [937])), (77, 1, .iload_n 2, (.null, 2, 0, [], [])), (78, 1, .iaload, (.null, 0, 0, [], [])), (79, 1, .iastore, (.null, 0, 0, [], [])), (80, 3, .iinc 2 1, (.int 1, 2, 0, [], [])), (83, 3, .goto (-33), (.int 0, 2, 5, [], []))]
def k154_3 : List Ins := [(86, 1, .iconst 0, (.int 0, 0, 0, [], [])), (87, 1, .istore_n 2, (.null, 2, 0, [], [])), (88, 0, .nop, (.null, 4, 5, [], []))]
def k154_4 : List Ins := [(88, 1, .iload_n 2, (.null, 2, 0, [], [])), (89, 2, .bipush 32, (.int 32, 0, 0, [], [])), (91, 3, .if_icmp .ge 21, (.null, 5, 1, [], [])), (94, 1, .aload_n 0, (.null, 0, 0, [], [])), (95, 3, .getfield 25, (.null, 11, 9, [], [922])), (98, 1, .iload_n 2, (.null, 2, 0, [], [])), (99, 1, .aload_n 0, (.null, 0, 0, [], [])), (100, 3, .getfield 46, (.null, 11, 25, [], [938])), (103, 1, .iload_n 2, (.null, 2, 0, [], [])), (104, 1, .iaload, (.null, 0, 0, [], [])), (105, 1, .iastore, (.null, 0, 0, [], [])), (106, 3, .iinc 2 1, (.int 1, 2, 0, [], [])), (109, 3, .goto (-21), (.int 0, 4, 5, [], []))]
def k154_5 : List Ins := [(112, 1, .aload_n 0, (.null, 0, 0, [], [])), (113, 1, .iconst 0, (.int 0, 0, 0, [], [])), (114, 3, .putfield 166, (.int 0, 11, 11, [], [924])), (117, 1, .aload_n 0, (.null, 0, 0, [], [])), (118, 3, .getfield 159, (.int 0, 11, 5, [], [918])), (121, 1, .ireturn, (.null, 0, 0, [], []))]
def m154 : MI := (yX12_house, cX12_house, 3, (some .int), [k154_0, k154_1, k154_2, k154_3, k154_4, k154_5])
def k155_0 : List Ins := [(0, 1, .aload_n 0, (.null, 0, 0, [], [])), (1, 3, .getfield 152, (.int 0, 11, 16, [], [929])), (4, 1, .ireturn, (.null, 0, 0, [], []))]
def m155 : MI := (yX12_fault, cX12_fault, 1, (some .int), [k155_0])
def k156_0 : List Ins := [(0, 1, .iconst 0, (.int 0, 0, 0, [], [])), (1, 1, .istore_n 1, (.null, 1, 0, [], [])), (2, 0, .nop, (.null, 1, 3, [], []))]
def k156_1 : List Ins := [(2, 1, .iload_n 1, (.null, 1, 0, [], [])), (3, 2, .bipush 32, (.int 32, 0, 0, [], [])), (5, 3, .if_icmp .ge 21, (.null, 2, 0, [], [])), (8, 1, .aload_n 0, (.null, 0, 0, [], [])), (9, 3, .getfield 49, (.null, 11, 28, [], [941])), (12, 1, .iload_n 1, (.null, 1, 0, [], [])), (13, 1, .aload_n 0, (.null, 0, 0, [], [])), (14, 3, .getfield 25, (.null, 11, 9, [], [922])), (17, 1, .iload_n 1, (.null, 1, 0, [], [])), (18, 1, .iaload, (.null, 0, 0, [], [])), (19, 1, .iastore, (.null, 0, 0, [], [])), (20, 3, .iinc 1 1, (.int 1, 1, 0, [], [])), (23, 3, .goto (-21), (.int 0, 1, 3, [], []))]
def k156_2 : List Ins := [(26, 1, .return_, (.null, 0, 0, [], []))]
def m156 : MI := (yX12_aside, cX12_aside, 2, none, [k156_0, k156_1, k156_2])
def k157_0 : List Ins := [(0, 1, .iconst 0, (.int 0, 0, 0, [], [])), (1, 1, .istore_n 1, (.null, 1, 0, [], [])), (2, 0, .nop, (.null, 1, 3, [], []))]
def k157_1 : List Ins := [(2, 1, .iload_n 1, (.null, 1, 0, [], [])), (3, 2, .bipush 32, (.int 32, 0, 0, [], [])), (5, 3, .if_icmp .ge 21, (.null, 2, 0, [], [])), (8, 1, .aload_n 0, (.null, 0, 0, [], [])), (9, 3, .getfield 25, (.null, 11, 9, [], [922])), (12, 1, .iload_n 1, (.null, 1, 0, [], [])), (13, 1, .aload_n 0, (.null, 0, 0, [], [])), (14, 3, .getfield 49, (.null, 11, 28, [], [941])), (17, 1, .iload_n 1, (.null, 1, 0, [], [])), (18, 1, .iaload, (.null, 0, 0, [], [])), (19, 1, .iastore, (.null, 0, 0, [], [])), (20, 3, .iinc 1 1, (.int 1, 1, 0, [], [])), (23, 3, .goto (-21), (.int 0, 1, 3, [], []))]
def k157_2 : List Ins := [(26, 1, .return_, (.null, 0, 0, [], []))]
def m157 : MI := (yX12_take, cX12_take, 2, none, [k157_0, k157_1, k157_2])
def k158_0 : List Ins := [(0, 1, .iload_n 1, (.null, 1, 0, [], [])), (1, 1, .aload_n 0, (.null, 0, 0, [], [])), (2, 3, .getfield 53, (.int 0, 11, 29, [], [942])), (5, 3, .if_icmp .ne 10, (.null, 1, 3, [], [])), (8, 1, .aload_n 0, (.null, 0, 0, [], [])), (9, 3, .getfield 169, (.int 0, 11, 30, [], [943])), (12, 3, .goto 9, (.null, 0, 0, [], [])), (21, 1, .ireturn, (.null, 0, 0, [], []))]
def k158_1 : List Ins := [(15, 1, .aload_n 0, (.null, 0, 0, [], [])), (16, 3, .getfield 19, (.null, 11, 7, [], [920])), (19, 1, .iload_n 1, (.null, 1, 0, [], [])), (20, 1, .iaload, (.null, 0, 0, [], [])), (21, 1, .ireturn, (.null, 0, 0, [], []))]
def m158 : MI := (yX12_kindNow, cX12_kindNow, 2, (some .int), [k158_0, k158_1])
def k159_0 : List Ins := [(0, 1, .iload_n 1, (.null, 1, 0, [], [])), (1, 1, .aload_n 0, (.null, 0, 0, [], [])), (2, 3, .getfield 53, (.int 0, 11, 29, [], [942])), (5, 3, .if_icmp .ne 10, (.null, 1, 3, [], [])), (8, 1, .aload_n 0, (.null, 0, 0, [], [])), (9, 3, .getfield 172, (.int 0, 11, 31, [], [944])), (12, 3, .goto 9, (.null, 0, 0, [], [])), (21, 1, .ireturn, (.null, 0, 0, [], []))]
def k159_1 : List Ins := [(15, 1, .aload_n 0, (.null, 0, 0, [], [])), (16, 3, .getfield 22, (.null, 11, 8, [], [921])), (19, 1, .iload_n 1, (.null, 1, 0, [], [])), (20, 1, .iaload, (.null, 0, 0, [], [])), (21, 1, .ireturn, (.null, 0, 0, [], []))]
def m159 : MI := (yX12_thickNow, cX12_thickNow, 2, (some .int), [k159_0, k159_1])
def k160_0 : List Ins := [(0, 1, .iconst 0, (.int 0, 0, 0, [], [])), (1, 1, .istore_n 3, (.null, 3, 0, [], [])), (2, 1, .iconst 0, (.int 0, 0, 0, [], [])), (3, 2, .istore 4, (.null, 4, 0, [], [])), (5, 0, .nop, (.null, 1, 31, [], []))]
def k160_1 : List Ins := [(5, 2, .iload 4, (.null, 4, 0, [], [])), (7, 1, .aload_n 0, (.null, 0, 0, [], [])), (8, 3, .getfield 159, (.int 0, 11, 5, [], [918])), (11, 3, .if_icmp .ge 39, (.null, 4, 8, [], [])), (14, 1, .iload_n 3, (.null, 3, 0, [], [])), (15, 2, .iload 4, (.null, 4, 0, [], [])), (17, 1, .iload_n 2, (.null, 2, 0, [], [])), (18, 3, .if_icmp .eq 23, (.null, 2, 23, [], [])), (21, 1, .aload_n 0, (.null, 0, 0, [], [])), (22, 3, .getfield 49, (.null, 11, 28, [], [941])), (25, 2, .iload 4, (.null, 4, 0, [], [])), (27, 1, .iaload, (.null, 0, 0, [], [])), (28, 1, .iload_n 1, (.null, 1, 0, [], [])), (29, 3, .if_icmp .ne 12, (.null, 2, 23, [], [])), (32, 1, .aload_n 0, (.null, 0, 0, [], [])), (33, 2, .iload 4, (.null, 4, 0, [], [])), (35, 3, .invokevirtual 175, (.null, 1, 1, [(11, 159, 2)], [1156, 1158, 45])), (38, 3, .goto 4, (.int 0, 3, 23, [], []))]
def k160_2 : List Ins := [(41, 1, .iconst 0, (.int 0, 0, 0, [], [])), (42, 0, .nop, (.null, 3, 23, [], []))]
def k160_3 : List Ins := [(42, 1, .iadd, (.null, 0, 0, [], [])), (43, 1, .istore_n 3, (.null, 3, 0, [], [])), (44, 3, .iinc 4 1, (.int 1, 4, 0, [], [])), (47, 3, .goto (-42), (.int 0, 1, 31, [], []))]
def k160_4 : List Ins := [(50, 1, .iload_n 3, (.null, 3, 0, [], [])), (51, 1, .ireturn, (.null, 0, 0, [], []))]
def m160 : MI := (yX12_fullBut, cX12_fullBut, 5, (some .int), [k160_0, k160_1, k160_2, k160_3, k160_4])
def k161_0 : List Ins := [(0, 1, .aload_n 0, (.null, 0, 0, [], [])), (1, 1, .iload_n 1, (.null, 1, 0, [], [])), (2, 3, .invokevirtual 178, (.null, 1, 1, [(11, 158, 2)], [1144, 1146, 42])), (5, 1, .iconst 2, (.int 2, 0, 0, [], [])), (6, 3, .if_icmp .eq 25, (.null, 1, 0, [], [])), (9, 1, .aload_n 0, (.null, 0, 0, [], [])), (10, 1, .iload_n 2, (.null, 2, 0, [], [])), (11, 1, .iload_n 1, (.null, 1, 0, [], [])), (12, 3, .invokevirtual 181, (.null, 2, 1, [(11, 160, 5)], [1152, 1154, 44])), (15, 1, .aload_n 0, (.null, 0, 0, [], [])), (16, 1, .iload_n 1, (.null, 1, 0, [], [])), (17, 3, .invokevirtual 175, (.null, 1, 1, [(11, 159, 2)], [1156, 1158, 45])), (20, 1, .iadd, (.null, 0, 0, [], [])), (21, 1, .aload_n 0, (.null, 0, 0, [], [])), (22, 3, .getfield 49, (.null, 11, 28, [], [941])), (25, 2, .bipush 30, (.int 30, 0, 0, [], [])), (27, 1, .iaload, (.null, 0, 0, [], [])), (28, 3, .if_icmp .gt 7, (.null, 2, 0, [], [])), (31, 0, .nop, (.null, 1, 0, [], []))]
def k161_1 : List Ins := [(31, 1, .iconst 1, (.int 1, 0, 0, [], [])), (32, 3, .goto 4, (.null, 0, 0, [], [])), (36, 1, .ireturn, (.null, 1, 0, [], []))]
def k161_2 : List Ins := [(35, 1, .iconst 0, (.int 0, 0, 0, [], [])), (36, 1, .ireturn, (.null, 1, 0, [], []))]
def m161 : MI := (yX12_hasRoom, cX12_hasRoom, 3, (some .boolean), [k161_0, k161_1, k161_2])
def k162_0 : List Ins := [(0, 1, .aload_n 0, (.null, 0, 0, [], [])), (1, 3, .getfield 49, (.null, 11, 28, [], [941])), (4, 1, .iload_n 1, (.null, 1, 0, [], [])), (5, 1, .iaload, (.null, 0, 0, [], [])), (6, 2, .bipush 20, (.int 20, 0, 0, [], [])), (8, 3, .if_icmp .ge 7, (.null, 1, 0, [], [])), (11, 1, .iconst 1, (.int 1, 0, 0, [], [])), (12, 3, .goto 4, (.null, 0, 0, [], [])), (16, 1, .ireturn, (.null, 1, 0, [], []))]
def k162_1 : List Ins := [(15, 1, .iconst 0, (.int 0, 0, 0, [], [])), (16, 1, .ireturn, (.null, 1, 0, [], []))]
def m162 : MI := (yX12_isShaft, cX12_isShaft, 2, (some .boolean), [k162_0, k162_1])
def k163_0 : List Ins := [(0, 1, .aload_n 0, (.null, 0, 0, [], [])), (1, 1, .iload_n 1, (.null, 1, 0, [], [])), (2, 3, .invokevirtual 178, (.null, 1, 1, [(11, 158, 2)], [1144, 1146, 42])), (5, 1, .istore_n 2, (.null, 2, 0, [], [])), (6, 1, .iload_n 2, (.null, 2, 0, [], [])), (7, 1, .iconst 5, (.int 5, 0, 0, [], [])), (8, 3, .if_icmp .ne 32, (.null, 2, 7, [], [])), (11, 1, .aload_n 0, (.null, 0, 0, [], [])), (12, 3, .getfield 49, (.null, 11, 28, [], [941])), (15, 2, .bipush 12, (.int 12, 0, 0, [], [])), (17, 1, .iload_n 1, (.null, 1, 0, [], [])), (18, 1, .iadd, (.null, 0, 0, [], [])), (19, 1, .iaload, (.null, 0, 0, [], [])), (20, 1, .iconst 2, (.int 2, 0, 0, [], [])), (21, 3, .if_icmp .le 7, (.null, 1, 3, [], [])), (24, 1, .iconst 4, (.int 4, 0, 0, [], [])), (25, 3, .goto 14, (.null, 0, 0, [], [])), (39, 1, .ireturn, (.null, 0, 0, [], []))]
def k163_1 : List Ins := [(28, 1, .iconst 1, (.int 1, 0, 0, [], [])), (29, 1, .aload_n 0, (.null, 0, 0, [], [])), (30, 3, .getfield 49, (.null, 11, 28, [], [941])), (33, 2, .bipush 12, (.int 12, 0, 0, [], [])), (35, 1, .iload_n 1, (.null, 1, 0, [], [])), (36, 1, .iadd, (.null, 0, 0, [], [])), (37, 1, .iaload, (.null, 0, 0, [], [])), (38, 1, .iadd, (.null, 0, 0, [], [])), (39, 1, .ireturn, (.null, 0, 0, [], []))]
def k163_2 : List Ins := [(40, 1, .iload_n 2, (.null, 2, 0, [], [])), (41, 1, .iconst 4, (.int 4, 0, 0, [], [])), (42, 3, .if_icmp .ne 5, (.null, 3, 7, [], [])), (45, 1, .iconst 1, (.int 1, 0, 0, [], [])), (46, 1, .ireturn, (.null, 0, 0, [], []))]
def k163_3 : List Ins := [(47, 1, .iconst 0, (.int 0, 0, 0, [], [])), (48, 1, .istore_n 3, (.null, 3, 0, [], [])), (49, 1, .iconst 0, (.int 0, 0, 0, [], [])), (50, 2, .istore 4, (.null, 4, 0, [], [])), (52, 0, .nop, (.null, 4, 31, [], []))]
def k163_4 : List Ins := [(52, 2, .iload 4, (.null, 4, 0, [], [])), (54, 1, .aload_n 0, (.null, 0, 0, [], [])), (55, 3, .getfield 159, (.int 0, 11, 5, [], [918])), (58, 3, .if_icmp .ge 41, (.null, 8, 12, [], [])), (61, 1, .iload_n 3, (.null, 3, 0, [], [])), (62, 3, .ifCond .ne 25, (.null, 5, 23, [], [])), (65, 2, .iload 4, (.null, 4, 0, [], [])), (67, 1, .iload_n 1, (.null, 1, 0, [], [])), (68, 3, .if_icmp .eq 23, (.null, 6, 23, [], [])), (71, 1, .aload_n 0, (.null, 0, 0, [], [])), (72, 3, .getfield 49, (.null, 11, 28, [], [941])), (75, 2, .iload 4, (.null, 4, 0, [], [])), (77, 1, .iaload, (.null, 0, 0, [], [])), (78, 1, .aload_n 0, (.null, 0, 0, [], [])), (79, 3, .getfield 49, (.null, 11, 28, [], [941])), (82, 1, .iload_n 1, (.null, 1, 0, [], [])), (83, 1, .iaload, (.null, 0, 0, [], [])), (84, 3, .if_icmp .ne 7, (.null, 6, 23, [], [])), (87, 0, .nop, (.null, 5, 23, [], []))]
def k163_5 : List Ins := [(87, 1, .iconst 1, (.int 1, 0, 0, [], [])), (88, 3, .goto 4, (.int 0, 7, 23, [], []))]
def k163_6 : List Ins := [(91, 1, .iconst 0, (.int 0, 0, 0, [], [])), (92, 0, .nop, (.null, 7, 23, [], []))]
def k163_7 : List Ins := [(92, 1, .istore_n 3, (.null, 3, 0, [], [])), (93, 3, .iinc 4 1, (.int 1, 4, 0, [], [])), (96, 3, .goto (-44), (.int 0, 4, 31, [], []))]
def k163_8 : List Ins := [(99, 1, .iload_n 2, (.null, 2, 0, [], [])), (100, 1, .iconst 3, (.int 3, 0, 0, [], [])), (101, 3, .if_icmp .ne 11, (.null, 9, 0, [], [])), (104, 1, .iload_n 3, (.null, 3, 0, [], [])), (105, 3, .ifCond .eq 7, (.null, 9, 0, [], [])), (108, 1, .iconst 1, (.int 1, 0, 0, [], [])), (109, 3, .goto 4, (.null, 0, 0, [], [])), (113, 1, .ireturn, (.null, 0, 0, [], []))]
def k163_9 : List Ins := [(112, 1, .iconst 2, (.int 2, 0, 0, [], [])), (113, 1, .ireturn, (.null, 0, 0, [], []))]
def m163 : MI := (yX12_fallOf, cX12_fallOf, 5, (some .int), [k163_0, k163_1, k163_2, k163_3, k163_4, k163_5, k163_6, k163_7, k163_8, k163_9])
def k164_0 : List Ins := [(0, 1, .aload_n 0, (.null, 0, 0, [], [])), (1, 3, .getfield 49, (.null, 11, 28, [], [941])), (4, 1, .iload_n 1, (.null, 1, 0, [], [])), (5, 1, .iaload, (.null, 0, 0, [], [])), (6, 1, .istore_n 2, (.null, 2, 0, [], [])), (7, 1, .aload_n 0, (.null, 0, 0, [], [])), (8, 1, .iload_n 1, (.null, 1, 0, [], [])), (9, 3, .invokevirtual 184, (.null, 1, 1, [(11, 163, 5)], [1140, 1142, 41])), (12, 1, .istore_n 3, (.null, 3, 0, [], [])), (13, 0, .nop, (.null, 1, 15, [], []))]
def k164_1 : List Ins := [(13, 1, .iload_n 3, (.null, 3, 0, [], [])), (14, 3, .ifCond .le 71, (.null, 5, 7, [], [])), (17, 1, .aload_n 0, (.null, 0, 0, [], [])), (18, 3, .getfield 49, (.null, 11, 28, [], [941])), (21, 1, .iload_n 1, (.null, 1, 0, [], [])), (22, 1, .iaload, (.null, 0, 0, [], [])), (23, 2, .bipush 21, (.int 21, 0, 0, [], [])), (25, 3, .if_icmp .eq 60, (.null, 5, 7, [], [])), (28, 1, .aload_n 0, (.null, 0, 0, [], [])), (29, 3, .getfield 49, (.null, 11, 28, [], [941])), (32, 1, .iload_n 1, (.null, 1, 0, [], [])), (33, 1, .iaload, (.null, 0, 0, [], [])), (34, 3, .ifCond .ne 14, (.null, 2, 15, [], [])), (37, 1, .aload_n 0, (.null, 0, 0, [], [])), (38, 3, .getfield 49, (.null, 11, 28, [], [941])), (41, 1, .iload_n 1, (.null, 1, 0, [], [])), (42, 2, .bipush 21, (.int 21, 0, 0, [], [])), (44, 1, .iastore, (.null, 0, 0, [], [])), (45, 3, .goto 34, (.int 0, 4, 15, [], []))]
def k164_2 : List Ins := [(48, 1, .aload_n 0, (.null, 0, 0, [], [])), (49, 1, .iload_n 1, (.null, 1, 0, [], [])), (50, 1, .aload_n 0, (.null, 0, 0, [], [])), (51, 3, .getfield 49, (.null, 11, 28, [], [941])), (54, 1, .iload_n 1, (.null, 1, 0, [], [])), (55, 1, .iaload, (.null, 0, 0, [], [])), (56, 1, .iconst 1, (.int 1, 0, 0, [], [])), (57, 1, .isub, (.null, 0, 0, [], [])), (58, 3, .invokevirtual 187, (.null, 2, 1, [(11, 161, 3)], [1148, 1150, 43])), (61, 3, .ifCond .eq 16, (.null, 3, 7, [], [])), (64, 1, .aload_n 0, (.null, 0, 0, [], [])), (65, 3, .getfield 49, (.null, 11, 28, [], [941])), (68, 1, .iload_n 1, (.null, 1, 0, [], [])), (69, 1, .dup2, (.null, 0, 0, [], [])), (70, 1, .iaload, (.null, 0, 0, [], [])), (71, 1, .iconst 1, (.int 1, 0, 0, [], [])), (72, 1, .isub, (.null, 0, 0, [], [])), (73, 1, .iastore, (.null, 0, 0, [], [])), (74, 3, .goto 5, (.int 0, 4, 15, [], []))]
def k164_3 : List Ins := [(77, 1, .iconst 0, (.int 0, 0, 0, [], [])), (78, 1, .istore_n 3, (.null, 3, 0, [], [])), (79, 0, .nop, (.null, 4, 15, [], []))]
def k164_4 : List Ins := [(79, 3, .iinc 3 (-1), (.int (-1), 3, 0, [], [])), (82, 3, .goto (-69), (.int 0, 1, 15, [], []))]
def k164_5 : List Ins := [(85, 1, .aload_n 0, (.null, 0, 0, [], [])), (86, 3, .getfield 49, (.null, 11, 28, [], [941])), (89, 1, .iload_n 1, (.null, 1, 0, [], [])), (90, 1, .iaload, (.null, 0, 0, [], [])), (91, 1, .iload_n 2, (.null, 2, 0, [], [])), (92, 3, .if_icmp .ne 48, (.null, 8, 3, [], [])), (95, 1, .aload_n 0, (.null, 0, 0, [], [])), (96, 3, .getfield 49, (.null, 11, 28, [], [941])), (99, 2, .bipush 6, (.int 6, 0, 0, [], [])), (101, 1, .iload_n 1, (.null, 1, 0, [], [])), (102, 1, .iadd, (.null, 0, 0, [], [])), (103, 1, .dup2, (.null, 0, 0, [], [])), (104, 1, .iaload, (.null, 0, 0, [], [])), (105, 1, .aload_n 0, (.null, 0, 0, [], [])), (106, 3, .getfield 49, (.null, 11, 28, [], [941])), (109, 2, .bipush 6, (.int 6, 0, 0, [], [])), (111, 1, .iload_n 1, (.null, 1, 0, [], [])), (112, 1, .iadd, (.null, 0, 0, [], [])), (113, 1, .iaload, (.null, 0, 0, [], [])), (114, 3, .sipush 999, (.int 999, 0, 0, [], [])), (117, 3, .if_icmp .ge 7, (.null, 6, 3, [], [])), (120, 1, .iconst 1, (.int 1, 0, 0, [], [])), (121, 3, .goto 4, (.int 0, 7, 3, [], []))]
def k164_6 : List Ins := [(124, 1, .iconst 0, (.int 0, 0, 0, [], [])), (125, 0, .nop, (.null, 7, 3, [], []))]
def k164_7 : List Ins := [(125, 1, .iadd, (.null, 0, 0, [], [])), (126, 1, .iastore, (.null, 0, 0, [], [])), (127, 1, .aload_n 0, (.null, 0, 0, [], [])), (128, 3, .getfield 49, (.null, 11, 28, [], [941])), (131, 2, .bipush 12, (.int 12, 0, 0, [], [])), (133, 1, .iload_n 1, (.null, 1, 0, [], [])), (134, 1, .iadd, (.null, 0, 0, [], [])), (135, 1, .iconst 0, (.int 0, 0, 0, [], [])), (136, 1, .iastore, (.null, 0, 0, [], [])), (137, 3, .goto 16, (.null, 0, 0, [], [])), (153, 1, .return_, (.null, 0, 0, [], []))]
def k164_8 : List Ins := [(140, 1, .aload_n 0, (.null, 0, 0, [], [])), (141, 3, .getfield 49, (.null, 11, 28, [], [941])), (144, 2, .bipush 12, (.int 12, 0, 0, [], [])), (146, 1, .iload_n 1, (.null, 1, 0, [], [])), (147, 1, .iadd, (.null, 0, 0, [], [])), (148, 1, .dup2, (.null, 0, 0, [], [])), (149, 1, .iaload, (.null, 0, 0, [], [])), (150, 1, .iconst 1, (.int 1, 0, 0, [], [])), (151, 1, .iadd, (.null, 0, 0, [], [])), (152, 1, .iastore, (.null, 0, 0, [], [])), (153, 1, .return_, (.null, 0, 0, [], []))]
def m164 : MI := (yX12_goFall, cX12_goFall, 4, none, [k164_0, k164_1, k164_2, k164_3, k164_4, k164_5, k164_6, k164_7, k164_8])
def k165_0 : List Ins := [(0, 1, .iconst 0, (.int 0, 0, 0, [], [])), (1, 1, .istore_n 1, (.null, 1, 0, [], [])), (2, 0, .nop, (.null, 1, 3, [], []))]
def k165_1 : List Ins := [(2, 1, .iload_n 1, (.null, 1, 0, [], [])), (3, 2, .bipush 6, (.int 6, 0, 0, [], [])), (5, 3, .if_icmp .ge 16, (.null, 2, 0, [], [])), (8, 1, .aload_n 0, (.null, 0, 0, [], [])), (9, 3, .getfield 60, (.null, 11, 33, [], [946])), (12, 1, .iload_n 1, (.null, 1, 0, [], [])), (13, 1, .iload_n 1, (.null, 1, 0, [], [])), (14, 1, .iastore, (.null, 0, 0, [], [])), (15, 3, .iinc 1 1, (.int 1, 1, 0, [], [])), (18, 3, .goto (-16), (.int 0, 1, 3, [], []))]
def k165_2 : List Ins := [(21, 1, .return_, (.null, 0, 0, [], []))]
def m165 : MI := (yX12_byNumbers, cX12_byNumbers, 2, none, [k165_0, k165_1, k165_2])
def k166_0 : List Ins := [(0, 1, .iconst 0, (.int 0, 0, 0, [], [])), (1, 1, .istore_n 1, (.null, 1, 0, [], [])), (2, 0, .nop, (.null, 1, 3, [], []))]
def k166_1 : List Ins := [(2, 1, .iload_n 1, (.null, 1, 0, [], [])), (3, 1, .aload_n 0, (.null, 0, 0, [], [])), (4, 3, .getfield 159, (.int 0, 11, 5, [], [918])), (7, 3, .if_icmp .ge 21, (.null, 2, 1, [], [])), (10, 1, .aload_n 0, (.null, 0, 0, [], [])), (11, 3, .getfield 57, (.null, 11, 32, [], [945])), (14, 1, .iload_n 1, (.null, 1, 0, [], [])), (15, 1, .aload_n 0, (.null, 0, 0, [], [])), (16, 3, .getfield 49, (.null, 11, 28, [], [941])), (19, 1, .iload_n 1, (.null, 1, 0, [], [])), (20, 1, .iaload, (.null, 0, 0, [], [])), (21, 1, .iastore, (.null, 0, 0, [], [])), (22, 3, .iinc 1 1, (.int 1, 1, 0, [], [])), (25, 3, .goto (-23), (.int 0, 1, 3, [], []))]
def k166_2 : List Ins := [(28, 1, .iconst 0, (.int 0, 0, 0, [], [])), (29, 1, .istore_n 1, (.null, 1, 0, [], [])), (30, 0, .nop, (.null, 3, 3, [], []))]
def k166_3 : List Ins := [(30, 1, .iload_n 1, (.null, 1, 0, [], [])), (31, 1, .aload_n 0, (.null, 0, 0, [], [])), (32, 3, .getfield 156, (.int 0, 11, 4, [], [917])), (35, 3, .if_icmp .ge 40, (.null, 7, 1, [], [])), (38, 1, .iconst 0, (.int 0, 0, 0, [], [])), (39, 1, .istore_n 2, (.null, 2, 0, [], [])), (40, 0, .nop, (.null, 4, 7, [], []))]
def k166_4 : List Ins := [(40, 1, .iload_n 2, (.null, 2, 0, [], [])), (41, 1, .aload_n 0, (.null, 0, 0, [], [])), (42, 3, .getfield 159, (.int 0, 11, 5, [], [918])), (45, 3, .if_icmp .ge 24, (.null, 6, 3, [], [])), (48, 1, .aload_n 0, (.null, 0, 0, [], [])), (49, 3, .getfield 57, (.null, 11, 32, [], [945])), (52, 1, .iload_n 2, (.null, 2, 0, [], [])), (53, 1, .iaload, (.null, 0, 0, [], [])), (54, 1, .iload_n 1, (.null, 1, 0, [], [])), (55, 3, .if_icmp .ne 8, (.null, 5, 7, [], [])), (58, 1, .aload_n 0, (.null, 0, 0, [], [])), (59, 1, .iload_n 2, (.null, 2, 0, [], [])), (60, 3, .invokevirtual 191, (.null, 1, 0, [(11, 164, 4)], [1136, 1138, 40])), (63, 0, .nop, (.null, 5, 7, [], []))]
def k166_5 : List Ins := [(63, 3, .iinc 2 1, (.int 1, 2, 0, [], [])), (66, 3, .goto (-26), (.int 0, 4, 7, [], []))]
def k166_6 : List Ins := [(69, 3, .iinc 1 1, (.int 1, 1, 0, [], [])), (72, 3, .goto (-42), (.int 0, 3, 3, [], []))]
def k166_7 : List Ins := [(75, 1, .iconst 0, (.int 0, 0, 0, [], [])), (76, 1, .istore_n 1, (.null, 1, 0, [], [])), (77, 0, .nop, (.null, 8, 3, [], []))]
def k166_8 : List Ins := [(77, 1, .iload_n 1, (.null, 1, 0, [], [])), (78, 1, .aload_n 0, (.null, 0, 0, [], [])), (79, 3, .getfield 159, (.int 0, 11, 5, [], [918])), (82, 3, .if_icmp .ge 97, (.null, 13, 1, [], [])), (85, 1, .aload_n 0, (.null, 0, 0, [], [])), (86, 3, .getfield 60, (.null, 11, 33, [], [946])), (89, 1, .iload_n 1, (.null, 1, 0, [], [])), (90, 1, .iaload, (.null, 0, 0, [], [])), (91, 1, .istore_n 2, (.null, 2, 0, [], [])), (92, 1, .aload_n 0, (.null, 0, 0, [], [])), (93, 3, .getfield 49, (.null, 11, 28, [], [941])), (96, 1, .iload_n 2, (.null, 2, 0, [], [])), (97, 1, .iaload, (.null, 0, 0, [], [])), (98, 2, .bipush 20, (.int 20, 0, 0, [], [])), (100, 3, .if_icmp .ne 43, (.null, 9, 7, [], [])), (103, 1, .aload_n 0, (.null, 0, 0, [], [])), (104, 3, .getfield 49, (.null, 11, 28, [], [941])), (107, 2, .bipush 18, (.int 18, 0, 0, [], [])), (109, 1, .iload_n 2, (.null, 2, 0, [], [])), (110, 1, .iadd, (.null, 0, 0, [], [])), (111, 1, .iaload, (.null, 0, 0, [], [])), (112, 1, .aload_n 0, (.null, 0, 0, [], [])), (113, 3, .getfield 49, (.null, 11, 28, [], [941])), (116, 2, .bipush 31, (.int 31, 0, 0, [], [])), (118, 1, .iaload, (.null, 0, 0, [], [])), (119, 3, .if_icmp .gt 24, (.null, 9, 7, [], [])), (122, 1, .aload_n 0, (.null, 0, 0, [], [])), (123, 1, .iload_n 2, (.null, 2, 0, [], [])), (124, 1, .aload_n 0, (.null, 0, 0, [], [])), (125, 3, .getfield 49, (.null, 11, 28, [], [941])), (128, 2, .bipush 24, (.int 24, 0, 0, [], [])), (130, 1, .iload_n 2, (.null, 2, 0, [], [])), (131, 1, .iadd, (.null, 0, 0, [], [])), (132, 1, .iaload, (.null, 0, 0, [], [])), (133, 3, .invokevirtual 187, (.null, 2, 1, [(11, 161, 3)], [1148, 1150, 43])), (136, 3, .ifCond .eq 7, (.null, 9, 7, [], [])), (139, 1, .iconst 1, (.int 1, 0, 0, [], [])), (140, 3, .goto 4, (.int 0, 10, 7, [], []))]
def k166_9 : List Ins := [(143, 1, .iconst 0, (.int 0, 0, 0, [], [])), (144, 0, .nop, (.null, 10, 7, [], []))]
def k166_10 : List Ins := [(144, 1, .istore_n 3, (.null, 3, 0, [], [])), (145, 1, .aload_n 0, (.null, 0, 0, [], [])), (146, 3, .getfield 49, (.null, 11, 28, [], [941])), (149, 1, .iload_n 2, (.null, 2, 0, [], [])), (150, 1, .iload_n 3, (.null, 3, 0, [], [])), (151, 3, .ifCond .eq 15, (.null, 11, 7, [], [])), (154, 1, .aload_n 0, (.null, 0, 0, [], [])), (155, 3, .getfield 49, (.null, 11, 28, [], [941])), (158, 2, .bipush 24, (.int 24, 0, 0, [], [])), (160, 1, .iload_n 2, (.null, 2, 0, [], [])), (161, 1, .iadd, (.null, 0, 0, [], [])), (162, 1, .iaload, (.null, 0, 0, [], [])), (163, 3, .goto 9, (.int 0, 12, 3, [], []))]
def k166_11 : List Ins := [(166, 1, .aload_n 0, (.null, 0, 0, [], [])), (167, 3, .getfield 49, (.null, 11, 28, [], [941])), (170, 1, .iload_n 2, (.null, 2, 0, [], [])), (171, 1, .iaload, (.null, 0, 0, [], [])), (172, 0, .nop, (.null, 12, 3, [], []))]
def k166_12 : List Ins := [(172, 1, .iastore, (.null, 0, 0, [], [])), (173, 3, .iinc 1 1, (.int 1, 1, 0, [], [])), (176, 3, .goto (-99), (.int 0, 8, 3, [], []))]
def k166_13 : List Ins := [(179, 1, .aload_n 0, (.null, 0, 0, [], [])), (180, 3, .getfield 49, (.null, 11, 28, [], [941])), (183, 2, .bipush 31, (.int 31, 0, 0, [], [])), (185, 1, .dup2, (.null, 0, 0, [], [])), (186, 1, .iaload, (.null, 0, 0, [], [])), (187, 1, .iconst 1, (.int 1, 0, 0, [], [])), (188, 1, .iadd, (.null, 0, 0, [], [])), (189, 1, .iastore, (.null, 0, 0, [], [])), (190, 1, .return_, (.null, 0, 0, [], []))]
def m166 : MI := (yX12_goTick, cX12_goTick, 4, none, [k166_0, k166_1, k166_2, k166_3, k166_4, k166_5, k166_6, k166_7, k166_8, k166_9, k166_10, k166_11, k166_12, k166_13])
def k167_0 : List Ins := [(0, 1, .aload_n 0, (.null, 0, 0, [], [])), (1, 3, .invokevirtual 195, (.null, 0, 0, [(11, 165, 2)], [1128, 1130, 38])), (4, 1, .iconst 0, (.int 0, 0, 0, [], [])), (5, 1, .istore_n 2, (.null, 2, 0, [], [])), (6, 0, .nop, (.null, 1, 7, [], []))]
def k167_1 : List Ins := [(6, 1, .iload_n 2, (.null, 2, 0, [], [])), (7, 1, .iload_n 1, (.null, 1, 0, [], [])), (8, 3, .if_icmp .ge 13, (.null, 2, 0, [], [])), (11, 1, .aload_n 0, (.null, 0, 0, [], [])), (12, 3, .invokevirtual 198, (.null, 0, 0, [(11, 166, 4)], [1132, 1134, 39])), (15, 3, .iinc 2 1, (.int 1, 2, 0, [], [])), (18, 3, .goto (-12), (.int 0, 1, 7, [], []))]
def k167_2 : List Ins := [(21, 1, .return_, (.null, 0, 0, [], []))]
def m167 : MI := (yX12_goTicks, cX12_goTicks, 3, none, [k167_0, k167_1, k167_2])
def k168_0 : List Ins := [(0, 1, .iconst 0, (.int 0, 0, 0, [], [])), (1, 1, .istore_n 1, (.null, 1, 0, [], [])), (2, 1, .iconst 0, (.int 0, 0, 0, [], [])), (3, 1, .istore_n 2, (.null, 2, 0, [], [])), (4, 0, .nop, (.null, 1, 7, [], []))]
def k168_1 : List Ins := [(4, 1, .iload_n 2, (.null, 2, 0, [], [])), (5, 1, .aload_n 0, (.null, 0, 0, [], [])), (6, 3, .getfield 159, (.int 0, 11, 5, [], [918])), (9, 3, .if_icmp .ge 30, (.null, 4, 2, [], [])), (12, 1, .iload_n 1, (.null, 1, 0, [], [])), (13, 1, .aload_n 0, (.null, 0, 0, [], [])), (14, 3, .getfield 49, (.null, 11, 28, [], [941])), (17, 1, .iload_n 2, (.null, 2, 0, [], [])), (18, 1, .iaload, (.null, 0, 0, [], [])), (19, 2, .bipush 21, (.int 21, 0, 0, [], [])), (21, 3, .if_icmp .ne 9, (.null, 2, 5, [], [])), (24, 1, .iconst 1, (.int 1, 0, 0, [], [])), (25, 1, .iload_n 2, (.null, 2, 0, [], [])), (26, 1, .ishl, (.null, 0, 0, [], [])), (27, 3, .goto 4, (.int 0, 3, 5, [], []))]
def k168_2 : List Ins := [(30, 1, .iconst 0, (.int 0, 0, 0, [], [])), (31, 0, .nop, (.null, 3, 5, [], []))]
def k168_3 : List Ins := [(31, 1, .ior, (.null, 0, 0, [], [])), (32, 1, .istore_n 1, (.null, 1, 0, [], [])), (33, 3, .iinc 2 1, (.int 1, 2, 0, [], [])), (36, 3, .goto (-32), (.int 0, 1, 7, [], []))]
def k168_4 : List Ins := [(39, 1, .iload_n 1, (.null, 1, 0, [], [])), (40, 1, .ireturn, (.null, 0, 0, [], []))]
def m168 : MI := (yX12_boxed, cX12_boxed, 3, (some .int), [k168_0, k168_1, k168_2, k168_3, k168_4])
def k169_0 : List Ins := [(0, 1, .iconst 0, (.int 0, 0, 0, [], [])), (1, 1, .istore_n 1, (.null, 1, 0, [], [])), (2, 1, .iconst 0, (.int 0, 0, 0, [], [])), (3, 1, .istore_n 2, (.null, 2, 0, [], [])), (4, 0, .nop, (.null, 1, 7, [], []))]
def k169_1 : List Ins := [(4, 1, .iload_n 2, (.null, 2, 0, [], [])), (5, 1, .aload_n 0, (.null, 0, 0, [], [])), (6, 3, .getfield 159, (.int 0, 11, 5, [], [918])), (9, 3, .if_icmp .ge 30, (.null, 4, 2, [], [])), (12, 1, .iload_n 1, (.null, 1, 0, [], [])), (13, 1, .aload_n 0, (.null, 0, 0, [], [])), (14, 3, .getfield 49, (.null, 11, 28, [], [941])), (17, 1, .iload_n 2, (.null, 2, 0, [], [])), (18, 1, .iaload, (.null, 0, 0, [], [])), (19, 2, .bipush 20, (.int 20, 0, 0, [], [])), (21, 3, .if_icmp .ne 9, (.null, 2, 5, [], [])), (24, 1, .iconst 1, (.int 1, 0, 0, [], [])), (25, 1, .iload_n 2, (.null, 2, 0, [], [])), (26, 1, .ishl, (.null, 0, 0, [], [])), (27, 3, .goto 4, (.int 0, 3, 5, [], []))]
def k169_2 : List Ins := [(30, 1, .iconst 0, (.int 0, 0, 0, [], [])), (31, 0, .nop, (.null, 3, 5, [], []))]
def k169_3 : List Ins := [(31, 1, .ior, (.null, 0, 0, [], [])), (32, 1, .istore_n 1, (.null, 1, 0, [], [])), (33, 3, .iinc 2 1, (.int 1, 2, 0, [], [])), (36, 3, .goto (-32), (.int 0, 1, 7, [], []))]
def k169_4 : List Ins := [(39, 1, .iload_n 1, (.null, 1, 0, [], [])), (40, 1, .ireturn, (.null, 0, 0, [], []))]
def m169 : MI := (yX12_waiting, cX12_waiting, 3, (some .int), [k169_0, k169_1, k169_2, k169_3, k169_4])
def k170_0 : List Ins := [(0, 1, .iconst 1, (.int 1, 0, 0, [], [])), (1, 1, .aload_n 0, (.null, 0, 0, [], [])), (2, 3, .getfield 159, (.int 0, 11, 5, [], [918])), (5, 1, .ishl, (.null, 0, 0, [], [])), (6, 1, .iconst 1, (.int 1, 0, 0, [], [])), (7, 1, .isub, (.null, 0, 0, [], [])), (8, 1, .ireturn, (.null, 0, 0, [], []))]
def m170 : MI := (yX12_everyone, cX12_everyone, 1, (some .int), [k170_0])
def k171_0 : List Ins := [(0, 1, .iconst 0, (.int 0, 0, 0, [], [])), (1, 1, .istore_n 1, (.null, 1, 0, [], [])), (2, 1, .iconst 0, (.int 0, 0, 0, [], [])), (3, 1, .istore_n 2, (.null, 2, 0, [], [])), (4, 0, .nop, (.null, 1, 7, [], []))]
def k171_1 : List Ins := [(4, 1, .iload_n 2, (.null, 2, 0, [], [])), (5, 1, .aload_n 0, (.null, 0, 0, [], [])), (6, 3, .getfield 159, (.int 0, 11, 5, [], [918])), (9, 3, .if_icmp .ge 21, (.null, 2, 2, [], [])), (12, 1, .iload_n 1, (.null, 1, 0, [], [])), (13, 1, .aload_n 0, (.null, 0, 0, [], [])), (14, 3, .getfield 49, (.null, 11, 28, [], [941])), (17, 2, .bipush 6, (.int 6, 0, 0, [], [])), (19, 1, .iload_n 2, (.null, 2, 0, [], [])), (20, 1, .iadd, (.null, 0, 0, [], [])), (21, 1, .iaload, (.null, 0, 0, [], [])), (22, 1, .iadd, (.null, 0, 0, [], [])), (23, 1, .istore_n 1, (.null, 1, 0, [], [])), (24, 3, .iinc 2 1, (.int 1, 2, 0, [], [])), (27, 3, .goto (-23), (.int 0, 1, 7, [], []))]
def k171_2 : List Ins := [(30, 1, .iload_n 1, (.null, 1, 0, [], [])), (31, 1, .ireturn, (.null, 0, 0, [], []))]
def m171 : MI := (yX12_stuckAll, cX12_stuckAll, 3, (some .int), [k171_0, k171_1, k171_2])
def k172_0 : List Ins := [(0, 1, .iload_n 1, (.null, 1, 0, [], [])), (1, 1, .i2l, (.null, 0, 0, [], [])), (2, 1, .lconst 0, (.long 0, 0, 0, [], [])), (3, 1, .aload_n 0, (.null, 0, 0, [], [])), (4, 3, .getfield 159, (.int 0, 11, 5, [], [918])), (7, 1, .iconst 1, (.int 1, 0, 0, [], [])), (8, 1, .isub, (.null, 0, 0, [], [])), (9, 1, .i2l, (.null, 0, 0, [], [])), (10, 3, .invokestatic 72, (.null, 3, 1, [(0, 134, 6)], [1027, 1028])), (13, 1, .ireturn, (.null, 1, 0, [], []))]
def m172 : MI := (yX12_isLetter, cX12_isLetter, 2, (some .boolean), [k172_0])
def k173_0 : List Ins := [(0, 1, .iload_n 1, (.null, 1, 0, [], [])), (1, 1, .i2l, (.null, 0, 0, [], [])), (2, 1, .lconst 0, (.long 0, 0, 0, [], [])), (3, 1, .aload_n 0, (.null, 0, 0, [], [])), (4, 3, .getfield 156, (.int 0, 11, 4, [], [917])), (7, 1, .iconst 1, (.int 1, 0, 0, [], [])), (8, 1, .isub, (.null, 0, 0, [], [])), (9, 1, .i2l, (.null, 0, 0, [], [])), (10, 3, .invokestatic 72, (.null, 3, 1, [(0, 134, 6)], [1027, 1028])), (13, 1, .ireturn, (.null, 1, 0, [], []))]
def m173 : MI := (yX12_isFloor, cX12_isFloor, 2, (some .boolean), [k173_0])
def k174_0 : List Ins := [(0, 1, .aload_n 0, (.null, 0, 0, [], [])), (1, 3, .getfield 166, (.int 0, 11, 11, [], [924])), (4, 2, .bipush 24, (.int 24, 0, 0, [], [])), (6, 3, .if_icmp .ne 43, (.null, 3, 1, [], [])), (9, 1, .iconst 0, (.int 0, 0, 0, [], [])), (10, 1, .istore_n 1, (.null, 1, 0, [], [])), (11, 0, .nop, (.null, 1, 3, [], []))]
def k174_1 : List Ins := [(11, 1, .iload_n 1, (.null, 1, 0, [], [])), (12, 3, .sipush 736, (.int 736, 0, 0, [], [])), (15, 3, .if_icmp .ge 24, (.null, 2, 1, [], [])), (18, 1, .aload_n 0, (.null, 0, 0, [], [])), (19, 3, .getfield 28, (.null, 11, 10, [], [923])), (22, 1, .iload_n 1, (.null, 1, 0, [], [])), (23, 1, .aload_n 0, (.null, 0, 0, [], [])), (24, 3, .getfield 28, (.null, 11, 10, [], [923])), (27, 2, .bipush 32, (.int 32, 0, 0, [], [])), (29, 1, .iload_n 1, (.null, 1, 0, [], [])), (30, 1, .iadd, (.null, 0, 0, [], [])), (31, 1, .iaload, (.null, 0, 0, [], [])), (32, 1, .iastore, (.null, 0, 0, [], [])), (33, 3, .iinc 1 1, (.int 1, 1, 0, [], [])), (36, 3, .goto (-25), (.int 0, 1, 3, [], []))]
def k174_2 : List Ins := [(39, 1, .aload_n 0, (.null, 0, 0, [], [])), (40, 1, .dup, (.null, 0, 0, [], [])), (41, 3, .getfield 166, (.int 0, 11, 11, [], [924])), (44, 1, .iconst 1, (.int 1, 0, 0, [], [])), (45, 1, .isub, (.null, 0, 0, [], [])), (46, 3, .putfield 166, (.int 0, 11, 11, [], [924])), (49, 0, .nop, (.null, 3, 1, [], []))]
def k174_3 : List Ins := [(49, 1, .iconst 0, (.int 0, 0, 0, [], [])), (50, 1, .istore_n 1, (.null, 1, 0, [], [])), (51, 0, .nop, (.null, 4, 3, [], []))]
def k174_4 : List Ins := [(51, 1, .iload_n 1, (.null, 1, 0, [], [])), (52, 2, .bipush 32, (.int 32, 0, 0, [], [])), (54, 3, .if_icmp .ge 29, (.null, 5, 1, [], [])), (57, 1, .aload_n 0, (.null, 0, 0, [], [])), (58, 3, .getfield 28, (.null, 11, 10, [], [923])), (61, 2, .bipush 32, (.int 32, 0, 0, [], [])), (63, 1, .aload_n 0, (.null, 0, 0, [], [])), (64, 3, .getfield 166, (.int 0, 11, 11, [], [924])), (67, 1, .imul, (.null, 0, 0, [], [])), (68, 1, .iload_n 1, (.null, 1, 0, [], [])), (69, 1, .iadd, (.null, 0, 0, [], [])), (70, 1, .aload_n 0, (.null, 0, 0, [], [])), (71, 3, .getfield 25, (.null, 11, 9, [], [922])), (74, 1, .iload_n 1, (.null, 1, 0, [], [])), (75, 1, .iaload, (.null, 0, 0, [], [])), (76, 1, .iastore, (.null, 0, 0, [], [])), (77, 3, .iinc 1 1, (.int 1, 1, 0, [], [])), (80, 3, .goto (-29), (.int 0, 4, 3, [], []))]
def k174_5 : List Ins := [(83, 1, .aload_n 0, (.null, 0, 0, [], [])), (84, 1, .dup, (.null, 0, 0, [], [])), (85, 3, .getfield 166, (.int 0, 11, 11, [], [924])), (88, 1, .iconst 1, (.int 1, 0, 0, [], [])), (89, 1, .iadd, (.null, 0, 0, [], [])), (90, 3, .putfield 166, (.int 0, 11, 11, [], [924])), (93, 1, .return_, (.null, 0, 0, [], []))]
def m174 : MI := (yX12_note, cX12_note, 2, none, [k174_0, k174_1, k174_2, k174_3, k174_4, k174_5])
def k175_0 : List Ins := [(0, 1, .aload_n 0, (.null, 0, 0, [], [])), (1, 3, .getfield 166, (.int 0, 11, 11, [], [924])), (4, 3, .ifCond .ne 6, (.null, 1, 1, [], [])), (7, 2, .ldc 201, (.int (-1000002), 0, 0, [], [1110])), (9, 1, .ireturn, (.null, 0, 0, [], []))]
def k175_1 : List Ins := [(10, 1, .aload_n 0, (.null, 0, 0, [], [])), (11, 1, .dup, (.null, 0, 0, [], [])), (12, 3, .getfield 166, (.int 0, 11, 11, [], [924])), (15, 1, .iconst 1, (.int 1, 0, 0, [], [])), (16, 1, .isub, (.null, 0, 0, [], [])), (17, 3, .putfield 166, (.int 0, 11, 11, [], [924])), (20, 1, .iconst 0, (.int 0, 0, 0, [], [])), (21, 1, .istore_n 1, (.null, 1, 0, [], [])), (22, 0, .nop, (.null, 2, 3, [], []))]
def k175_2 : List Ins := [(22, 1, .iload_n 1, (.null, 1, 0, [], [])), (23, 2, .bipush 32, (.int 32, 0, 0, [], [])), (25, 3, .if_icmp .ge 29, (.null, 3, 1, [], [])), (28, 1, .aload_n 0, (.null, 0, 0, [], [])), (29, 3, .getfield 25, (.null, 11, 9, [], [922])), (32, 1, .iload_n 1, (.null, 1, 0, [], [])), (33, 1, .aload_n 0, (.null, 0, 0, [], [])), (34, 3, .getfield 28, (.null, 11, 10, [], [923])), (37, 2, .bipush 32, (.int 32, 0, 0, [], [])), (39, 1, .aload_n 0, (.null, 0, 0, [], [])), (40, 3, .getfield 166, (.int 0, 11, 11, [], [924])), (43, 1, .imul, (.null, 0, 0, [], [])), (44, 1, .iload_n 1, (.null, 1, 0, [], [])), (45, 1, .iadd, (.null, 0, 0, [], [])), (46, 1, .iaload, (.null, 0, 0, [], [])), (47, 1, .iastore, (.null, 0, 0, [], [])), (48, 3, .iinc 1 1, (.int 1, 1, 0, [], [])), (51, 3, .goto (-29), (.int 0, 2, 3, [], []))]
def k175_3 : List Ins := [(54, 1, .aload_n 0, (.null, 0, 0, [], [])), (55, 3, .getfield 166, (.int 0, 11, 11, [], [924])), (58, 1, .ireturn, (.null, 0, 0, [], []))]
def m175 : MI := (yX12_undo, cX12_undo, 2, (some .int), [k175_0, k175_1, k175_2, k175_3])
def k176_0 : List Ins := [(0, 1, .aload_n 0, (.null, 0, 0, [], [])), (1, 3, .getfield 162, (.int 0, 11, 6, [], [919])), (4, 3, .ifCond .ne 6, (.null, 1, 3, [], [])), (7, 2, .ldc 201, (.int (-1000002), 0, 0, [], [1110])), (9, 1, .ireturn, (.null, 0, 0, [], []))]
def k176_1 : List Ins := [(10, 1, .iload_n 1, (.null, 1, 0, [], [])), (11, 1, .i2l, (.null, 0, 0, [], [])), (12, 1, .lconst 1, (.long 1, 0, 0, [], [])), (13, 3, .ldc2_w 202, (.long 24, 0, 0, [], [1115])), (16, 3, .invokestatic 72, (.null, 3, 1, [(0, 134, 6)], [1027, 1028])), (19, 3, .ifCond .ne 6, (.null, 2, 3, [], [])), (22, 2, .ldc 82, (.int (-1000001), 0, 0, [], [1031])), (24, 1, .ireturn, (.null, 0, 0, [], []))]
def k176_2 : List Ins := [(25, 1, .aload_n 0, (.null, 0, 0, [], [])), (26, 3, .getfield 25, (.null, 11, 9, [], [922])), (29, 2, .bipush 31, (.int 31, 0, 0, [], [])), (31, 1, .iaload, (.null, 0, 0, [], [])), (32, 1, .iload_n 1, (.null, 1, 0, [], [])), (33, 1, .iadd, (.null, 0, 0, [], [])), (34, 3, .sipush 999, (.int 999, 0, 0, [], [])), (37, 3, .if_icmp .le 6, (.null, 3, 3, [], [])), (40, 2, .ldc 99, (.int (-1000003), 0, 0, [], [1062])), (42, 1, .ireturn, (.null, 0, 0, [], []))]
def k176_3 : List Ins := [(43, 1, .iconst 0, (.int 0, 0, 0, [], [])), (44, 1, .istore_n 2, (.null, 2, 0, [], [])), (45, 0, .nop, (.null, 4, 7, [], []))]
def k176_4 : List Ins := [(45, 1, .iload_n 2, (.null, 2, 0, [], [])), (46, 1, .iload_n 1, (.null, 1, 0, [], [])), (47, 3, .if_icmp .ge 26, (.null, 5, 1, [], [])), (50, 1, .aload_n 0, (.null, 0, 0, [], [])), (51, 3, .invokevirtual 204, (.null, 0, 0, [(11, 174, 2)], [1116, 1118, 35])), (54, 1, .aload_n 0, (.null, 0, 0, [], [])), (55, 3, .invokevirtual 207, (.null, 0, 0, [(11, 156, 2)], [1120, 1122, 36])), (58, 1, .aload_n 0, (.null, 0, 0, [], [])), (59, 1, .iconst 1, (.int 1, 0, 0, [], [])), (60, 3, .invokevirtual 210, (.null, 1, 0, [(11, 167, 3)], [1124, 1126, 37])), (63, 1, .aload_n 0, (.null, 0, 0, [], [])), (64, 3, .invokevirtual 213, (.null, 0, 0, [(11, 157, 2)], [1160, 1162, 46])), (67, 3, .iinc 2 1, (.int 1, 2, 0, [], [])), (70, 3, .goto (-25), (.int 0, 4, 7, [], []))]
def k176_5 : List Ins := [(73, 1, .aload_n 0, (.null, 0, 0, [], [])), (74, 3, .invokevirtual 216, (.null, 0, 1, [(11, 168, 3)], [1164, 1166, 47])), (77, 1, .ireturn, (.null, 0, 0, [], []))]
def m176 : MI := (yX12_ticks, cX12_ticks, 3, (some .int), [k176_0, k176_1, k176_2, k176_3, k176_4, k176_5])
def k177_0 : List Ins := [(0, 1, .aload_n 0, (.null, 0, 0, [], [])), (1, 3, .getfield 162, (.int 0, 11, 6, [], [919])), (4, 3, .ifCond .ne 6, (.null, 1, 3, [], [])), (7, 2, .ldc 201, (.int (-1000002), 0, 0, [], [1110])), (9, 1, .ireturn, (.null, 0, 0, [], []))]
def k177_1 : List Ins := [(10, 1, .iload_n 1, (.null, 1, 0, [], [])), (11, 1, .i2l, (.null, 0, 0, [], [])), (12, 3, .ldc2_w 80, (.long 2, 0, 0, [], [1030])), (15, 3, .ldc2_w 219, (.long 20, 0, 0, [], [1172])), (18, 3, .invokestatic 72, (.null, 3, 1, [(0, 134, 6)], [1027, 1028])), (21, 3, .ifCond .ne 6, (.null, 2, 3, [], [])), (24, 2, .ldc 82, (.int (-1000001), 0, 0, [], [1031])), (26, 1, .ireturn, (.null, 0, 0, [], []))]
def k177_2 : List Ins := [(27, 1, .aload_n 0, (.null, 0, 0, [], [])), (28, 3, .invokevirtual 204, (.null, 0, 0, [(11, 174, 2)], [1116, 1118, 35])), (31, 1, .aload_n 0, (.null, 0, 0, [], [])), (32, 3, .getfield 25, (.null, 11, 9, [], [922])), (35, 2, .bipush 30, (.int 30, 0, 0, [], [])), (37, 1, .iaload, (.null, 0, 0, [], [])), (38, 1, .istore_n 2, (.null, 2, 0, [], [])), (39, 1, .aload_n 0, (.null, 0, 0, [], [])), (40, 3, .getfield 25, (.null, 11, 9, [], [922])), (43, 2, .bipush 30, (.int 30, 0, 0, [], [])), (45, 1, .iload_n 1, (.null, 1, 0, [], [])), (46, 1, .iastore, (.null, 0, 0, [], [])), (47, 1, .iload_n 2, (.null, 2, 0, [], [])), (48, 1, .ireturn, (.null, 0, 0, [], []))]
def m177 : MI := (yX12_wide, cX12_wide, 3, (some .int), [k177_0, k177_1, k177_2])
def k178_0 : List Ins := [(0, 1, .aload_n 0, (.null, 0, 0, [], [])), (1, 3, .getfield 49, (.null, 11, 28, [], [941])), (4, 1, .iload_n 1, (.null, 1, 0, [], [])), (5, 1, .aload_n 0, (.null, 0, 0, [], [])), (6, 3, .getfield 49, (.null, 11, 28, [], [941])), (9, 1, .iload_n 1, (.null, 1, 0, [], [])), (10, 1, .iaload, (.null, 0, 0, [], [])), (11, 3, .ifCond .ne 8, (.null, 1, 3, [], [])), (14, 2, .bipush 21, (.int 21, 0, 0, [], [])), (16, 3, .goto 11, (.int 0, 2, 0, [], []))]
def k178_1 : List Ins := [(19, 1, .aload_n 0, (.null, 0, 0, [], [])), (20, 3, .getfield 49, (.null, 11, 28, [], [941])), (23, 1, .iload_n 1, (.null, 1, 0, [], [])), (24, 1, .iaload, (.null, 0, 0, [], [])), (25, 1, .iconst 1, (.int 1, 0, 0, [], [])), (26, 1, .isub, (.null, 0, 0, [], [])), (27, 0, .nop, (.null, 2, 0, [], []))]
def k178_2 : List Ins := [(27, 1, .iastore, (.null, 0, 0, [], [])), (28, 1, .return_, (.null, 0, 0, [], []))]
def m178 : MI := (yX12_goPoke, cX12_goPoke, 2, none, [k178_0, k178_1, k178_2])
def k179_0 : List Ins := [(0, 1, .aload_n 0, (.null, 0, 0, [], [])), (1, 1, .iload_n 1, (.null, 1, 0, [], [])), (2, 3, .invokevirtual 221, (.null, 1, 1, [(11, 172, 2)], [1177, 1179, 48])), (5, 3, .ifCond .ne 6, (.null, 1, 3, [], [])), (8, 2, .ldc 82, (.int (-1000001), 0, 0, [], [1031])), (10, 1, .ireturn, (.null, 0, 0, [], []))]
def k179_1 : List Ins := [(11, 1, .aload_n 0, (.null, 0, 0, [], [])), (12, 3, .invokevirtual 207, (.null, 0, 0, [(11, 156, 2)], [1120, 1122, 36])), (15, 1, .aload_n 0, (.null, 0, 0, [], [])), (16, 1, .iload_n 1, (.null, 1, 0, [], [])), (17, 3, .invokevirtual 224, (.null, 1, 1, [(11, 162, 2)], [1181, 1183, 49])), (20, 3, .ifCond .ne 6, (.null, 2, 3, [], [])), (23, 2, .ldc 201, (.int (-1000002), 0, 0, [], [1110])), (25, 1, .ireturn, (.null, 0, 0, [], []))]
def k179_2 : List Ins := [(26, 1, .aload_n 0, (.null, 0, 0, [], [])), (27, 3, .invokevirtual 204, (.null, 0, 0, [(11, 174, 2)], [1116, 1118, 35])), (30, 1, .aload_n 0, (.null, 0, 0, [], [])), (31, 1, .iload_n 1, (.null, 1, 0, [], [])), (32, 3, .invokevirtual 227, (.null, 1, 0, [(11, 178, 2)], [1185, 1187, 50])), (35, 1, .aload_n 0, (.null, 0, 0, [], [])), (36, 3, .invokevirtual 213, (.null, 0, 0, [(11, 157, 2)], [1160, 1162, 46])), (39, 1, .aload_n 0, (.null, 0, 0, [], [])), (40, 3, .getfield 25, (.null, 11, 9, [], [922])), (43, 1, .iload_n 1, (.null, 1, 0, [], [])), (44, 1, .iaload, (.null, 0, 0, [], [])), (45, 1, .ireturn, (.null, 0, 0, [], []))]
def m179 : MI := (yX12_poke, cX12_poke, 2, (some .int), [k179_0, k179_1, k179_2])
def k180_0 : List Ins := [(0, 1, .aload_n 0, (.null, 0, 0, [], [])), (1, 3, .getfield 49, (.null, 11, 28, [], [941])), (4, 1, .iload_n 1, (.null, 1, 0, [], [])), (5, 2, .bipush 20, (.int 20, 0, 0, [], [])), (7, 1, .iastore, (.null, 0, 0, [], [])), (8, 1, .aload_n 0, (.null, 0, 0, [], [])), (9, 3, .getfield 49, (.null, 11, 28, [], [941])), (12, 2, .bipush 24, (.int 24, 0, 0, [], [])), (14, 1, .iload_n 1, (.null, 1, 0, [], [])), (15, 1, .iadd, (.null, 0, 0, [], [])), (16, 1, .iload_n 2, (.null, 2, 0, [], [])), (17, 1, .iastore, (.null, 0, 0, [], [])), (18, 1, .aload_n 0, (.null, 0, 0, [], [])), (19, 3, .getfield 49, (.null, 11, 28, [], [941])), (22, 2, .bipush 18, (.int 18, 0, 0, [], [])), (24, 1, .iload_n 1, (.null, 1, 0, [], [])), (25, 1, .iadd, (.null, 0, 0, [], [])), (26, 1, .aload_n 0, (.null, 0, 0, [], [])), (27, 3, .getfield 49, (.null, 11, 28, [], [941])), (30, 2, .bipush 31, (.int 31, 0, 0, [], [])), (32, 1, .iaload, (.null, 0, 0, [], [])), (33, 1, .iastore, (.null, 0, 0, [], [])), (34, 1, .aload_n 0, (.null, 0, 0, [], [])), (35, 3, .getfield 49, (.null, 11, 28, [], [941])), (38, 2, .bipush 6, (.int 6, 0, 0, [], [])), (40, 1, .iload_n 1, (.null, 1, 0, [], [])), (41, 1, .iadd, (.null, 0, 0, [], [])), (42, 1, .iconst 0, (.int 0, 0, 0, [], [])), (43, 1, .iastore, (.null, 0, 0, [], [])), (44, 1, .aload_n 0, (.null, 0, 0, [], [])), (45, 3, .getfield 49, (.null, 11, 28, [], [941])), (48, 2, .bipush 12, (.int 12, 0, 0, [], [])), (50, 1, .iload_n 1, (.null, 1, 0, [], [])), (51, 1, .iadd, (.null, 0, 0, [], [])), (52, 1, .iconst 0, (.int 0, 0, 0, [], [])), (53, 1, .iastore, (.null, 0, 0, [], [])), (54, 1, .return_, (.null, 0, 0, [], []))]
def m180 : MI := (yX12_goPost, cX12_goPost, 3, none, [k180_0])
def k181_0 : List Ins := [(0, 1, .aload_n 0, (.null, 0, 0, [], [])), (1, 1, .iload_n 1, (.null, 1, 0, [], [])), (2, 3, .invokevirtual 221, (.null, 1, 1, [(11, 172, 2)], [1177, 1179, 48])), (5, 3, .ifCond .eq 11, (.null, 1, 0, [], [])), (8, 1, .aload_n 0, (.null, 0, 0, [], [])), (9, 1, .iload_n 2, (.null, 2, 0, [], [])), (10, 3, .invokevirtual 230, (.null, 1, 1, [(11, 173, 2)], [1193, 1195, 51])), (13, 3, .ifCond .ne 6, (.null, 2, 7, [], [])), (16, 0, .nop, (.null, 1, 0, [], []))]
def k181_1 : List Ins := [(16, 2, .ldc 82, (.int (-1000001), 0, 0, [], [1031])), (18, 1, .ireturn, (.null, 0, 0, [], []))]
def k181_2 : List Ins := [(19, 1, .aload_n 0, (.null, 0, 0, [], [])), (20, 3, .getfield 25, (.null, 11, 9, [], [922])), (23, 1, .iload_n 1, (.null, 1, 0, [], [])), (24, 1, .iaload, (.null, 0, 0, [], [])), (25, 2, .bipush 21, (.int 21, 0, 0, [], [])), (27, 3, .if_icmp .eq 6, (.null, 3, 7, [], [])), (30, 2, .ldc 201, (.int (-1000002), 0, 0, [], [1110])), (32, 1, .ireturn, (.null, 0, 0, [], []))]
def k181_3 : List Ins := [(33, 1, .aload_n 0, (.null, 0, 0, [], [])), (34, 3, .invokevirtual 204, (.null, 0, 0, [(11, 174, 2)], [1116, 1118, 35])), (37, 1, .aload_n 0, (.null, 0, 0, [], [])), (38, 3, .invokevirtual 207, (.null, 0, 0, [(11, 156, 2)], [1120, 1122, 36])), (41, 1, .aload_n 0, (.null, 0, 0, [], [])), (42, 1, .iload_n 1, (.null, 1, 0, [], [])), (43, 1, .iload_n 2, (.null, 2, 0, [], [])), (44, 3, .invokevirtual 233, (.null, 2, 0, [(11, 180, 3)], [1197, 1199, 52])), (47, 1, .aload_n 0, (.null, 0, 0, [], [])), (48, 3, .invokevirtual 213, (.null, 0, 0, [(11, 157, 2)], [1160, 1162, 46])), (51, 1, .aload_n 0, (.null, 0, 0, [], [])), (52, 3, .invokevirtual 237, (.null, 0, 1, [(11, 169, 3)], [1201, 1203, 53])), (55, 1, .ireturn, (.null, 0, 0, [], []))]
def m181 : MI := (yX12_post, cX12_post, 3, (some .int), [k181_0, k181_1, k181_2, k181_3])
def k182_0 : List Ins := [(0, 1, .aload_n 0, (.null, 0, 0, [], [])), (1, 1, .iload_n 1, (.null, 1, 0, [], [])), (2, 3, .invokevirtual 221, (.null, 1, 1, [(11, 172, 2)], [1177, 1179, 48])), (5, 3, .ifCond .eq 15, (.null, 1, 0, [], [])), (8, 1, .iload_n 2, (.null, 2, 0, [], [])), (9, 1, .i2l, (.null, 0, 0, [], [])), (10, 1, .lconst 0, (.long 0, 0, 0, [], [])), (11, 3, .ldc2_w 240, (.long 6, 0, 0, [], [1209])), (14, 3, .invokestatic 72, (.null, 3, 1, [(0, 134, 6)], [1027, 1028])), (17, 3, .ifCond .ne 6, (.null, 2, 7, [], [])), (20, 0, .nop, (.null, 1, 0, [], []))]
def k182_1 : List Ins := [(20, 2, .ldc 82, (.int (-1000001), 0, 0, [], [1031])), (22, 1, .ireturn, (.null, 0, 0, [], []))]
def k182_2 : List Ins := [(23, 1, .aload_n 0, (.null, 0, 0, [], [])), (24, 3, .invokevirtual 207, (.null, 0, 0, [(11, 156, 2)], [1120, 1122, 36])), (27, 1, .iload_n 2, (.null, 2, 0, [], [])), (28, 40, .tableswitch 94 0 5 #[40, 50, 57, 67, 74, 84], (.null, 9, 3, [(0, 3, 3), (1, 4, 3), (2, 5, 3), (3, 6, 3), (4, 7, 3), (5, 8, 3)], []))]
def k182_3 : List Ins := [(68, 1, .aload_n 0, (.null, 0, 0, [], [])), (69, 3, .getfield 25, (.null, 11, 9, [], [922])), (72, 2, .bipush 24, (.int 24, 0, 0, [], [])), (74, 1, .iload_n 1, (.null, 1, 0, [], [])), (75, 1, .iadd, (.null, 0, 0, [], [])), (76, 1, .iaload, (.null, 0, 0, [], [])), (77, 1, .ireturn, (.null, 0, 0, [], []))]
def k182_4 : List Ins := [(78, 1, .aload_n 0, (.null, 0, 0, [], [])), (79, 3, .getfield 22, (.null, 11, 8, [], [921])), (82, 1, .iload_n 1, (.null, 1, 0, [], [])), (83, 1, .iaload, (.null, 0, 0, [], [])), (84, 1, .ireturn, (.null, 0, 0, [], []))]
def k182_5 : List Ins := [(85, 1, .aload_n 0, (.null, 0, 0, [], [])), (86, 3, .getfield 25, (.null, 11, 9, [], [922])), (89, 2, .bipush 18, (.int 18, 0, 0, [], [])), (91, 1, .iload_n 1, (.null, 1, 0, [], [])), (92, 1, .iadd, (.null, 0, 0, [], [])), (93, 1, .iaload, (.null, 0, 0, [], [])), (94, 1, .ireturn, (.null, 0, 0, [], []))]
def k182_6 : List Ins := [(95, 1, .aload_n 0, (.null, 0, 0, [], [])), (96, 3, .getfield 25, (.null, 11, 9, [], [922])), (99, 1, .iload_n 1, (.null, 1, 0, [], [])), (100, 1, .iaload, (.null, 0, 0, [], [])), (101, 1, .ireturn, (.null, 0, 0, [], []))]
def k182_7 : List Ins := [(102, 1, .aload_n 0, (.null, 0, 0, [], [])), (103, 3, .getfield 25, (.null, 11, 9, [], [922])), (106, 2, .bipush 6, (.int 6, 0, 0, [], [])), (108, 1, .iload_n 1, (.null, 1, 0, [], [])), (109, 1, .iadd, (.null, 0, 0, [], [])), (110, 1, .iaload, (.null, 0, 0, [], [])), (111, 1, .ireturn, (.null, 0, 0, [], []))]
def k182_8 : List Ins := [(112, 1, .aload_n 0, (.null, 0, 0, [], [])), (113, 3, .getfield 25, (.null, 11, 9, [], [922])), (116, 2, .bipush 12, (.int 12, 0, 0, [], [])), (118, 1, .iload_n 1, (.null, 1, 0, [], [])), (119, 1, .iadd, (.null, 0, 0, [], [])), (120, 1, .iaload, (.null, 0, 0, [], [])), (121, 1, .ireturn, (.null, 0, 0, [], []))]
def k182_9 : List Ins := [(122, 1, .aload_n 0, (.null, 0, 0, [], [])), (123, 1, .iload_n 1, (.null, 1, 0, [], [])), (124, 3, .invokevirtual 224, (.null, 1, 1, [(11, 162, 2)], [1181, 1183, 49])), (127, 3, .ifCond .eq 11, (.null, 10, 0, [], [])), (130, 1, .aload_n 0, (.null, 0, 0, [], [])), (131, 1, .iload_n 1, (.null, 1, 0, [], [])), (132, 3, .invokevirtual 184, (.null, 1, 1, [(11, 163, 5)], [1140, 1142, 41])), (135, 3, .goto 4, (.null, 0, 0, [], [])), (139, 1, .ireturn, (.null, 0, 0, [], []))]
def k182_10 : List Ins := [(138, 1, .iconst 0, (.int 0, 0, 0, [], [])), (139, 1, .ireturn, (.null, 0, 0, [], []))]
def m182 : MI := (yX12_letter, cX12_letter, 3, (some .int), [k182_0, k182_1, k182_2, k182_3, k182_4, k182_5, k182_6, k182_7, k182_8, k182_9, k182_10])
def k183_0 : List Ins := [(0, 1, .aload_n 0, (.null, 0, 0, [], [])), (1, 1, .iload_n 1, (.null, 1, 0, [], [])), (2, 3, .invokevirtual 230, (.null, 1, 1, [(11, 173, 2)], [1193, 1195, 51])), (5, 3, .ifCond .eq 13, (.null, 1, 0, [], [])), (8, 1, .iload_n 2, (.null, 2, 0, [], [])), (9, 1, .i2l, (.null, 0, 0, [], [])), (10, 1, .lconst 0, (.long 0, 0, 0, [], [])), (11, 1, .lconst 1, (.long 1, 0, 0, [], [])), (12, 3, .invokestatic 72, (.null, 3, 1, [(0, 134, 6)], [1027, 1028])), (15, 3, .ifCond .ne 6, (.null, 2, 7, [], [])), (18, 0, .nop, (.null, 1, 0, [], []))]
def k183_1 : List Ins := [(18, 2, .ldc 82, (.int (-1000001), 0, 0, [], [1031])), (20, 1, .ireturn, (.null, 0, 0, [], []))]
def k183_2 : List Ins := [(21, 1, .aload_n 0, (.null, 0, 0, [], [])), (22, 3, .invokevirtual 207, (.null, 0, 0, [(11, 156, 2)], [1120, 1122, 36])), (25, 1, .iconst 0, (.int 0, 0, 0, [], [])), (26, 1, .istore_n 3, (.null, 3, 0, [], [])), (27, 1, .iconst 0, (.int 0, 0, 0, [], [])), (28, 2, .istore 4, (.null, 4, 0, [], [])), (30, 0, .nop, (.null, 3, 31, [], []))]
def k183_3 : List Ins := [(30, 2, .iload 4, (.null, 4, 0, [], [])), (32, 1, .aload_n 0, (.null, 0, 0, [], [])), (33, 3, .getfield 159, (.int 0, 11, 5, [], [918])), (36, 3, .if_icmp .ge 31, (.null, 6, 15, [], [])), (39, 1, .iload_n 3, (.null, 3, 0, [], [])), (40, 1, .aload_n 0, (.null, 0, 0, [], [])), (41, 3, .getfield 25, (.null, 11, 9, [], [922])), (44, 2, .iload 4, (.null, 4, 0, [], [])), (46, 1, .iaload, (.null, 0, 0, [], [])), (47, 1, .iload_n 1, (.null, 1, 0, [], [])), (48, 3, .if_icmp .ne 10, (.null, 4, 23, [], [])), (51, 1, .iconst 1, (.int 1, 0, 0, [], [])), (52, 2, .iload 4, (.null, 4, 0, [], [])), (54, 1, .ishl, (.null, 0, 0, [], [])), (55, 3, .goto 4, (.int 0, 5, 23, [], []))]
def k183_4 : List Ins := [(58, 1, .iconst 0, (.int 0, 0, 0, [], [])), (59, 0, .nop, (.null, 5, 23, [], []))]
def k183_5 : List Ins := [(59, 1, .ior, (.null, 0, 0, [], [])), (60, 1, .istore_n 3, (.null, 3, 0, [], [])), (61, 3, .iinc 4 1, (.int 1, 4, 0, [], [])), (64, 3, .goto (-34), (.int 0, 3, 31, [], []))]
def k183_6 : List Ins := [(67, 1, .iload_n 2, (.null, 2, 0, [], [])), (68, 3, .ifCond .ne 13, (.null, 7, 8, [], [])), (71, 1, .aload_n 0, (.null, 0, 0, [], [])), (72, 1, .iload_n 1, (.null, 1, 0, [], [])), (73, 2, .ldc 52, (.int (-1000000), 0, 0, [], [912])), (75, 3, .invokevirtual 181, (.null, 2, 1, [(11, 160, 5)], [1152, 1154, 44])), (78, 3, .goto 4, (.null, 0, 0, [], [])), (82, 1, .ireturn, (.null, 0, 0, [], []))]
def k183_7 : List Ins := [(81, 1, .iload_n 3, (.null, 3, 0, [], [])), (82, 1, .ireturn, (.null, 0, 0, [], []))]
def m183 : MI := (yX12_floor, cX12_floor, 5, (some .int), [k183_0, k183_1, k183_2, k183_3, k183_4, k183_5, k183_6, k183_7])
def k184_0 : List Ins := [(0, 1, .aload_n 0, (.null, 0, 0, [], [])), (1, 3, .getfield 162, (.int 0, 11, 6, [], [919])), (4, 3, .ifCond .ne 6, (.null, 1, 3, [], [])), (7, 2, .ldc 201, (.int (-1000002), 0, 0, [], [1110])), (9, 1, .ireturn, (.null, 0, 0, [], []))]
def k184_1 : List Ins := [(10, 1, .aload_n 0, (.null, 0, 0, [], [])), (11, 3, .invokevirtual 207, (.null, 0, 0, [(11, 156, 2)], [1120, 1122, 36])), (14, 1, .iload_n 1, (.null, 1, 0, [], [])), (15, 33, .tableswitch 75 0 4 #[33, 38, 46, 51, 70], (.null, 7, 0, [(0, 2, 1), (1, 3, 1), (2, 4, 1), (3, 5, 1), (4, 6, 1)], []))]
def k184_2 : List Ins := [(48, 1, .aload_n 0, (.null, 0, 0, [], [])), (49, 3, .getfield 156, (.int 0, 11, 4, [], [917])), (52, 1, .ireturn, (.null, 0, 0, [], []))]
def k184_3 : List Ins := [(53, 1, .aload_n 0, (.null, 0, 0, [], [])), (54, 3, .getfield 25, (.null, 11, 9, [], [922])), (57, 2, .bipush 30, (.int 30, 0, 0, [], [])), (59, 1, .iaload, (.null, 0, 0, [], [])), (60, 1, .ireturn, (.null, 0, 0, [], []))]
def k184_4 : List Ins := [(61, 1, .aload_n 0, (.null, 0, 0, [], [])), (62, 3, .invokevirtual 237, (.null, 0, 1, [(11, 169, 3)], [1201, 1203, 53])), (65, 1, .ireturn, (.null, 0, 0, [], []))]
def k184_5 : List Ins := [(66, 1, .aload_n 0, (.null, 0, 0, [], [])), (67, 3, .invokevirtual 242, (.null, 0, 1, [(11, 170, 1)], [1218, 1220, 54])), (70, 1, .aload_n 0, (.null, 0, 0, [], [])), (71, 3, .invokevirtual 237, (.null, 0, 1, [(11, 169, 3)], [1201, 1203, 53])), (74, 1, .iconst (-1), (.int (-1), 0, 0, [], [])), (75, 1, .ixor, (.null, 0, 0, [], [])), (76, 1, .iand, (.null, 0, 0, [], [])), (77, 1, .aload_n 0, (.null, 0, 0, [], [])), (78, 3, .invokevirtual 216, (.null, 0, 1, [(11, 168, 3)], [1164, 1166, 47])), (81, 1, .iconst (-1), (.int (-1), 0, 0, [], [])), (82, 1, .ixor, (.null, 0, 0, [], [])), (83, 1, .iand, (.null, 0, 0, [], [])), (84, 1, .ireturn, (.null, 0, 0, [], []))]
def k184_6 : List Ins := [(85, 1, .aload_n 0, (.null, 0, 0, [], [])), (86, 3, .invokevirtual 216, (.null, 0, 1, [(11, 168, 3)], [1164, 1166, 47])), (89, 1, .ireturn, (.null, 0, 0, [], []))]
def k184_7 : List Ins := [(90, 2, .ldc 82, (.int (-1000001), 0, 0, [], [1031])), (92, 1, .ireturn, (.null, 0, 0, [], []))]
def m184 : MI := (yX12_stand, cX12_stand, 2, (some .int), [k184_0, k184_1, k184_2, k184_3, k184_4, k184_5, k184_6, k184_7])
def k185_0 : List Ins := [(0, 1, .iload_n 0, (.null, 0, 0, [], [])), (1, 1, .i2l, (.null, 0, 0, [], [])), (2, 1, .lconst 0, (.long 0, 0, 0, [], [])), (3, 3, .ldc2_w 245, (.long 60, 0, 0, [], [1229])), (6, 3, .invokestatic 72, (.null, 3, 1, [(0, 134, 6)], [1027, 1028])), (9, 1, .ireturn, (.null, 1, 0, [], []))]
def m185 : MI := (yX12_isAhead, cX12_isAhead, 1, (some .boolean), [k185_0])
def k186_0 : List Ins := [(0, 1, .aload_n 0, (.null, 0, 0, [], [])), (1, 1, .iload_n 1, (.null, 1, 0, [], [])), (2, 3, .invokevirtual 221, (.null, 1, 1, [(11, 172, 2)], [1177, 1179, 48])), (5, 3, .ifCond .eq 22, (.null, 1, 0, [], [])), (8, 1, .iload_n 2, (.null, 2, 0, [], [])), (9, 3, .invokestatic 247, (.null, 1, 1, [(0, 185, 1)], [1226, 1227])), (12, 3, .ifCond .eq 15, (.null, 1, 0, [], [])), (15, 1, .iload_n 3, (.null, 3, 0, [], [])), (16, 1, .i2l, (.null, 0, 0, [], [])), (17, 1, .lconst 0, (.long 0, 0, 0, [], [])), (18, 3, .ldc2_w 80, (.long 2, 0, 0, [], [1030])), (21, 3, .invokestatic 72, (.null, 3, 1, [(0, 134, 6)], [1027, 1028])), (24, 3, .ifCond .ne 6, (.null, 2, 15, [], [])), (27, 0, .nop, (.null, 1, 0, [], []))]
def k186_1 : List Ins := [(27, 2, .ldc 82, (.int (-1000001), 0, 0, [], [1031])), (29, 1, .ireturn, (.null, 0, 0, [], []))]
def k186_2 : List Ins := [(30, 1, .aload_n 0, (.null, 0, 0, [], [])), (31, 3, .invokevirtual 207, (.null, 0, 0, [(11, 156, 2)], [1120, 1122, 36])), (34, 1, .aload_n 0, (.null, 0, 0, [], [])), (35, 1, .iload_n 2, (.null, 2, 0, [], [])), (36, 3, .invokevirtual 210, (.null, 1, 0, [(11, 167, 3)], [1124, 1126, 37])), (39, 1, .aload_n 0, (.null, 0, 0, [], [])), (40, 3, .getfield 49, (.null, 11, 28, [], [941])), (43, 2, .bipush 6, (.int 6, 0, 0, [], [])), (45, 1, .iload_n 3, (.null, 3, 0, [], [])), (46, 1, .imul, (.null, 0, 0, [], [])), (47, 1, .iload_n 1, (.null, 1, 0, [], [])), (48, 1, .iadd, (.null, 0, 0, [], [])), (49, 1, .iaload, (.null, 0, 0, [], [])), (50, 1, .ireturn, (.null, 0, 0, [], []))]
def m186 : MI := (yX12_ahead, cX12_ahead, 4, (some .int), [k186_0, k186_1, k186_2])
def k187_0 : List Ins := [(0, 1, .aload_n 0, (.null, 0, 0, [], [])), (1, 1, .iload_n 1, (.null, 1, 0, [], [])), (2, 3, .invokevirtual 230, (.null, 1, 1, [(11, 173, 2)], [1193, 1195, 51])), (5, 3, .ifCond .eq 10, (.null, 1, 0, [], [])), (8, 1, .iload_n 2, (.null, 2, 0, [], [])), (9, 3, .invokestatic 247, (.null, 1, 1, [(0, 185, 1)], [1226, 1227])), (12, 3, .ifCond .ne 6, (.null, 2, 7, [], [])), (15, 0, .nop, (.null, 1, 0, [], []))]
def k187_1 : List Ins := [(15, 2, .ldc 82, (.int (-1000001), 0, 0, [], [1031])), (17, 1, .ireturn, (.null, 0, 0, [], []))]
def k187_2 : List Ins := [(18, 1, .aload_n 0, (.null, 0, 0, [], [])), (19, 3, .invokevirtual 207, (.null, 0, 0, [(11, 156, 2)], [1120, 1122, 36])), (22, 1, .aload_n 0, (.null, 0, 0, [], [])), (23, 1, .iload_n 2, (.null, 2, 0, [], [])), (24, 3, .invokevirtual 210, (.null, 1, 0, [(11, 167, 3)], [1124, 1126, 37])), (27, 1, .aload_n 0, (.null, 0, 0, [], [])), (28, 1, .iload_n 1, (.null, 1, 0, [], [])), (29, 2, .ldc 52, (.int (-1000000), 0, 0, [], [912])), (31, 3, .invokevirtual 181, (.null, 2, 1, [(11, 160, 5)], [1152, 1154, 44])), (34, 1, .ireturn, (.null, 0, 0, [], []))]
def m187 : MI := (yX12_full, cX12_full, 3, (some .int), [k187_0, k187_1, k187_2])
def k188_0 : List Ins := [(0, 1, .aload_n 0, (.null, 0, 0, [], [])), (1, 3, .getfield 162, (.int 0, 11, 6, [], [919])), (4, 3, .ifCond .ne 6, (.null, 1, 7, [], [])), (7, 2, .ldc 201, (.int (-1000002), 0, 0, [], [1110])), (9, 1, .ireturn, (.null, 0, 0, [], []))]
def k188_1 : List Ins := [(10, 1, .iload_n 1, (.null, 1, 0, [], [])), (11, 3, .invokestatic 247, (.null, 1, 1, [(0, 185, 1)], [1226, 1227])), (14, 3, .ifCond .eq 13, (.null, 2, 0, [], [])), (17, 1, .iload_n 2, (.null, 2, 0, [], [])), (18, 1, .i2l, (.null, 0, 0, [], [])), (19, 1, .lconst 0, (.long 0, 0, 0, [], [])), (20, 1, .lconst 1, (.long 1, 0, 0, [], [])), (21, 3, .invokestatic 72, (.null, 3, 1, [(0, 134, 6)], [1027, 1028])), (24, 3, .ifCond .ne 6, (.null, 3, 7, [], [])), (27, 0, .nop, (.null, 2, 0, [], []))]
def k188_2 : List Ins := [(27, 2, .ldc 82, (.int (-1000001), 0, 0, [], [1031])), (29, 1, .ireturn, (.null, 0, 0, [], []))]
def k188_3 : List Ins := [(30, 1, .aload_n 0, (.null, 0, 0, [], [])), (31, 3, .invokevirtual 207, (.null, 0, 0, [(11, 156, 2)], [1120, 1122, 36])), (34, 1, .aload_n 0, (.null, 0, 0, [], [])), (35, 1, .iload_n 1, (.null, 1, 0, [], [])), (36, 3, .invokevirtual 210, (.null, 1, 0, [(11, 167, 3)], [1124, 1126, 37])), (39, 1, .iload_n 2, (.null, 2, 0, [], [])), (40, 3, .ifCond .ne 10, (.null, 4, 1, [], [])), (43, 1, .aload_n 0, (.null, 0, 0, [], [])), (44, 3, .invokevirtual 216, (.null, 0, 1, [(11, 168, 3)], [1164, 1166, 47])), (47, 3, .goto 7, (.null, 0, 0, [], [])), (54, 1, .ireturn, (.null, 0, 0, [], []))]
def k188_4 : List Ins := [(50, 1, .aload_n 0, (.null, 0, 0, [], [])), (51, 3, .invokevirtual 250, (.null, 0, 1, [(11, 171, 3)], [1238, 1240, 55])), (54, 1, .ireturn, (.null, 0, 0, [], []))]
def m188 : MI := (yX12_all, cX12_all, 3, (some .int), [k188_0, k188_1, k188_2, k188_3, k188_4])
def k189_0 : List Ins := [(0, 1, .aload_n 0, (.null, 0, 0, [], [])), (1, 1, .iload_n 1, (.null, 1, 0, [], [])), (2, 3, .invokevirtual 221, (.null, 1, 1, [(11, 172, 2)], [1177, 1179, 48])), (5, 3, .ifCond .eq 13, (.null, 1, 0, [], [])), (8, 1, .iload_n 2, (.null, 2, 0, [], [])), (9, 1, .i2l, (.null, 0, 0, [], [])), (10, 1, .lconst 0, (.long 0, 0, 0, [], [])), (11, 1, .lconst 1, (.long 1, 0, 0, [], [])), (12, 3, .invokestatic 72, (.null, 3, 1, [(0, 134, 6)], [1027, 1028])), (15, 3, .ifCond .ne 6, (.null, 2, 7, [], [])), (18, 0, .nop, (.null, 1, 0, [], []))]
def k189_1 : List Ins := [(18, 2, .ldc 82, (.int (-1000001), 0, 0, [], [1031])), (20, 1, .ireturn, (.null, 0, 0, [], []))]
def k189_2 : List Ins := [(21, 1, .aload_n 0, (.null, 0, 0, [], [])), (22, 3, .invokevirtual 207, (.null, 0, 0, [(11, 156, 2)], [1120, 1122, 36])), (25, 1, .iconst 0, (.int 0, 0, 0, [], [])), (26, 1, .istore_n 3, (.null, 3, 0, [], [])), (27, 0, .nop, (.null, 3, 15, [], []))]
def k189_3 : List Ins := [(27, 1, .iload_n 3, (.null, 3, 0, [], [])), (28, 2, .bipush 61, (.int 61, 0, 0, [], [])), (30, 3, .if_icmp .ge 45, (.null, 7, 0, [], [])), (33, 1, .iload_n 2, (.null, 2, 0, [], [])), (34, 3, .ifCond .ne 17, (.null, 4, 15, [], [])), (37, 1, .aload_n 0, (.null, 0, 0, [], [])), (38, 3, .getfield 49, (.null, 11, 28, [], [941])), (41, 1, .iload_n 1, (.null, 1, 0, [], [])), (42, 1, .iaload, (.null, 0, 0, [], [])), (43, 2, .bipush 20, (.int 20, 0, 0, [], [])), (45, 3, .if_icmp .eq 19, (.null, 6, 15, [], [])), (48, 3, .goto 14, (.int 0, 5, 8, [], []))]
def k189_4 : List Ins := [(51, 1, .aload_n 0, (.null, 0, 0, [], [])), (52, 3, .getfield 49, (.null, 11, 28, [], [941])), (55, 1, .iload_n 1, (.null, 1, 0, [], [])), (56, 1, .iaload, (.null, 0, 0, [], [])), (57, 2, .bipush 21, (.int 21, 0, 0, [], [])), (59, 3, .if_icmp .ne 5, (.null, 6, 15, [], [])), (62, 0, .nop, (.null, 5, 8, [], []))]
def k189_5 : List Ins := [(62, 1, .iload_n 3, (.null, 3, 0, [], [])), (63, 1, .ireturn, (.null, 0, 0, [], []))]
def k189_6 : List Ins := [(64, 1, .aload_n 0, (.null, 0, 0, [], [])), (65, 1, .iconst 1, (.int 1, 0, 0, [], [])), (66, 3, .invokevirtual 210, (.null, 1, 0, [(11, 167, 3)], [1124, 1126, 37])), (69, 3, .iinc 3 1, (.int 1, 3, 0, [], [])), (72, 3, .goto (-45), (.int 0, 3, 15, [], []))]
def k189_7 : List Ins := [(75, 2, .ldc 52, (.int (-1000000), 0, 0, [], [912])), (77, 1, .ireturn, (.null, 0, 0, [], []))]
def m189 : MI := (yX12_when, cX12_when, 4, (some .int), [k189_0, k189_1, k189_2, k189_3, k189_4, k189_5, k189_6, k189_7])
def k190_0 : List Ins := [(0, 1, .aload_n 0, (.null, 0, 0, [], [])), (1, 3, .getfield 162, (.int 0, 11, 6, [], [919])), (4, 3, .ifCond .ne 6, (.null, 1, 1, [], [])), (7, 2, .ldc 201, (.int (-1000002), 0, 0, [], [1110])), (9, 1, .ireturn, (.null, 0, 0, [], []))]
def k190_1 : List Ins := [(10, 1, .aload_n 0, (.null, 0, 0, [], [])), (11, 3, .invokevirtual 207, (.null, 0, 0, [(11, 156, 2)], [1120, 1122, 36])), (14, 1, .iconst 0, (.int 0, 0, 0, [], [])), (15, 1, .istore_n 1, (.null, 1, 0, [], [])), (16, 0, .nop, (.null, 2, 3, [], []))]
def k190_2 : List Ins := [(16, 1, .iload_n 1, (.null, 1, 0, [], [])), (17, 2, .bipush 61, (.int 61, 0, 0, [], [])), (19, 3, .if_icmp .ge 27, (.null, 4, 0, [], [])), (22, 1, .aload_n 0, (.null, 0, 0, [], [])), (23, 3, .invokevirtual 216, (.null, 0, 1, [(11, 168, 3)], [1164, 1166, 47])), (26, 1, .aload_n 0, (.null, 0, 0, [], [])), (27, 3, .invokevirtual 242, (.null, 0, 1, [(11, 170, 1)], [1218, 1220, 54])), (30, 3, .if_icmp .ne 5, (.null, 3, 3, [], [])), (33, 1, .iload_n 1, (.null, 1, 0, [], [])), (34, 1, .ireturn, (.null, 0, 0, [], []))]
def k190_3 : List Ins := [(35, 1, .aload_n 0, (.null, 0, 0, [], [])), (36, 1, .iconst 1, (.int 1, 0, 0, [], [])), (37, 3, .invokevirtual 210, (.null, 1, 0, [(11, 167, 3)], [1124, 1126, 37])), (40, 3, .iinc 1 1, (.int 1, 1, 0, [], [])), (43, 3, .goto (-27), (.int 0, 2, 3, [], []))]
def k190_4 : List Ins := [(46, 2, .ldc 52, (.int (-1000000), 0, 0, [], [912])), (48, 1, .ireturn, (.null, 0, 0, [], []))]
def m190 : MI := (yX12_over, cX12_over, 2, (some .int), [k190_0, k190_1, k190_2, k190_3, k190_4])
def k191_0 : List Ins := [(0, 1, .iload_n 1, (.null, 1, 0, [], [])), (1, 1, .istore_n 2, (.null, 2, 0, [], [])), (2, 1, .iconst 0, (.int 0, 0, 0, [], [])), (3, 1, .istore_n 3, (.null, 3, 0, [], [])), (4, 1, .aload_n 0, (.null, 0, 0, [], [])), (5, 3, .getfield 159, (.int 0, 11, 5, [], [918])), (8, 1, .iconst 1, (.int 1, 0, 0, [], [])), (9, 1, .isub, (.null, 0, 0, [], [])), (10, 2, .istore 4, (.null, 4, 0, [], [])), (12, 0, .nop, (.null, 1, 29, [], []))]
def k191_1 : List Ins := [(12, 2, .iload 4, (.null, 4, 0, [], [])), (14, 3, .ifCond .lt 41, (.null, 2, 9, [], [])), (17, 1, .aload_n 0, (.null, 0, 0, [], [])), (18, 3, .getfield 60, (.null, 11, 33, [], [946])), (21, 2, .iload 4, (.null, 4, 0, [], [])), (23, 1, .iload_n 2, (.null, 2, 0, [], [])), (24, 1, .aload_n 0, (.null, 0, 0, [], [])), (25, 3, .getfield 159, (.int 0, 11, 5, [], [918])), (28, 1, .irem, (.null, 0, 0, [], [])), (29, 1, .iastore, (.null, 0, 0, [], [])), (30, 1, .iload_n 3, (.null, 3, 0, [], [])), (31, 1, .iconst 1, (.int 1, 0, 0, [], [])), (32, 1, .aload_n 0, (.null, 0, 0, [], [])), (33, 3, .getfield 60, (.null, 11, 33, [], [946])), (36, 2, .iload 4, (.null, 4, 0, [], [])), (38, 1, .iaload, (.null, 0, 0, [], [])), (39, 1, .ishl, (.null, 0, 0, [], [])), (40, 1, .ior, (.null, 0, 0, [], [])), (41, 1, .istore_n 3, (.null, 3, 0, [], [])), (42, 1, .iload_n 2, (.null, 2, 0, [], [])), (43, 1, .aload_n 0, (.null, 0, 0, [], [])), (44, 3, .getfield 159, (.int 0, 11, 5, [], [918])), (47, 1, .idiv, (.null, 0, 0, [], [])), (48, 1, .istore_n 2, (.null, 2, 0, [], [])), (49, 3, .iinc 4 (-1), (.int (-1), 4, 0, [], [])), (52, 3, .goto (-40), (.int 0, 1, 29, [], []))]
def k191_2 : List Ins := [(55, 1, .iload_n 3, (.null, 3, 0, [], [])), (56, 1, .aload_n 0, (.null, 0, 0, [], [])), (57, 3, .invokevirtual 242, (.null, 0, 1, [(11, 170, 1)], [1218, 1220, 54])), (60, 3, .if_icmp .ne 7, (.null, 3, 0, [], [])), (63, 1, .iconst 1, (.int 1, 0, 0, [], [])), (64, 3, .goto 4, (.null, 0, 0, [], [])), (68, 1, .ireturn, (.null, 1, 0, [], []))]
def k191_3 : List Ins := [(67, 1, .iconst 0, (.int 0, 0, 0, [], [])), (68, 1, .ireturn, (.null, 1, 0, [], []))]
def m191 : MI := (yX12_layOrder, cX12_layOrder, 5, (some .boolean), [k191_0, k191_1, k191_2, k191_3])
def k192_0 : List Ins := [(0, 1, .aload_n 0, (.null, 0, 0, [], [])), (1, 3, .getfield 162, (.int 0, 11, 6, [], [919])), (4, 3, .ifCond .ne 6, (.null, 1, 7, [], [])), (7, 2, .ldc 201, (.int (-1000002), 0, 0, [], [1110])), (9, 1, .ireturn, (.null, 0, 0, [], []))]
def k192_1 : List Ins := [(10, 1, .iload_n 1, (.null, 1, 0, [], [])), (11, 1, .i2l, (.null, 0, 0, [], [])), (12, 1, .lconst 1, (.long 1, 0, 0, [], [])), (13, 3, .ldc2_w 253, (.long 40, 0, 0, [], [1254])), (16, 3, .invokestatic 72, (.null, 3, 1, [(0, 134, 6)], [1027, 1028])), (19, 3, .ifCond .eq 8, (.null, 2, 0, [], [])), (22, 1, .iload_n 2, (.null, 2, 0, [], [])), (23, 1, .iconst (-1), (.int (-1), 0, 0, [], [])), (24, 3, .if_icmp .ge 6, (.null, 3, 7, [], [])), (27, 0, .nop, (.null, 2, 0, [], []))]
def k192_2 : List Ins := [(27, 2, .ldc 82, (.int (-1000001), 0, 0, [], [1031])), (29, 1, .ireturn, (.null, 0, 0, [], []))]
def k192_3 : List Ins := [(30, 1, .iconst 1, (.int 1, 0, 0, [], [])), (31, 1, .istore_n 3, (.null, 3, 0, [], [])), (32, 1, .iconst 0, (.int 0, 0, 0, [], [])), (33, 2, .istore 4, (.null, 4, 0, [], [])), (35, 0, .nop, (.null, 4, 31, [], []))]
def k192_4 : List Ins := [(35, 2, .iload 4, (.null, 4, 0, [], [])), (37, 1, .aload_n 0, (.null, 0, 0, [], [])), (38, 3, .getfield 159, (.int 0, 11, 5, [], [918])), (41, 3, .if_icmp .ge 16, (.null, 5, 15, [], [])), (44, 1, .iload_n 3, (.null, 3, 0, [], [])), (45, 1, .aload_n 0, (.null, 0, 0, [], [])), (46, 3, .getfield 159, (.int 0, 11, 5, [], [918])), (49, 1, .imul, (.null, 0, 0, [], [])), (50, 1, .istore_n 3, (.null, 3, 0, [], [])), (51, 3, .iinc 4 1, (.int 1, 4, 0, [], [])), (54, 3, .goto (-19), (.int 0, 4, 31, [], []))]
def k192_5 : List Ins := [(57, 2, .ldc 52, (.int (-1000000), 0, 0, [], [912])), (59, 2, .istore 4, (.null, 4, 0, [], [])), (61, 1, .iconst 0, (.int 0, 0, 0, [], [])), (62, 2, .istore 5, (.null, 5, 0, [], [])), (64, 0, .nop, (.null, 6, 63, [], []))]
def k192_6 : List Ins := [(64, 2, .iload 5, (.null, 5, 0, [], [])), (66, 1, .iload_n 3, (.null, 3, 0, [], [])), (67, 3, .if_icmp .ge 111, (.null, 12, 21, [], [])), (70, 1, .aload_n 0, (.null, 0, 0, [], [])), (71, 2, .iload 5, (.null, 5, 0, [], [])), (73, 3, .invokevirtual 255, (.null, 1, 1, [(11, 191, 5)], [1255, 1257, 56])), (76, 3, .ifCond .eq 96, (.null, 11, 63, [], [])), (79, 1, .aload_n 0, (.null, 0, 0, [], [])), (80, 3, .invokevirtual 207, (.null, 0, 0, [(11, 156, 2)], [1120, 1122, 36])), (83, 1, .iconst 0, (.int 0, 0, 0, [], [])), (84, 2, .istore 6, (.null, 6, 0, [], [])), (86, 1, .iconst 0, (.int 0, 0, 0, [], [])), (87, 2, .istore 7, (.null, 7, 0, [], [])), (89, 0, .nop, (.null, 7, 255, [], []))]
def k192_7 : List Ins := [(89, 2, .iload 7, (.null, 7, 0, [], [])), (91, 1, .iload_n 1, (.null, 1, 0, [], [])), (92, 3, .if_icmp .gt 30, (.null, 8, 127, [], [])), (95, 2, .iload 6, (.null, 6, 0, [], [])), (97, 1, .aload_n 0, (.null, 0, 0, [], [])), (98, 3, .getfield 159, (.int 0, 11, 5, [], [918])), (101, 1, .aload_n 0, (.null, 0, 0, [], [])), (102, 3, .invokevirtual 216, (.null, 0, 1, [(11, 168, 3)], [1164, 1166, 47])), (105, 3, .invokestatic 258, (.null, 1, 1, [(0, 136, 3)], [1259, 1260])), (108, 1, .isub, (.null, 0, 0, [], [])), (109, 1, .iadd, (.null, 0, 0, [], [])), (110, 2, .istore 6, (.null, 6, 0, [], [])), (112, 1, .aload_n 0, (.null, 0, 0, [], [])), (113, 3, .invokevirtual 198, (.null, 0, 0, [(11, 166, 4)], [1132, 1134, 39])), (116, 3, .iinc 7 1, (.int 1, 7, 0, [], [])), (119, 3, .goto (-30), (.int 0, 7, 255, [], []))]
def k192_8 : List Ins := [(122, 2, .iload 4, (.null, 4, 0, [], [])), (124, 2, .ldc 52, (.int (-1000000), 0, 0, [], [912])), (126, 3, .if_icmp .eq 10, (.null, 9, 111, [], [])), (129, 2, .iload 6, (.null, 6, 0, [], [])), (131, 2, .iload 4, (.null, 4, 0, [], [])), (133, 3, .if_icmp .ge 39, (.null, 11, 63, [], [])), (136, 0, .nop, (.null, 9, 111, [], []))]
def k192_9 : List Ins := [(136, 2, .iload 6, (.null, 6, 0, [], [])), (138, 2, .istore 4, (.null, 4, 0, [], [])), (140, 1, .iconst 0, (.int 0, 0, 0, [], [])), (141, 2, .istore 7, (.null, 7, 0, [], [])), (143, 0, .nop, (.null, 10, 191, [], []))]
def k192_10 : List Ins := [(143, 2, .iload 7, (.null, 7, 0, [], [])), (145, 1, .aload_n 0, (.null, 0, 0, [], [])), (146, 3, .getfield 159, (.int 0, 11, 5, [], [918])), (149, 3, .if_icmp .ge 23, (.null, 11, 63, [], [])), (152, 1, .aload_n 0, (.null, 0, 0, [], [])), (153, 3, .getfield 63, (.null, 11, 34, [], [947])), (156, 2, .iload 7, (.null, 7, 0, [], [])), (158, 1, .aload_n 0, (.null, 0, 0, [], [])), (159, 3, .getfield 60, (.null, 11, 33, [], [946])), (162, 2, .iload 7, (.null, 7, 0, [], [])), (164, 1, .iaload, (.null, 0, 0, [], [])), (165, 1, .iastore, (.null, 0, 0, [], [])), (166, 3, .iinc 7 1, (.int 1, 7, 0, [], [])), (169, 3, .goto (-26), (.int 0, 10, 191, [], []))]
def k192_11 : List Ins := [(172, 3, .iinc 5 1, (.int 1, 5, 0, [], [])), (175, 3, .goto (-111), (.int 0, 6, 63, [], []))]
def k192_12 : List Ins := [(178, 1, .iload_n 2, (.null, 2, 0, [], [])), (179, 3, .ifCond .ge 8, (.null, 13, 5, [], [])), (182, 2, .iload 4, (.null, 4, 0, [], [])), (184, 3, .goto 22, (.null, 0, 0, [], [])), (206, 1, .ireturn, (.null, 0, 0, [], []))]
def k192_13 : List Ins := [(187, 1, .iload_n 2, (.null, 2, 0, [], [])), (188, 1, .aload_n 0, (.null, 0, 0, [], [])), (189, 3, .getfield 159, (.int 0, 11, 5, [], [918])), (192, 3, .if_icmp .ge 12, (.null, 14, 0, [], [])), (195, 1, .aload_n 0, (.null, 0, 0, [], [])), (196, 3, .getfield 63, (.null, 11, 34, [], [947])), (199, 1, .iload_n 2, (.null, 2, 0, [], [])), (200, 1, .iaload, (.null, 0, 0, [], [])), (201, 3, .goto 5, (.null, 0, 0, [], [])), (206, 1, .ireturn, (.null, 0, 0, [], []))]
def k192_14 : List Ins := [(204, 2, .ldc 52, (.int (-1000000), 0, 0, [], [912])), (206, 1, .ireturn, (.null, 0, 0, [], []))]
def m192 : MI := (yX12_order, cX12_order, 8, (some .int), [k192_0, k192_1, k192_2, k192_3, k192_4, k192_5, k192_6, k192_7, k192_8, k192_9, k192_10, k192_11, k192_12, k192_13, k192_14])
def k193_0 : List Ins := [(0, 1, .aload_n 0, (.null, 0, 0, [], [])), (1, 3, .getfield 162, (.int 0, 11, 6, [], [919])), (4, 3, .ifCond .ne 6, (.null, 1, 3, [], [])), (7, 2, .ldc 201, (.int (-1000002), 0, 0, [], [1110])), (9, 1, .ireturn, (.null, 0, 0, [], []))]
def k193_1 : List Ins := [(10, 1, .iload_n 1, (.null, 1, 0, [], [])), (11, 1, .i2l, (.null, 0, 0, [], [])), (12, 1, .lconst 1, (.long 1, 0, 0, [], [])), (13, 3, .ldc2_w 253, (.long 40, 0, 0, [], [1254])), (16, 3, .invokestatic 72, (.null, 3, 1, [(0, 134, 6)], [1027, 1028])), (19, 3, .ifCond .ne 6, (.null, 2, 3, [], [])), (22, 2, .ldc 82, (.int (-1000001), 0, 0, [], [1031])), (24, 1, .ireturn, (.null, 0, 0, [], []))]
def k193_2 : List Ins := [(25, 1, .iconst 2, (.int 2, 0, 0, [], [])), (26, 1, .istore_n 2, (.null, 2, 0, [], [])), (27, 0, .nop, (.null, 3, 7, [], []))]
def k193_3 : List Ins := [(27, 1, .iload_n 2, (.null, 2, 0, [], [])), (28, 2, .bipush 21, (.int 21, 0, 0, [], [])), (30, 3, .if_icmp .ge 39, (.null, 5, 0, [], [])), (33, 1, .aload_n 0, (.null, 0, 0, [], [])), (34, 3, .invokevirtual 207, (.null, 0, 0, [(11, 156, 2)], [1120, 1122, 36])), (37, 1, .aload_n 0, (.null, 0, 0, [], [])), (38, 3, .getfield 49, (.null, 11, 28, [], [941])), (41, 2, .bipush 30, (.int 30, 0, 0, [], [])), (43, 1, .iload_n 2, (.null, 2, 0, [], [])), (44, 1, .iastore, (.null, 0, 0, [], [])), (45, 1, .aload_n 0, (.null, 0, 0, [], [])), (46, 1, .iload_n 1, (.null, 1, 0, [], [])), (47, 3, .invokevirtual 210, (.null, 1, 0, [(11, 167, 3)], [1124, 1126, 37])), (50, 1, .aload_n 0, (.null, 0, 0, [], [])), (51, 3, .invokevirtual 216, (.null, 0, 1, [(11, 168, 3)], [1164, 1166, 47])), (54, 1, .aload_n 0, (.null, 0, 0, [], [])), (55, 3, .invokevirtual 242, (.null, 0, 1, [(11, 170, 1)], [1218, 1220, 54])), (58, 3, .if_icmp .ne 5, (.null, 4, 7, [], [])), (61, 1, .iload_n 2, (.null, 2, 0, [], [])), (62, 1, .ireturn, (.null, 0, 0, [], []))]
def k193_4 : List Ins := [(63, 3, .iinc 2 1, (.int 1, 2, 0, [], [])), (66, 3, .goto (-39), (.int 0, 3, 7, [], []))]
def k193_5 : List Ins := [(69, 2, .ldc 52, (.int (-1000000), 0, 0, [], [912])), (71, 1, .ireturn, (.null, 0, 0, [], []))]
def m193 : MI := (yX12_need, cX12_need, 3, (some .int), [k193_0, k193_1, k193_2, k193_3, k193_4, k193_5])
def k194_0 : List Ins := [(0, 1, .aload_n 0, (.null, 0, 0, [], [])), (1, 1, .iload_n 1, (.null, 1, 0, [], [])), (2, 3, .invokevirtual 221, (.null, 1, 1, [(11, 172, 2)], [1177, 1179, 48])), (5, 3, .ifCond .eq 15, (.null, 1, 0, [], [])), (8, 1, .iload_n 2, (.null, 2, 0, [], [])), (9, 1, .i2l, (.null, 0, 0, [], [])), (10, 1, .lconst 1, (.long 1, 0, 0, [], [])), (11, 3, .ldc2_w 253, (.long 40, 0, 0, [], [1254])), (14, 3, .invokestatic 72, (.null, 3, 1, [(0, 134, 6)], [1027, 1028])), (17, 3, .ifCond .ne 6, (.null, 2, 7, [], [])), (20, 0, .nop, (.null, 1, 0, [], []))]
def k194_1 : List Ins := [(20, 2, .ldc 82, (.int (-1000001), 0, 0, [], [1031])), (22, 1, .ireturn, (.null, 0, 0, [], []))]
def k194_2 : List Ins := [(23, 1, .aload_n 0, (.null, 0, 0, [], [])), (24, 3, .getfield 25, (.null, 11, 9, [], [922])), (27, 1, .iload_n 1, (.null, 1, 0, [], [])), (28, 1, .iaload, (.null, 0, 0, [], [])), (29, 2, .bipush 20, (.int 20, 0, 0, [], [])), (31, 3, .if_icmp .eq 6, (.null, 3, 7, [], [])), (34, 2, .ldc 201, (.int (-1000002), 0, 0, [], [1110])), (36, 1, .ireturn, (.null, 0, 0, [], []))]
def k194_3 : List Ins := [(37, 2, .bipush 99, (.int 99, 0, 0, [], [])), (39, 1, .istore_n 3, (.null, 3, 0, [], [])), (40, 0, .nop, (.null, 4, 15, [], []))]
def k194_4 : List Ins := [(40, 1, .iload_n 3, (.null, 3, 0, [], [])), (41, 3, .ifCond .lt 41, (.null, 6, 0, [], [])), (44, 1, .aload_n 0, (.null, 0, 0, [], [])), (45, 3, .invokevirtual 207, (.null, 0, 0, [(11, 156, 2)], [1120, 1122, 36])), (48, 1, .aload_n 0, (.null, 0, 0, [], [])), (49, 3, .getfield 49, (.null, 11, 28, [], [941])), (52, 2, .bipush 18, (.int 18, 0, 0, [], [])), (54, 1, .iload_n 1, (.null, 1, 0, [], [])), (55, 1, .iadd, (.null, 0, 0, [], [])), (56, 1, .iload_n 3, (.null, 3, 0, [], [])), (57, 1, .iastore, (.null, 0, 0, [], [])), (58, 1, .aload_n 0, (.null, 0, 0, [], [])), (59, 1, .iload_n 2, (.null, 2, 0, [], [])), (60, 3, .invokevirtual 210, (.null, 1, 0, [(11, 167, 3)], [1124, 1126, 37])), (63, 1, .aload_n 0, (.null, 0, 0, [], [])), (64, 3, .getfield 49, (.null, 11, 28, [], [941])), (67, 1, .iload_n 1, (.null, 1, 0, [], [])), (68, 1, .iaload, (.null, 0, 0, [], [])), (69, 2, .bipush 21, (.int 21, 0, 0, [], [])), (71, 3, .if_icmp .ne 5, (.null, 5, 15, [], [])), (74, 1, .iload_n 3, (.null, 3, 0, [], [])), (75, 1, .ireturn, (.null, 0, 0, [], []))]
def k194_5 : List Ins := [(76, 3, .iinc 3 (-1), (.int (-1), 3, 0, [], [])), (79, 3, .goto (-39), (.int 0, 4, 15, [], []))]
def k194_6 : List Ins := [(82, 2, .ldc 52, (.int (-1000000), 0, 0, [], [912])), (84, 1, .ireturn, (.null, 0, 0, [], []))]
def m194 : MI := (yX12_latest, cX12_latest, 4, (some .int), [k194_0, k194_1, k194_2, k194_3, k194_4, k194_5, k194_6])
def k195_0 : List Ins := [(0, 1, .aload_n 0, (.null, 0, 0, [], [])), (1, 3, .getfield 162, (.int 0, 11, 6, [], [919])), (4, 3, .ifCond .ne 6, (.null, 1, 7, [], [])), (7, 2, .ldc 201, (.int (-1000002), 0, 0, [], [1110])), (9, 1, .ireturn, (.null, 0, 0, [], []))]
def k195_1 : List Ins := [(10, 1, .iload_n 1, (.null, 1, 0, [], [])), (11, 1, .i2l, (.null, 0, 0, [], [])), (12, 1, .lconst 0, (.long 0, 0, 0, [], [])), (13, 3, .ldc2_w 261, (.long 54, 0, 0, [], [1274])), (16, 3, .invokestatic 72, (.null, 3, 1, [(0, 134, 6)], [1027, 1028])), (19, 3, .ifCond .eq 15, (.null, 2, 0, [], [])), (22, 1, .iload_n 2, (.null, 2, 0, [], [])), (23, 1, .i2l, (.null, 0, 0, [], [])), (24, 1, .lconst 0, (.long 0, 0, 0, [], [])), (25, 3, .ldc2_w 80, (.long 2, 0, 0, [], [1030])), (28, 3, .invokestatic 72, (.null, 3, 1, [(0, 134, 6)], [1027, 1028])), (31, 3, .ifCond .ne 6, (.null, 3, 7, [], [])), (34, 0, .nop, (.null, 2, 0, [], []))]
def k195_2 : List Ins := [(34, 2, .ldc 82, (.int (-1000001), 0, 0, [], [1031])), (36, 1, .ireturn, (.null, 0, 0, [], []))]
def k195_3 : List Ins := [(37, 1, .aload_n 0, (.null, 0, 0, [], [])), (38, 3, .invokevirtual 207, (.null, 0, 0, [(11, 156, 2)], [1120, 1122, 36])), (41, 1, .aload_n 0, (.null, 0, 0, [], [])), (42, 3, .invokevirtual 242, (.null, 0, 1, [(11, 170, 1)], [1218, 1220, 54])), (45, 1, .aload_n 0, (.null, 0, 0, [], [])), (46, 3, .invokevirtual 216, (.null, 0, 1, [(11, 168, 3)], [1164, 1166, 47])), (49, 1, .iconst (-1), (.int (-1), 0, 0, [], [])), (50, 1, .ixor, (.null, 0, 0, [], [])), (51, 1, .iand, (.null, 0, 0, [], [])), (52, 1, .istore_n 3, (.null, 3, 0, [], [])), (53, 1, .iconst 0, (.int 0, 0, 0, [], [])), (54, 2, .istore 4, (.null, 4, 0, [], [])), (56, 1, .iconst (-1), (.int (-1), 0, 0, [], [])), (57, 2, .istore 5, (.null, 5, 0, [], [])), (59, 1, .iconst 0, (.int 0, 0, 0, [], [])), (60, 2, .istore 6, (.null, 6, 0, [], [])), (62, 1, .iconst 0, (.int 0, 0, 0, [], [])), (63, 2, .istore 7, (.null, 7, 0, [], [])), (65, 0, .nop, (.null, 4, 255, [], []))]
def k195_4 : List Ins := [(65, 2, .iload 7, (.null, 7, 0, [], [])), (67, 1, .iload_n 3, (.null, 3, 0, [], [])), (68, 3, .if_icmp .gt 88, (.null, 10, 116, [], [])), (71, 1, .iconst 0, (.int 0, 0, 0, [], [])), (72, 2, .istore 8, (.null, 8, 0, [], [])), (74, 1, .iconst 0, (.int 0, 0, 0, [], [])), (75, 2, .istore 9, (.null, 9, 0, [], [])), (77, 0, .nop, (.null, 5, 1023, [], []))]
def k195_5 : List Ins := [(77, 2, .iload 9, (.null, 9, 0, [], [])), (79, 1, .aload_n 0, (.null, 0, 0, [], [])), (80, 3, .getfield 159, (.int 0, 11, 5, [], [918])), (83, 3, .if_icmp .ge 35, (.null, 8, 511, [], [])), (86, 2, .iload 8, (.null, 8, 0, [], [])), (88, 2, .iload 7, (.null, 7, 0, [], [])), (90, 2, .iload 9, (.null, 9, 0, [], [])), (92, 3, .invokestatic 263, (.null, 2, 1, [(0, 135, 2)], [1275, 1276])), (95, 3, .ifCond .eq 13, (.null, 6, 767, [], [])), (98, 1, .aload_n 0, (.null, 0, 0, [], [])), (99, 3, .getfield 22, (.null, 11, 8, [], [921])), (102, 2, .iload 9, (.null, 9, 0, [], [])), (104, 1, .iaload, (.null, 0, 0, [], [])), (105, 3, .goto 4, (.int 0, 7, 767, [], []))]
def k195_6 : List Ins := [(108, 1, .iconst 0, (.int 0, 0, 0, [], [])), (109, 0, .nop, (.null, 7, 767, [], []))]
def k195_7 : List Ins := [(109, 1, .iadd, (.null, 0, 0, [], [])), (110, 2, .istore 8, (.null, 8, 0, [], [])), (112, 3, .iinc 9 1, (.int 1, 9, 0, [], [])), (115, 3, .goto (-38), (.int 0, 5, 1023, [], []))]
def k195_8 : List Ins := [(118, 2, .iload 7, (.null, 7, 0, [], [])), (120, 1, .iload_n 3, (.null, 3, 0, [], [])), (121, 1, .iconst (-1), (.int (-1), 0, 0, [], [])), (122, 1, .ixor, (.null, 0, 0, [], [])), (123, 1, .iand, (.null, 0, 0, [], [])), (124, 3, .ifCond .ne 26, (.null, 9, 255, [], [])), (127, 2, .iload 8, (.null, 8, 0, [], [])), (129, 1, .iload_n 1, (.null, 1, 0, [], [])), (130, 3, .if_icmp .ne 20, (.null, 9, 255, [], [])), (133, 3, .iinc 4 1, (.int 1, 4, 0, [], [])), (136, 2, .iload 5, (.null, 5, 0, [], [])), (138, 2, .iload 7, (.null, 7, 0, [], [])), (140, 1, .iand, (.null, 0, 0, [], [])), (141, 2, .istore 5, (.null, 5, 0, [], [])), (143, 2, .iload 6, (.null, 6, 0, [], [])), (145, 2, .iload 7, (.null, 7, 0, [], [])), (147, 1, .ior, (.null, 0, 0, [], [])), (148, 2, .istore 6, (.null, 6, 0, [], [])), (150, 0, .nop, (.null, 9, 255, [], []))]
def k195_9 : List Ins := [(150, 3, .iinc 7 1, (.int 1, 7, 0, [], [])), (153, 3, .goto (-88), (.int 0, 4, 255, [], []))]
def k195_10 : List Ins := [(156, 1, .iload_n 2, (.null, 2, 0, [], [])), (157, 3, .ifCond .ne 8, (.null, 11, 116, [], [])), (160, 2, .iload 4, (.null, 4, 0, [], [])), (162, 3, .goto 24, (.null, 0, 0, [], [])), (186, 1, .ireturn, (.null, 0, 0, [], []))]
def k195_11 : List Ins := [(165, 1, .iload_n 2, (.null, 2, 0, [], [])), (166, 1, .iconst 2, (.int 2, 0, 0, [], [])), (167, 3, .if_icmp .ne 8, (.null, 12, 48, [], [])), (170, 2, .iload 6, (.null, 6, 0, [], [])), (172, 3, .goto 14, (.null, 0, 0, [], [])), (186, 1, .ireturn, (.null, 0, 0, [], []))]
def k195_12 : List Ins := [(175, 2, .iload 4, (.null, 4, 0, [], [])), (177, 3, .ifCond .ne 7, (.null, 13, 32, [], [])), (180, 1, .iconst 0, (.int 0, 0, 0, [], [])), (181, 3, .goto 5, (.null, 0, 0, [], [])), (186, 1, .ireturn, (.null, 0, 0, [], []))]
def k195_13 : List Ins := [(184, 2, .iload 5, (.null, 5, 0, [], [])), (186, 1, .ireturn, (.null, 0, 0, [], []))]
def m195 : MI := (yX12_sets, cX12_sets, 10, (some .int), [k195_0, k195_1, k195_2, k195_3, k195_4, k195_5, k195_6, k195_7, k195_8, k195_9, k195_10, k195_11, k195_12, k195_13])
def k196_0 : List Ins := [(0, 1, .aload_n 0, (.null, 0, 0, [], [])), (1, 1, .iload_n 1, (.null, 1, 0, [], [])), (2, 3, .invokevirtual 221, (.null, 1, 1, [(11, 172, 2)], [1177, 1179, 48])), (5, 3, .ifCond .eq 15, (.null, 1, 0, [], [])), (8, 1, .iload_n 2, (.null, 2, 0, [], [])), (9, 1, .i2l, (.null, 0, 0, [], [])), (10, 1, .lconst 0, (.long 0, 0, 0, [], [])), (11, 3, .ldc2_w 266, (.long 999, 0, 0, [], [1282])), (14, 3, .invokestatic 72, (.null, 3, 1, [(0, 134, 6)], [1027, 1028])), (17, 3, .ifCond .ne 6, (.null, 2, 7, [], [])), (20, 0, .nop, (.null, 1, 0, [], []))]
def k196_1 : List Ins := [(20, 2, .ldc 82, (.int (-1000001), 0, 0, [], [1031])), (22, 1, .ireturn, (.null, 0, 0, [], []))]
def k196_2 : List Ins := [(23, 1, .aload_n 0, (.null, 0, 0, [], [])), (24, 3, .invokevirtual 207, (.null, 0, 0, [(11, 156, 2)], [1120, 1122, 36])), (27, 1, .aload_n 0, (.null, 0, 0, [], [])), (28, 3, .invokevirtual 250, (.null, 0, 1, [(11, 171, 3)], [1238, 1240, 55])), (31, 1, .istore_n 3, (.null, 3, 0, [], [])), (32, 1, .iload_n 3, (.null, 3, 0, [], [])), (33, 3, .ifCond .ne 5, (.null, 3, 15, [], [])), (36, 1, .iconst 0, (.int 0, 0, 0, [], [])), (37, 1, .ireturn, (.null, 0, 0, [], []))]
def k196_3 : List Ins := [(38, 1, .iload_n 2, (.null, 2, 0, [], [])), (39, 2, .istore 4, (.null, 4, 0, [], [])), (41, 1, .iconst 0, (.int 0, 0, 0, [], [])), (42, 2, .istore 5, (.null, 5, 0, [], [])), (44, 0, .nop, (.null, 4, 63, [], []))]
def k196_4 : List Ins := [(44, 2, .iload 5, (.null, 5, 0, [], [])), (46, 1, .aload_n 0, (.null, 0, 0, [], [])), (47, 3, .getfield 159, (.int 0, 11, 5, [], [918])), (50, 3, .if_icmp .ge 28, (.null, 5, 31, [], [])), (53, 2, .iload 4, (.null, 4, 0, [], [])), (55, 1, .iload_n 2, (.null, 2, 0, [], [])), (56, 1, .aload_n 0, (.null, 0, 0, [], [])), (57, 3, .getfield 49, (.null, 11, 28, [], [941])), (60, 2, .bipush 6, (.int 6, 0, 0, [], [])), (62, 2, .iload 5, (.null, 5, 0, [], [])), (64, 1, .iadd, (.null, 0, 0, [], [])), (65, 1, .iaload, (.null, 0, 0, [], [])), (66, 1, .imul, (.null, 0, 0, [], [])), (67, 1, .iload_n 3, (.null, 3, 0, [], [])), (68, 1, .idiv, (.null, 0, 0, [], [])), (69, 1, .isub, (.null, 0, 0, [], [])), (70, 2, .istore 4, (.null, 4, 0, [], [])), (72, 3, .iinc 5 1, (.int 1, 5, 0, [], [])), (75, 3, .goto (-31), (.int 0, 4, 63, [], []))]
def k196_5 : List Ins := [(78, 1, .iload_n 2, (.null, 2, 0, [], [])), (79, 1, .aload_n 0, (.null, 0, 0, [], [])), (80, 3, .getfield 49, (.null, 11, 28, [], [941])), (83, 2, .bipush 6, (.int 6, 0, 0, [], [])), (85, 1, .iload_n 1, (.null, 1, 0, [], [])), (86, 1, .iadd, (.null, 0, 0, [], [])), (87, 1, .iaload, (.null, 0, 0, [], [])), (88, 1, .imul, (.null, 0, 0, [], [])), (89, 1, .iload_n 3, (.null, 3, 0, [], [])), (90, 1, .idiv, (.null, 0, 0, [], [])), (91, 2, .istore 5, (.null, 5, 0, [], [])), (93, 1, .iconst 0, (.int 0, 0, 0, [], [])), (94, 2, .istore 6, (.null, 6, 0, [], [])), (96, 0, .nop, (.null, 6, 115, [], []))]
def k196_6 : List Ins := [(96, 2, .iload 6, (.null, 6, 0, [], [])), (98, 1, .iload_n 1, (.null, 1, 0, [], [])), (99, 3, .if_icmp .gt 70, (.null, 13, 32, [], [])), (102, 1, .aload_n 0, (.null, 0, 0, [], [])), (103, 3, .getfield 49, (.null, 11, 28, [], [941])), (106, 2, .bipush 6, (.int 6, 0, 0, [], [])), (108, 2, .iload 6, (.null, 6, 0, [], [])), (110, 1, .iadd, (.null, 0, 0, [], [])), (111, 1, .iaload, (.null, 0, 0, [], [])), (112, 3, .ifCond .le 12, (.null, 7, 115, [], [])), (115, 2, .iload 4, (.null, 4, 0, [], [])), (117, 3, .ifCond .le 7, (.null, 7, 115, [], [])), (120, 1, .iconst 1, (.int 1, 0, 0, [], [])), (121, 3, .goto 4, (.int 0, 8, 115, [], []))]
def k196_7 : List Ins := [(124, 1, .iconst 0, (.int 0, 0, 0, [], [])), (125, 0, .nop, (.null, 8, 115, [], []))]
def k196_8 : List Ins := [(125, 2, .istore 7, (.null, 7, 0, [], [])), (127, 2, .iload 4, (.null, 4, 0, [], [])), (129, 2, .iload 7, (.null, 7, 0, [], [])), (131, 3, .ifCond .eq 7, (.null, 9, 227, [], [])), (134, 1, .iconst 1, (.int 1, 0, 0, [], [])), (135, 3, .goto 4, (.int 0, 10, 227, [], []))]
def k196_9 : List Ins := [(138, 1, .iconst 0, (.int 0, 0, 0, [], [])), (139, 0, .nop, (.null, 10, 227, [], []))]
def k196_10 : List Ins := [(139, 1, .isub, (.null, 0, 0, [], [])), (140, 2, .istore 4, (.null, 4, 0, [], [])), (142, 2, .iload 5, (.null, 5, 0, [], [])), (144, 2, .iload 7, (.null, 7, 0, [], [])), (146, 3, .ifCond .eq 13, (.null, 11, 83, [], [])), (149, 2, .iload 6, (.null, 6, 0, [], [])), (151, 1, .iload_n 1, (.null, 1, 0, [], [])), (152, 3, .if_icmp .ne 7, (.null, 11, 83, [], [])), (155, 1, .iconst 1, (.int 1, 0, 0, [], [])), (156, 3, .goto 4, (.int 0, 12, 83, [], []))]
def k196_11 : List Ins := [(159, 1, .iconst 0, (.int 0, 0, 0, [], [])), (160, 0, .nop, (.null, 12, 83, [], []))]
def k196_12 : List Ins := [(160, 1, .iadd, (.null, 0, 0, [], [])), (161, 2, .istore 5, (.null, 5, 0, [], [])), (163, 3, .iinc 6 1, (.int 1, 6, 0, [], [])), (166, 3, .goto (-70), (.int 0, 6, 115, [], []))]
def k196_13 : List Ins := [(169, 2, .iload 5, (.null, 5, 0, [], [])), (171, 1, .ireturn, (.null, 0, 0, [], []))]
def m196 : MI := (yX12_share, cX12_share, 8, (some .int), [k196_0, k196_1, k196_2, k196_3, k196_4, k196_5, k196_6, k196_7, k196_8, k196_9, k196_10, k196_11, k196_12, k196_13])
def k197_0 : List Ins := [(0, 1, .iload_n 1, (.null, 1, 0, [], [])), (1, 1, .aload_n 0, (.null, 0, 0, [], [])), (2, 3, .getfield 159, (.int 0, 11, 5, [], [918])), (5, 3, .if_icmp .ne 5, (.null, 1, 3, [], [])), (8, 1, .iconst 1, (.int 1, 0, 0, [], [])), (9, 1, .ireturn, (.null, 1, 0, [], []))]
def k197_1 : List Ins := [(10, 1, .aload_n 0, (.null, 0, 0, [], [])), (11, 1, .iload_n 1, (.null, 1, 0, [], [])), (12, 3, .invokevirtual 224, (.null, 1, 1, [(11, 162, 2)], [1181, 1183, 49])), (15, 3, .ifCond .ne 5, (.null, 2, 3, [], [])), (18, 1, .iconst 0, (.int 0, 0, 0, [], [])), (19, 1, .ireturn, (.null, 1, 0, [], []))]
def k197_2 : List Ins := [(20, 1, .aload_n 0, (.null, 0, 0, [], [])), (21, 1, .iload_n 1, (.null, 1, 0, [], [])), (22, 3, .invokevirtual 227, (.null, 1, 0, [(11, 178, 2)], [1185, 1187, 50])), (25, 1, .iconst 1, (.int 1, 0, 0, [], [])), (26, 1, .ireturn, (.null, 1, 0, [], []))]
def m197 : MI := (yX12_porter, cX12_porter, 2, (some .boolean), [k197_0, k197_1, k197_2])
def k198_0 : List Ins := [(0, 1, .aload_n 0, (.null, 0, 0, [], [])), (1, 3, .getfield 49, (.null, 11, 28, [], [941])), (4, 2, .bipush 30, (.int 30, 0, 0, [], [])), (6, 1, .dup2, (.null, 0, 0, [], [])), (7, 1, .iaload, (.null, 0, 0, [], [])), (8, 1, .aload_n 0, (.null, 0, 0, [], [])), (9, 3, .getfield 49, (.null, 11, 28, [], [941])), (12, 2, .bipush 30, (.int 30, 0, 0, [], [])), (14, 1, .iaload, (.null, 0, 0, [], [])), (15, 1, .iconst 2, (.int 2, 0, 0, [], [])), (16, 3, .if_icmp .le 7, (.null, 1, 0, [], [])), (19, 1, .iload_n 1, (.null, 1, 0, [], [])), (20, 3, .goto 4, (.int 0, 2, 0, [], []))]
def k198_1 : List Ins := [(23, 1, .iconst 0, (.int 0, 0, 0, [], [])), (24, 0, .nop, (.null, 2, 0, [], []))]
def k198_2 : List Ins := [(24, 1, .isub, (.null, 0, 0, [], [])), (25, 1, .iastore, (.null, 0, 0, [], [])), (26, 1, .return_, (.null, 0, 0, [], []))]
def m198 : MI := (yX12_boy, cX12_boy, 2, none, [k198_0, k198_1, k198_2])
def k199_0 : List Ins := [(0, 1, .aload_n 0, (.null, 0, 0, [], [])), (1, 3, .invokevirtual 207, (.null, 0, 0, [(11, 156, 2)], [1120, 1122, 36])), (4, 1, .aload_n 0, (.null, 0, 0, [], [])), (5, 1, .iload_n 3, (.null, 3, 0, [], [])), (6, 3, .invokevirtual 268, (.null, 1, 1, [(11, 197, 2)], [1292, 1294, 58])), (9, 2, .istore 7, (.null, 7, 0, [], [])), (11, 1, .aload_n 0, (.null, 0, 0, [], [])), (12, 2, .iload 4, (.null, 4, 0, [], [])), (14, 3, .invokevirtual 271, (.null, 1, 0, [(11, 198, 2)], [1296, 1298, 59])), (17, 2, .iload 7, (.null, 7, 0, [], [])), (19, 3, .ifCond .eq 16, (.null, 1, 127, [], [])), (22, 1, .aload_n 0, (.null, 0, 0, [], [])), (23, 2, .iload 5, (.null, 5, 0, [], [])), (25, 3, .invokevirtual 268, (.null, 1, 1, [(11, 197, 2)], [1292, 1294, 58])), (28, 3, .ifCond .eq 7, (.null, 1, 127, [], [])), (31, 1, .iconst 1, (.int 1, 0, 0, [], [])), (32, 3, .goto 4, (.int 0, 2, 127, [], []))]
def k199_1 : List Ins := [(35, 1, .iconst 0, (.int 0, 0, 0, [], [])), (36, 0, .nop, (.null, 2, 127, [], []))]
def k199_2 : List Ins := [(36, 2, .istore 7, (.null, 7, 0, [], [])), (38, 1, .aload_n 0, (.null, 0, 0, [], [])), (39, 2, .iload 6, (.null, 6, 0, [], [])), (41, 3, .invokevirtual 271, (.null, 1, 0, [(11, 198, 2)], [1296, 1298, 59])), (44, 2, .iload 7, (.null, 7, 0, [], [])), (46, 3, .ifCond .eq 50, (.null, 6, 0, [], [])), (49, 1, .iload_n 1, (.null, 1, 0, [], [])), (50, 1, .iconst 1, (.int 1, 0, 0, [], [])), (51, 3, .if_icmp .ge 11, (.null, 3, 119, [], [])), (54, 1, .iload_n 3, (.null, 3, 0, [], [])), (55, 1, .aload_n 0, (.null, 0, 0, [], [])), (56, 3, .getfield 159, (.int 0, 11, 5, [], [918])), (59, 3, .if_icmp .lt 37, (.null, 6, 0, [], [])), (62, 0, .nop, (.null, 3, 119, [], []))]
def k199_3 : List Ins := [(62, 1, .iload_n 1, (.null, 1, 0, [], [])), (63, 1, .iconst 2, (.int 2, 0, 0, [], [])), (64, 3, .if_icmp .ge 8, (.null, 4, 103, [], [])), (67, 2, .iload 4, (.null, 4, 0, [], [])), (69, 3, .ifCond .gt 27, (.null, 6, 0, [], [])), (72, 0, .nop, (.null, 4, 103, [], []))]
def k199_4 : List Ins := [(72, 1, .iload_n 1, (.null, 1, 0, [], [])), (73, 1, .iconst 3, (.int 3, 0, 0, [], [])), (74, 3, .if_icmp .ge 12, (.null, 5, 71, [], [])), (77, 2, .iload 5, (.null, 5, 0, [], [])), (79, 1, .aload_n 0, (.null, 0, 0, [], [])), (80, 3, .getfield 159, (.int 0, 11, 5, [], [918])), (83, 3, .if_icmp .lt 13, (.null, 6, 0, [], [])), (86, 0, .nop, (.null, 5, 71, [], []))]
def k199_5 : List Ins := [(86, 1, .iload_n 1, (.null, 1, 0, [], [])), (87, 1, .iconst 4, (.int 4, 0, 0, [], [])), (88, 3, .if_icmp .ge 10, (.null, 7, 5, [], [])), (91, 2, .iload 6, (.null, 6, 0, [], [])), (93, 3, .ifCond .le 5, (.null, 7, 5, [], [])), (96, 0, .nop, (.null, 6, 0, [], []))]
def k199_6 : List Ins := [(96, 1, .iconst (-1), (.int (-1), 0, 0, [], [])), (97, 1, .ireturn, (.null, 0, 0, [], []))]
def k199_7 : List Ins := [(98, 1, .aload_n 0, (.null, 0, 0, [], [])), (99, 1, .iload_n 2, (.null, 2, 0, [], [])), (100, 3, .invokevirtual 210, (.null, 1, 0, [(11, 167, 3)], [1124, 1126, 37])), (103, 1, .aload_n 0, (.null, 0, 0, [], [])), (104, 3, .invokevirtual 216, (.null, 0, 1, [(11, 168, 3)], [1164, 1166, 47])), (107, 3, .invokestatic 258, (.null, 1, 1, [(0, 136, 3)], [1259, 1260])), (110, 1, .ireturn, (.null, 0, 0, [], []))]
def m199 : MI := (yX12_byMoves, cX12_byMoves, 8, (some .int), [k199_0, k199_1, k199_2, k199_3, k199_4, k199_5, k199_6, k199_7])
def k200_0 : List Ins := [(0, 1, .aload_n 0, (.null, 0, 0, [], [])), (1, 3, .getfield 162, (.int 0, 11, 6, [], [919])), (4, 3, .ifCond .ne 6, (.null, 1, 7, [], [])), (7, 2, .ldc 201, (.int (-1000002), 0, 0, [], [1110])), (9, 1, .ireturn, (.null, 0, 0, [], []))]
def k200_1 : List Ins := [(10, 1, .iload_n 1, (.null, 1, 0, [], [])), (11, 1, .i2l, (.null, 0, 0, [], [])), (12, 1, .lconst 0, (.long 0, 0, 0, [], [])), (13, 3, .ldc2_w 274, (.long 4, 0, 0, [], [1287])), (16, 3, .invokestatic 72, (.null, 3, 1, [(0, 134, 6)], [1027, 1028])), (19, 3, .ifCond .eq 15, (.null, 2, 0, [], [])), (22, 1, .iload_n 2, (.null, 2, 0, [], [])), (23, 1, .i2l, (.null, 0, 0, [], [])), (24, 1, .lconst 1, (.long 1, 0, 0, [], [])), (25, 3, .ldc2_w 219, (.long 20, 0, 0, [], [1172])), (28, 3, .invokestatic 72, (.null, 3, 1, [(0, 134, 6)], [1027, 1028])), (31, 3, .ifCond .ne 6, (.null, 3, 7, [], [])), (34, 0, .nop, (.null, 2, 0, [], []))]
def k200_2 : List Ins := [(34, 2, .ldc 82, (.int (-1000001), 0, 0, [], [1031])), (36, 1, .ireturn, (.null, 0, 0, [], []))]
def k200_3 : List Ins := [(37, 1, .iconst (-1), (.int (-1), 0, 0, [], [])), (38, 1, .istore_n 3, (.null, 3, 0, [], [])), (39, 1, .iconst 0, (.int 0, 0, 0, [], [])), (40, 2, .istore 4, (.null, 4, 0, [], [])), (42, 0, .nop, (.null, 4, 31, [], []))]
def k200_4 : List Ins := [(42, 2, .iload 4, (.null, 4, 0, [], [])), (44, 1, .aload_n 0, (.null, 0, 0, [], [])), (45, 3, .getfield 159, (.int 0, 11, 5, [], [918])), (48, 3, .if_icmp .gt 169, (.null, 19, 8, [], [])), (51, 2, .bipush 7, (.int 7, 0, 0, [], [])), (53, 2, .istore 5, (.null, 5, 0, [], [])), (55, 1, .iconst 0, (.int 0, 0, 0, [], [])), (56, 2, .istore 6, (.null, 6, 0, [], [])), (58, 0, .nop, (.null, 5, 127, [], []))]
def k200_5 : List Ins := [(58, 2, .iload 6, (.null, 6, 0, [], [])), (60, 1, .iconst 2, (.int 2, 0, 0, [], [])), (61, 3, .if_icmp .ge 130, (.null, 16, 63, [], [])), (64, 1, .iconst (-1), (.int (-1), 0, 0, [], [])), (65, 2, .istore 7, (.null, 7, 0, [], [])), (67, 1, .iconst 0, (.int 0, 0, 0, [], [])), (68, 2, .istore 8, (.null, 8, 0, [], [])), (70, 0, .nop, (.null, 6, 511, [], []))]
def k200_6 : List Ins := [(70, 2, .iload 8, (.null, 8, 0, [], [])), (72, 1, .aload_n 0, (.null, 0, 0, [], [])), (73, 3, .getfield 159, (.int 0, 11, 5, [], [918])), (76, 3, .if_icmp .gt 88, (.null, 13, 255, [], [])), (79, 2, .bipush 7, (.int 7, 0, 0, [], [])), (81, 2, .istore 9, (.null, 9, 0, [], [])), (83, 1, .iconst 0, (.int 0, 0, 0, [], [])), (84, 2, .istore 10, (.null, 10, 0, [], [])), (86, 0, .nop, (.null, 7, 2047, [], []))]
def k200_7 : List Ins := [(86, 2, .iload 10, (.null, 10, 0, [], [])), (88, 1, .iconst 2, (.int 2, 0, 0, [], [])), (89, 3, .if_icmp .ge 46, (.null, 10, 1023, [], [])), (92, 1, .aload_n 0, (.null, 0, 0, [], [])), (93, 1, .iload_n 1, (.null, 1, 0, [], [])), (94, 1, .iload_n 2, (.null, 2, 0, [], [])), (95, 2, .iload 4, (.null, 4, 0, [], [])), (97, 2, .iload 6, (.null, 6, 0, [], [])), (99, 2, .iload 8, (.null, 8, 0, [], [])), (101, 2, .iload 10, (.null, 10, 0, [], [])), (103, 3, .invokevirtual 276, (.null, 6, 1, [(11, 199, 8)], [1288, 1290, 57])), (106, 2, .istore 11, (.null, 11, 0, [], [])), (108, 2, .iload 11, (.null, 11, 0, [], [])), (110, 3, .ifCond .lt 15, (.null, 8, 2047, [], [])), (113, 2, .iload 11, (.null, 11, 0, [], [])), (115, 2, .iload 9, (.null, 9, 0, [], [])), (117, 3, .if_icmp .ge 8, (.null, 8, 2047, [], [])), (120, 2, .iload 11, (.null, 11, 0, [], [])), (122, 3, .goto 5, (.int 0, 9, 1535, [], []))]
def k200_8 : List Ins := [(125, 2, .iload 9, (.null, 9, 0, [], [])), (127, 0, .nop, (.null, 9, 1535, [], []))]
def k200_9 : List Ins := [(127, 2, .istore 9, (.null, 9, 0, [], [])), (129, 3, .iinc 10 1, (.int 1, 10, 0, [], [])), (132, 3, .goto (-46), (.int 0, 7, 2047, [], []))]
def k200_10 : List Ins := [(135, 2, .iload 9, (.null, 9, 0, [], [])), (137, 2, .bipush 7, (.int 7, 0, 0, [], [])), (139, 3, .if_icmp .ge 15, (.null, 11, 511, [], [])), (142, 2, .iload 9, (.null, 9, 0, [], [])), (144, 2, .iload 7, (.null, 7, 0, [], [])), (146, 3, .if_icmp .le 8, (.null, 11, 511, [], [])), (149, 2, .iload 9, (.null, 9, 0, [], [])), (151, 3, .goto 5, (.int 0, 12, 383, [], []))]
def k200_11 : List Ins := [(154, 2, .iload 7, (.null, 7, 0, [], [])), (156, 0, .nop, (.null, 12, 383, [], []))]
def k200_12 : List Ins := [(156, 2, .istore 7, (.null, 7, 0, [], [])), (158, 3, .iinc 8 1, (.int 1, 8, 0, [], [])), (161, 3, .goto (-91), (.int 0, 6, 511, [], []))]
def k200_13 : List Ins := [(164, 2, .iload 7, (.null, 7, 0, [], [])), (166, 3, .ifCond .lt 15, (.null, 14, 127, [], [])), (169, 2, .iload 7, (.null, 7, 0, [], [])), (171, 2, .iload 5, (.null, 5, 0, [], [])), (173, 3, .if_icmp .ge 8, (.null, 14, 127, [], [])), (176, 2, .iload 7, (.null, 7, 0, [], [])), (178, 3, .goto 5, (.int 0, 15, 95, [], []))]
def k200_14 : List Ins := [(181, 2, .iload 5, (.null, 5, 0, [], [])), (183, 0, .nop, (.null, 15, 95, [], []))]
def k200_15 : List Ins := [(183, 2, .istore 5, (.null, 5, 0, [], [])), (185, 3, .iinc 6 1, (.int 1, 6, 0, [], [])), (188, 3, .goto (-130), (.int 0, 5, 127, [], []))]
def k200_16 : List Ins := [(191, 2, .iload 5, (.null, 5, 0, [], [])), (193, 2, .bipush 7, (.int 7, 0, 0, [], [])), (195, 3, .if_icmp .ge 14, (.null, 17, 31, [], [])), (198, 2, .iload 5, (.null, 5, 0, [], [])), (200, 1, .iload_n 3, (.null, 3, 0, [], [])), (201, 3, .if_icmp .le 8, (.null, 17, 31, [], [])), (204, 2, .iload 5, (.null, 5, 0, [], [])), (206, 3, .goto 4, (.int 0, 18, 23, [], []))]
def k200_17 : List Ins := [(209, 1, .iload_n 3, (.null, 3, 0, [], [])), (210, 0, .nop, (.null, 18, 23, [], []))]
def k200_18 : List Ins := [(210, 1, .istore_n 3, (.null, 3, 0, [], [])), (211, 3, .iinc 4 1, (.int 1, 4, 0, [], [])), (214, 3, .goto (-172), (.int 0, 4, 31, [], []))]
def k200_19 : List Ins := [(217, 1, .iload_n 3, (.null, 3, 0, [], [])), (218, 1, .ireturn, (.null, 0, 0, [], []))]
def m200 : MI := (yX12_byTurns, cX12_byTurns, 12, (some .int), [k200_0, k200_1, k200_2, k200_3, k200_4, k200_5, k200_6, k200_7, k200_8, k200_9, k200_10, k200_11, k200_12, k200_13, k200_14, k200_15, k200_16, k200_17, k200_18, k200_19])
def k201_0 : List Ins := [(0, 1, .aload_n 0, (.null, 0, 0, [], [])), (1, 3, .invokevirtual 195, (.null, 0, 0, [(11, 165, 2)], [1128, 1130, 38])), (4, 1, .iconst 1, (.int 1, 0, 0, [], [])), (5, 2, .istore 4, (.null, 4, 0, [], [])), (7, 1, .iconst 0, (.int 0, 0, 0, [], [])), (8, 2, .istore 5, (.null, 5, 0, [], [])), (10, 0, .nop, (.null, 1, 63, [], []))]
def k201_1 : List Ins := [(10, 2, .iload 5, (.null, 5, 0, [], [])), (12, 1, .iload_n 3, (.null, 3, 0, [], [])), (13, 3, .if_icmp .ge 76, (.null, 4, 16, [], [])), (16, 1, .aload_n 0, (.null, 0, 0, [], [])), (17, 3, .invokevirtual 198, (.null, 0, 0, [(11, 166, 4)], [1132, 1134, 39])), (20, 1, .aload_n 0, (.null, 0, 0, [], [])), (21, 3, .invokevirtual 216, (.null, 0, 1, [(11, 168, 3)], [1164, 1166, 47])), (24, 3, .invokestatic 258, (.null, 1, 1, [(0, 136, 3)], [1259, 1260])), (27, 2, .istore 6, (.null, 6, 0, [], [])), (29, 1, .aload_n 0, (.null, 0, 0, [], [])), (30, 3, .getfield 159, (.int 0, 11, 5, [], [918])), (33, 2, .iload 6, (.null, 6, 0, [], [])), (35, 1, .isub, (.null, 0, 0, [], [])), (36, 1, .aload_n 0, (.null, 0, 0, [], [])), (37, 3, .invokevirtual 237, (.null, 0, 1, [(11, 169, 3)], [1201, 1203, 53])), (40, 3, .invokestatic 258, (.null, 1, 1, [(0, 136, 3)], [1259, 1260])), (43, 1, .isub, (.null, 0, 0, [], [])), (44, 2, .istore 7, (.null, 7, 0, [], [])), (46, 2, .iload 4, (.null, 4, 0, [], [])), (48, 3, .ifCond .eq 32, (.null, 2, 47, [], [])), (51, 1, .aload_n 0, (.null, 0, 0, [], [])), (52, 3, .getfield 7, (.null, 11, 0, [], [913])), (55, 2, .bipush 40, (.int 40, 0, 0, [], [])), (57, 1, .iload_n 1, (.null, 1, 0, [], [])), (58, 1, .imul, (.null, 0, 0, [], [])), (59, 1, .iload_n 2, (.null, 2, 0, [], [])), (60, 1, .iadd, (.null, 0, 0, [], [])), (61, 2, .iload 5, (.null, 5, 0, [], [])), (63, 1, .iadd, (.null, 0, 0, [], [])), (64, 1, .iaload, (.null, 0, 0, [], [])), (65, 2, .iload 7, (.null, 7, 0, [], [])), (67, 2, .bipush 10, (.int 10, 0, 0, [], [])), (69, 2, .iload 6, (.null, 6, 0, [], [])), (71, 1, .imul, (.null, 0, 0, [], [])), (72, 1, .iadd, (.null, 0, 0, [], [])), (73, 3, .if_icmp .ne 7, (.null, 2, 47, [], [])), (76, 1, .iconst 1, (.int 1, 0, 0, [], [])), (77, 3, .goto 4, (.int 0, 3, 47, [], []))]
def k201_2 : List Ins := [(80, 1, .iconst 0, (.int 0, 0, 0, [], [])), (81, 0, .nop, (.null, 3, 47, [], []))]
def k201_3 : List Ins := [(81, 2, .istore 4, (.null, 4, 0, [], [])), (83, 3, .iinc 5 1, (.int 1, 5, 0, [], [])), (86, 3, .goto (-76), (.int 0, 1, 63, [], []))]
def k201_4 : List Ins := [(89, 2, .iload 4, (.null, 4, 0, [], [])), (91, 1, .ireturn, (.null, 1, 0, [], []))]
def m201 : MI := (yX12_isRowSo, cX12_isRowSo, 8, (some .boolean), [k201_0, k201_1, k201_2, k201_3, k201_4])
def k202_0 : List Ins := [(0, 1, .iconst 0, (.int 0, 0, 0, [], [])), (1, 2, .istore 5, (.null, 5, 0, [], [])), (3, 1, .aload_n 0, (.null, 0, 0, [], [])), (4, 1, .aload_n 0, (.null, 0, 0, [], [])), (5, 3, .getfield 22, (.null, 11, 8, [], [921])), (8, 1, .iload_n 1, (.null, 1, 0, [], [])), (9, 1, .iaload, (.null, 0, 0, [], [])), (10, 3, .putfield 172, (.int 0, 11, 31, [], [944])), (13, 1, .iconst 1, (.int 1, 0, 0, [], [])), (14, 2, .istore 6, (.null, 6, 0, [], [])), (16, 0, .nop, (.null, 1, 127, [], []))]
def k202_1 : List Ins := [(16, 2, .iload 6, (.null, 6, 0, [], [])), (18, 2, .bipush 6, (.int 6, 0, 0, [], [])), (20, 3, .if_icmp .ge 48, (.null, 4, 33, [], [])), (23, 1, .aload_n 0, (.null, 0, 0, [], [])), (24, 1, .iload_n 1, (.null, 1, 0, [], [])), (25, 3, .putfield 53, (.int 0, 11, 29, [], [942])), (28, 1, .aload_n 0, (.null, 0, 0, [], [])), (29, 2, .iload 6, (.null, 6, 0, [], [])), (31, 3, .putfield 169, (.int 0, 11, 30, [], [943])), (34, 1, .aload_n 0, (.null, 0, 0, [], [])), (35, 3, .invokevirtual 207, (.null, 0, 0, [(11, 156, 2)], [1120, 1122, 36])), (38, 2, .iload 5, (.null, 5, 0, [], [])), (40, 1, .aload_n 0, (.null, 0, 0, [], [])), (41, 1, .iload_n 2, (.null, 2, 0, [], [])), (42, 1, .iload_n 3, (.null, 3, 0, [], [])), (43, 2, .iload 4, (.null, 4, 0, [], [])), (45, 3, .invokevirtual 280, (.null, 3, 1, [(11, 201, 8)], [1309, 1311, 61])), (48, 3, .ifCond .eq 10, (.null, 2, 95, [], [])), (51, 1, .iconst 1, (.int 1, 0, 0, [], [])), (52, 2, .iload 6, (.null, 6, 0, [], [])), (54, 1, .ishl, (.null, 0, 0, [], [])), (55, 3, .goto 4, (.int 0, 3, 95, [], []))]
def k202_2 : List Ins := [(58, 1, .iconst 0, (.int 0, 0, 0, [], [])), (59, 0, .nop, (.null, 3, 95, [], []))]
def k202_3 : List Ins := [(59, 1, .ior, (.null, 0, 0, [], [])), (60, 2, .istore 5, (.null, 5, 0, [], [])), (62, 3, .iinc 6 1, (.int 1, 6, 0, [], [])), (65, 3, .goto (-49), (.int 0, 1, 127, [], []))]
def k202_4 : List Ins := [(68, 1, .aload_n 0, (.null, 0, 0, [], [])), (69, 2, .ldc 52, (.int (-1000000), 0, 0, [], [912])), (71, 3, .putfield 53, (.int 0, 11, 29, [], [942])), (74, 2, .iload 5, (.null, 5, 0, [], [])), (76, 1, .ireturn, (.null, 0, 0, [], []))]
def m202 : MI := (yX12_kindSet, cX12_kindSet, 7, (some .int), [k202_0, k202_1, k202_2, k202_3, k202_4])
def k203_0 : List Ins := [(0, 1, .iconst 0, (.int 0, 0, 0, [], [])), (1, 2, .istore 5, (.null, 5, 0, [], [])), (3, 1, .aload_n 0, (.null, 0, 0, [], [])), (4, 1, .aload_n 0, (.null, 0, 0, [], [])), (5, 3, .getfield 19, (.null, 11, 7, [], [920])), (8, 1, .iload_n 1, (.null, 1, 0, [], [])), (9, 1, .iaload, (.null, 0, 0, [], [])), (10, 3, .putfield 169, (.int 0, 11, 30, [], [943])), (13, 1, .iconst 1, (.int 1, 0, 0, [], [])), (14, 2, .istore 6, (.null, 6, 0, [], [])), (16, 0, .nop, (.null, 1, 127, [], []))]
def k203_1 : List Ins := [(16, 2, .iload 6, (.null, 6, 0, [], [])), (18, 2, .bipush 10, (.int 10, 0, 0, [], [])), (20, 3, .if_icmp .ge 48, (.null, 4, 33, [], [])), (23, 1, .aload_n 0, (.null, 0, 0, [], [])), (24, 1, .iload_n 1, (.null, 1, 0, [], [])), (25, 3, .putfield 53, (.int 0, 11, 29, [], [942])), (28, 1, .aload_n 0, (.null, 0, 0, [], [])), (29, 2, .iload 6, (.null, 6, 0, [], [])), (31, 3, .putfield 172, (.int 0, 11, 31, [], [944])), (34, 1, .aload_n 0, (.null, 0, 0, [], [])), (35, 3, .invokevirtual 207, (.null, 0, 0, [(11, 156, 2)], [1120, 1122, 36])), (38, 2, .iload 5, (.null, 5, 0, [], [])), (40, 1, .aload_n 0, (.null, 0, 0, [], [])), (41, 1, .iload_n 2, (.null, 2, 0, [], [])), (42, 1, .iload_n 3, (.null, 3, 0, [], [])), (43, 2, .iload 4, (.null, 4, 0, [], [])), (45, 3, .invokevirtual 280, (.null, 3, 1, [(11, 201, 8)], [1309, 1311, 61])), (48, 3, .ifCond .eq 10, (.null, 2, 95, [], [])), (51, 1, .iconst 1, (.int 1, 0, 0, [], [])), (52, 2, .iload 6, (.null, 6, 0, [], [])), (54, 1, .ishl, (.null, 0, 0, [], [])), (55, 3, .goto 4, (.int 0, 3, 95, [], []))]
def k203_2 : List Ins := [(58, 1, .iconst 0, (.int 0, 0, 0, [], [])), (59, 0, .nop, (.null, 3, 95, [], []))]
def k203_3 : List Ins := [(59, 1, .ior, (.null, 0, 0, [], [])), (60, 2, .istore 5, (.null, 5, 0, [], [])), (62, 3, .iinc 6 1, (.int 1, 6, 0, [], [])), (65, 3, .goto (-49), (.int 0, 1, 127, [], []))]
def k203_4 : List Ins := [(68, 1, .aload_n 0, (.null, 0, 0, [], [])), (69, 2, .ldc 52, (.int (-1000000), 0, 0, [], [912])), (71, 3, .putfield 53, (.int 0, 11, 29, [], [942])), (74, 2, .iload 5, (.null, 5, 0, [], [])), (76, 1, .ireturn, (.null, 0, 0, [], []))]
def m203 : MI := (yX12_thickSet, cX12_thickSet, 7, (some .int), [k203_0, k203_1, k203_2, k203_3, k203_4])
def k204_0 : List Ins := [(0, 1, .iconst 0, (.int 0, 0, 0, [], [])), (1, 2, .istore 5, (.null, 5, 0, [], [])), (3, 1, .iconst 0, (.int 0, 0, 0, [], [])), (4, 2, .istore 6, (.null, 6, 0, [], [])), (6, 0, .nop, (.null, 1, 127, [], []))]
def k204_1 : List Ins := [(6, 2, .iload 6, (.null, 6, 0, [], [])), (8, 1, .aload_n 0, (.null, 0, 0, [], [])), (9, 3, .getfield 156, (.int 0, 11, 4, [], [917])), (12, 3, .if_icmp .ge 48, (.null, 4, 32, [], [])), (15, 1, .aload_n 0, (.null, 0, 0, [], [])), (16, 3, .invokevirtual 207, (.null, 0, 0, [(11, 156, 2)], [1120, 1122, 36])), (19, 1, .aload_n 0, (.null, 0, 0, [], [])), (20, 3, .getfield 49, (.null, 11, 28, [], [941])), (23, 2, .bipush 24, (.int 24, 0, 0, [], [])), (25, 1, .iload_n 1, (.null, 1, 0, [], [])), (26, 1, .iadd, (.null, 0, 0, [], [])), (27, 2, .iload 6, (.null, 6, 0, [], [])), (29, 1, .iastore, (.null, 0, 0, [], [])), (30, 2, .iload 5, (.null, 5, 0, [], [])), (32, 1, .aload_n 0, (.null, 0, 0, [], [])), (33, 1, .iload_n 2, (.null, 2, 0, [], [])), (34, 1, .iload_n 3, (.null, 3, 0, [], [])), (35, 2, .iload 4, (.null, 4, 0, [], [])), (37, 3, .invokevirtual 280, (.null, 3, 1, [(11, 201, 8)], [1309, 1311, 61])), (40, 3, .ifCond .eq 10, (.null, 2, 95, [], [])), (43, 1, .iconst 1, (.int 1, 0, 0, [], [])), (44, 2, .iload 6, (.null, 6, 0, [], [])), (46, 1, .ishl, (.null, 0, 0, [], [])), (47, 3, .goto 4, (.int 0, 3, 95, [], []))]
def k204_2 : List Ins := [(50, 1, .iconst 0, (.int 0, 0, 0, [], [])), (51, 0, .nop, (.null, 3, 95, [], []))]
def k204_3 : List Ins := [(51, 1, .ior, (.null, 0, 0, [], [])), (52, 2, .istore 5, (.null, 5, 0, [], [])), (54, 3, .iinc 6 1, (.int 1, 6, 0, [], [])), (57, 3, .goto (-51), (.int 0, 1, 127, [], []))]
def k204_4 : List Ins := [(60, 2, .iload 5, (.null, 5, 0, [], [])), (62, 1, .ireturn, (.null, 0, 0, [], []))]
def m204 : MI := (yX12_floorSet, cX12_floorSet, 7, (some .int), [k204_0, k204_1, k204_2, k204_3, k204_4])
def k205_0 : List Ins := [(0, 1, .iconst 0, (.int 0, 0, 0, [], [])), (1, 2, .istore 4, (.null, 4, 0, [], [])), (3, 1, .iconst 2, (.int 2, 0, 0, [], [])), (4, 2, .istore 5, (.null, 5, 0, [], [])), (6, 0, .nop, (.null, 1, 63, [], []))]
def k205_1 : List Ins := [(6, 2, .iload 5, (.null, 5, 0, [], [])), (8, 2, .bipush 21, (.int 21, 0, 0, [], [])), (10, 3, .if_icmp .ge 45, (.null, 4, 16, [], [])), (13, 1, .aload_n 0, (.null, 0, 0, [], [])), (14, 3, .invokevirtual 207, (.null, 0, 0, [(11, 156, 2)], [1120, 1122, 36])), (17, 1, .aload_n 0, (.null, 0, 0, [], [])), (18, 3, .getfield 49, (.null, 11, 28, [], [941])), (21, 2, .bipush 30, (.int 30, 0, 0, [], [])), (23, 2, .iload 5, (.null, 5, 0, [], [])), (25, 1, .iastore, (.null, 0, 0, [], [])), (26, 2, .iload 4, (.null, 4, 0, [], [])), (28, 1, .aload_n 0, (.null, 0, 0, [], [])), (29, 1, .iload_n 1, (.null, 1, 0, [], [])), (30, 1, .iload_n 2, (.null, 2, 0, [], [])), (31, 1, .iload_n 3, (.null, 3, 0, [], [])), (32, 3, .invokevirtual 280, (.null, 3, 1, [(11, 201, 8)], [1309, 1311, 61])), (35, 3, .ifCond .eq 10, (.null, 2, 47, [], [])), (38, 1, .iconst 1, (.int 1, 0, 0, [], [])), (39, 2, .iload 5, (.null, 5, 0, [], [])), (41, 1, .ishl, (.null, 0, 0, [], [])), (42, 3, .goto 4, (.int 0, 3, 47, [], []))]
def k205_2 : List Ins := [(45, 1, .iconst 0, (.int 0, 0, 0, [], [])), (46, 0, .nop, (.null, 3, 47, [], []))]
def k205_3 : List Ins := [(46, 1, .ior, (.null, 0, 0, [], [])), (47, 2, .istore 4, (.null, 4, 0, [], [])), (49, 3, .iinc 5 1, (.int 1, 5, 0, [], [])), (52, 3, .goto (-46), (.int 0, 1, 63, [], []))]
def k205_4 : List Ins := [(55, 2, .iload 4, (.null, 4, 0, [], [])), (57, 1, .ireturn, (.null, 0, 0, [], []))]
def m205 : MI := (yX12_wideSet, cX12_wideSet, 6, (some .int), [k205_0, k205_1, k205_2, k205_3, k205_4])
def k206_0 : List Ins := [(0, 1, .aload_n 0, (.null, 0, 0, [], [])), (1, 1, .iload_n 1, (.null, 1, 0, [], [])), (2, 3, .invokevirtual 221, (.null, 1, 1, [(11, 172, 2)], [1177, 1179, 48])), (5, 3, .ifCond .eq 35, (.null, 1, 0, [], [])), (8, 1, .iload_n 2, (.null, 2, 0, [], [])), (9, 1, .i2l, (.null, 0, 0, [], [])), (10, 1, .lconst 0, (.long 0, 0, 0, [], [])), (11, 3, .ldc2_w 274, (.long 4, 0, 0, [], [1287])), (14, 3, .invokestatic 72, (.null, 3, 1, [(0, 134, 6)], [1027, 1028])), (17, 3, .ifCond .eq 23, (.null, 1, 0, [], [])), (20, 1, .iload_n 3, (.null, 3, 0, [], [])), (21, 3, .invokestatic 76, (.null, 1, 1, [(0, 139, 1)], [1023, 1024])), (24, 3, .ifCond .eq 16, (.null, 1, 0, [], [])), (27, 2, .iload 5, (.null, 5, 0, [], [])), (29, 1, .i2l, (.null, 0, 0, [], [])), (30, 1, .lconst 1, (.long 1, 0, 0, [], [])), (31, 3, .ldc2_w 283, (.long 12, 0, 0, [], [1304])), (34, 3, .invokestatic 72, (.null, 3, 1, [(0, 134, 6)], [1027, 1028])), (37, 3, .ifCond .ne 6, (.null, 2, 63, [], [])), (40, 0, .nop, (.null, 1, 0, [], []))]
def k206_1 : List Ins := [(40, 2, .ldc 82, (.int (-1000001), 0, 0, [], [1031])), (42, 1, .ireturn, (.null, 0, 0, [], []))]
def k206_2 : List Ins := [(43, 1, .aload_n 0, (.null, 0, 0, [], [])), (44, 3, .getfield 16, (.null, 11, 2, [], [915])), (47, 1, .iload_n 3, (.null, 3, 0, [], [])), (48, 1, .iaload, (.null, 0, 0, [], [])), (49, 3, .ifCond .ge 9, (.null, 3, 63, [], [])), (52, 1, .aload_n 0, (.null, 0, 0, [], [])), (53, 1, .iconst 1, (.int 1, 0, 0, [], [])), (54, 3, .invokevirtual 83, (.null, 1, 1, [(11, 137, 2)], [1032, 1034, 26])), (57, 1, .ireturn, (.null, 0, 0, [], []))]
def k206_3 : List Ins := [(58, 1, .aload_n 0, (.null, 0, 0, [], [])), (59, 1, .iload_n 3, (.null, 3, 0, [], [])), (60, 2, .iload 4, (.null, 4, 0, [], [])), (62, 2, .iload 5, (.null, 5, 0, [], [])), (64, 3, .invokevirtual 90, (.null, 3, 1, [(11, 142, 4)], [1049, 1051, 28])), (67, 3, .ifCond .ne 9, (.null, 4, 63, [], [])), (70, 1, .aload_n 0, (.null, 0, 0, [], [])), (71, 1, .iconst 2, (.int 2, 0, 0, [], [])), (72, 3, .invokevirtual 83, (.null, 1, 1, [(11, 137, 2)], [1032, 1034, 26])), (75, 1, .ireturn, (.null, 0, 0, [], []))]
def k206_4 : List Ins := [(76, 1, .iload_n 2, (.null, 2, 0, [], [])), (77, 1, .iconst 3, (.int 3, 0, 0, [], [])), (78, 3, .if_icmp .ge 53, (.null, 8, 61, [], [])), (81, 1, .aload_n 0, (.null, 0, 0, [], [])), (82, 1, .iload_n 2, (.null, 2, 0, [], [])), (83, 3, .ifCond .ne 16, (.null, 5, 63, [], [])), (86, 1, .aload_n 0, (.null, 0, 0, [], [])), (87, 1, .iload_n 1, (.null, 1, 0, [], [])), (88, 1, .iload_n 3, (.null, 3, 0, [], [])), (89, 2, .iload 4, (.null, 4, 0, [], [])), (91, 2, .iload 5, (.null, 5, 0, [], [])), (93, 3, .invokevirtual 285, (.null, 4, 1, [(11, 202, 7)], [1305, 1307, 60])), (96, 3, .goto 31, (.int 0, 7, 0, [], []))]
def k206_5 : List Ins := [(99, 1, .iload_n 2, (.null, 2, 0, [], [])), (100, 1, .iconst 1, (.int 1, 0, 0, [], [])), (101, 3, .if_icmp .ne 16, (.null, 6, 59, [], [])), (104, 1, .aload_n 0, (.null, 0, 0, [], [])), (105, 1, .iload_n 1, (.null, 1, 0, [], [])), (106, 1, .iload_n 3, (.null, 3, 0, [], [])), (107, 2, .iload 4, (.null, 4, 0, [], [])), (109, 2, .iload 5, (.null, 5, 0, [], [])), (111, 3, .invokevirtual 289, (.null, 4, 1, [(11, 203, 7)], [1313, 1315, 62])), (114, 3, .goto 13, (.int 0, 7, 0, [], []))]
def k206_6 : List Ins := [(117, 1, .aload_n 0, (.null, 0, 0, [], [])), (118, 1, .iload_n 1, (.null, 1, 0, [], [])), (119, 1, .iload_n 3, (.null, 3, 0, [], [])), (120, 2, .iload 4, (.null, 4, 0, [], [])), (122, 2, .iload 5, (.null, 5, 0, [], [])), (124, 3, .invokevirtual 292, (.null, 4, 1, [(11, 204, 7)], [1317, 1319, 63])), (127, 0, .nop, (.null, 7, 0, [], []))]
def k206_7 : List Ins := [(127, 3, .invokevirtual 87, (.null, 1, 1, [(11, 138, 2)], [1037, 1039, 27])), (130, 1, .ireturn, (.null, 0, 0, [], []))]
def k206_8 : List Ins := [(131, 1, .aload_n 0, (.null, 0, 0, [], [])), (132, 1, .iload_n 3, (.null, 3, 0, [], [])), (133, 2, .iload 4, (.null, 4, 0, [], [])), (135, 2, .iload 5, (.null, 5, 0, [], [])), (137, 3, .invokevirtual 295, (.null, 3, 1, [(11, 205, 6)], [1321, 1323, 64])), (140, 2, .istore 6, (.null, 6, 0, [], [])), (142, 1, .iload_n 2, (.null, 2, 0, [], [])), (143, 1, .iconst 3, (.int 3, 0, 0, [], [])), (144, 3, .if_icmp .ne 13, (.null, 9, 65, [], [])), (147, 1, .aload_n 0, (.null, 0, 0, [], [])), (148, 2, .iload 6, (.null, 6, 0, [], [])), (150, 3, .invokestatic 258, (.null, 1, 1, [(0, 136, 3)], [1259, 1260])), (153, 3, .invokevirtual 87, (.null, 1, 1, [(11, 138, 2)], [1037, 1039, 27])), (156, 1, .ireturn, (.null, 0, 0, [], []))]
def k206_9 : List Ins := [(157, 1, .iconst 2, (.int 2, 0, 0, [], [])), (158, 2, .istore 7, (.null, 7, 0, [], [])), (160, 0, .nop, (.null, 10, 193, [], []))]
def k206_10 : List Ins := [(160, 2, .iload 7, (.null, 7, 0, [], [])), (162, 2, .bipush 21, (.int 21, 0, 0, [], [])), (164, 3, .if_icmp .ge 19, (.null, 11, 129, [], [])), (167, 2, .iload 6, (.null, 6, 0, [], [])), (169, 2, .iload 7, (.null, 7, 0, [], [])), (171, 3, .invokestatic 263, (.null, 2, 1, [(0, 135, 2)], [1275, 1276])), (174, 3, .ifCond .ne 9, (.null, 11, 129, [], [])), (177, 3, .iinc 7 1, (.int 1, 7, 0, [], [])), (180, 3, .goto (-20), (.int 0, 10, 193, [], []))]
def k206_11 : List Ins := [(183, 1, .aload_n 0, (.null, 0, 0, [], [])), (184, 2, .iload 7, (.null, 7, 0, [], [])), (186, 2, .bipush 21, (.int 21, 0, 0, [], [])), (188, 3, .if_icmp .ne 8, (.null, 12, 128, [], [])), (191, 2, .ldc 52, (.int (-1000000), 0, 0, [], [912])), (193, 3, .goto 5, (.int 0, 13, 0, [], []))]
def k206_12 : List Ins := [(196, 2, .iload 7, (.null, 7, 0, [], [])), (198, 0, .nop, (.null, 13, 0, [], []))]
def k206_13 : List Ins := [(198, 3, .invokevirtual 87, (.null, 1, 1, [(11, 138, 2)], [1037, 1039, 27])), (201, 1, .ireturn, (.null, 0, 0, [], []))]
def m206 : MI := (yX12_who, cX12_who, 8, (some .int), [k206_0, k206_1, k206_2, k206_3, k206_4, k206_5, k206_6, k206_7, k206_8, k206_9, k206_10, k206_11, k206_12, k206_13])
def k207_0 : List Ins := [(0, 1, .aload_n 0, (.null, 0, 0, [], [])), (1, 1, .iload_n 1, (.null, 1, 0, [], [])), (2, 3, .invokevirtual 221, (.null, 1, 1, [(11, 172, 2)], [1177, 1179, 48])), (5, 3, .ifCond .eq 33, (.null, 1, 0, [], [])), (8, 1, .iload_n 2, (.null, 2, 0, [], [])), (9, 3, .invokestatic 247, (.null, 1, 1, [(0, 185, 1)], [1226, 1227])), (12, 3, .ifCond .eq 26, (.null, 1, 0, [], [])), (15, 1, .iload_n 3, (.null, 3, 0, [], [])), (16, 1, .i2l, (.null, 0, 0, [], [])), (17, 1, .lconst 0, (.long 0, 0, 0, [], [])), (18, 3, .ldc2_w 299, (.long 10, 0, 0, [], [1329])), (21, 3, .invokestatic 72, (.null, 3, 1, [(0, 134, 6)], [1027, 1028])), (24, 3, .ifCond .eq 14, (.null, 1, 0, [], [])), (27, 2, .iload 4, (.null, 4, 0, [], [])), (29, 1, .i2l, (.null, 0, 0, [], [])), (30, 1, .lconst 0, (.long 0, 0, 0, [], [])), (31, 1, .lconst 1, (.long 1, 0, 0, [], [])), (32, 3, .invokestatic 72, (.null, 3, 1, [(0, 134, 6)], [1027, 1028])), (35, 3, .ifCond .ne 7, (.null, 2, 31, [], [])), (38, 0, .nop, (.null, 1, 0, [], []))]
def k207_1 : List Ins := [(38, 3, .ldc2_w 301, (.long (-1000001), 0, 0, [], [1330])), (41, 1, .lreturn, (.null, 0, 0, [], []))]
def k207_2 : List Ins := [(42, 1, .aload_n 0, (.null, 0, 0, [], [])), (43, 3, .invokevirtual 207, (.null, 0, 0, [(11, 156, 2)], [1120, 1122, 36])), (46, 1, .aload_n 0, (.null, 0, 0, [], [])), (47, 3, .invokevirtual 237, (.null, 0, 1, [(11, 169, 3)], [1201, 1203, 53])), (50, 2, .istore 5, (.null, 5, 0, [], [])), (52, 1, .lconst 0, (.long 0, 0, 0, [], [])), (53, 2, .lstore 6, (.null, 6, 0, [], [])), (55, 1, .lconst 0, (.long 0, 0, 0, [], [])), (56, 2, .lstore 8, (.null, 8, 0, [], [])), (58, 1, .iconst 0, (.int 0, 0, 0, [], [])), (59, 2, .istore 10, (.null, 10, 0, [], [])), (61, 0, .nop, (.null, 3, 1407, [], []))]
def k207_3 : List Ins := [(61, 2, .iload 10, (.null, 10, 0, [], [])), (63, 2, .bipush 64, (.int 64, 0, 0, [], [])), (65, 3, .if_icmp .ge 146, (.null, 14, 336, [], [])), (68, 2, .iload 10, (.null, 10, 0, [], [])), (70, 2, .iload 5, (.null, 5, 0, [], [])), (72, 1, .iconst (-1), (.int (-1), 0, 0, [], [])), (73, 1, .ixor, (.null, 0, 0, [], [])), (74, 1, .iand, (.null, 0, 0, [], [])), (75, 3, .ifCond .ne 130, (.null, 13, 1407, [], [])), (78, 1, .lconst 1, (.long 1, 0, 0, [], [])), (79, 2, .lstore 11, (.null, 11, 0, [], [])), (81, 1, .aload_n 0, (.null, 0, 0, [], [])), (82, 3, .invokevirtual 207, (.null, 0, 0, [(11, 156, 2)], [1120, 1122, 36])), (85, 1, .iconst 0, (.int 0, 0, 0, [], [])), (86, 2, .istore 13, (.null, 13, 0, [], [])), (88, 0, .nop, (.null, 4, 11647, [], []))]
def k207_4 : List Ins := [(88, 2, .iload 13, (.null, 13, 0, [], [])), (90, 1, .aload_n 0, (.null, 0, 0, [], [])), (91, 3, .getfield 159, (.int 0, 11, 5, [], [918])), (94, 3, .if_icmp .ge 77, (.null, 10, 3455, [], [])), (97, 2, .lload 11, (.null, 11, 0, [], [])), (99, 2, .iload 5, (.null, 5, 0, [], [])), (101, 2, .iload 13, (.null, 13, 0, [], [])), (103, 3, .invokestatic 263, (.null, 2, 1, [(0, 135, 2)], [1275, 1276])), (106, 3, .ifCond .ne 7, (.null, 5, 9599, [], [])), (109, 1, .lconst 1, (.long 1, 0, 0, [], [])), (110, 3, .goto 23, (.int 0, 7, 9599, [], []))]
def k207_5 : List Ins := [(113, 2, .iload 10, (.null, 10, 0, [], [])), (115, 2, .iload 13, (.null, 13, 0, [], [])), (117, 3, .invokestatic 263, (.null, 2, 1, [(0, 135, 2)], [1275, 1276])), (120, 3, .ifCond .eq 8, (.null, 6, 9599, [], [])), (123, 1, .iload_n 3, (.null, 3, 0, [], [])), (124, 1, .i2l, (.null, 0, 0, [], [])), (125, 3, .goto 8, (.int 0, 7, 9599, [], []))]
def k207_6 : List Ins := [(128, 2, .bipush 10, (.int 10, 0, 0, [], [])), (130, 1, .iload_n 3, (.null, 3, 0, [], [])), (131, 1, .isub, (.null, 0, 0, [], [])), (132, 1, .i2l, (.null, 0, 0, [], [])), (133, 0, .nop, (.null, 7, 9599, [], []))]
def k207_7 : List Ins := [(133, 1, .lmul, (.null, 0, 0, [], [])), (134, 2, .lstore 11, (.null, 11, 0, [], [])), (136, 1, .aload_n 0, (.null, 0, 0, [], [])), (137, 3, .getfield 49, (.null, 11, 28, [], [941])), (140, 2, .iload 13, (.null, 13, 0, [], [])), (142, 2, .iload 10, (.null, 10, 0, [], [])), (144, 2, .iload 13, (.null, 13, 0, [], [])), (146, 3, .invokestatic 263, (.null, 2, 1, [(0, 135, 2)], [1275, 1276])), (149, 3, .ifCond .eq 8, (.null, 8, 11647, [], [])), (152, 2, .bipush 22, (.int 22, 0, 0, [], [])), (154, 3, .goto 10, (.int 0, 9, 11647, [], []))]
def k207_8 : List Ins := [(157, 1, .aload_n 0, (.null, 0, 0, [], [])), (158, 3, .getfield 49, (.null, 11, 28, [], [941])), (161, 2, .iload 13, (.null, 13, 0, [], [])), (163, 1, .iaload, (.null, 0, 0, [], [])), (164, 0, .nop, (.null, 9, 11647, [], []))]
def k207_9 : List Ins := [(164, 1, .iastore, (.null, 0, 0, [], [])), (165, 3, .iinc 13 1, (.int 1, 13, 0, [], [])), (168, 3, .goto (-80), (.int 0, 4, 11647, [], []))]
def k207_10 : List Ins := [(171, 1, .aload_n 0, (.null, 0, 0, [], [])), (172, 1, .iload_n 2, (.null, 2, 0, [], [])), (173, 3, .invokevirtual 210, (.null, 1, 0, [(11, 167, 3)], [1124, 1126, 37])), (176, 2, .lload 8, (.null, 8, 0, [], [])), (178, 2, .lload 11, (.null, 11, 0, [], [])), (180, 1, .ladd, (.null, 0, 0, [], [])), (181, 2, .lstore 8, (.null, 8, 0, [], [])), (183, 2, .lload 6, (.null, 6, 0, [], [])), (185, 1, .aload_n 0, (.null, 0, 0, [], [])), (186, 3, .getfield 49, (.null, 11, 28, [], [941])), (189, 1, .iload_n 1, (.null, 1, 0, [], [])), (190, 1, .iaload, (.null, 0, 0, [], [])), (191, 2, .bipush 21, (.int 21, 0, 0, [], [])), (193, 3, .if_icmp .ne 8, (.null, 11, 1343, [], [])), (196, 2, .lload 11, (.null, 11, 0, [], [])), (198, 3, .goto 4, (.int 0, 12, 1343, [], []))]
def k207_11 : List Ins := [(201, 1, .lconst 0, (.long 0, 0, 0, [], [])), (202, 0, .nop, (.null, 12, 1343, [], []))]
def k207_12 : List Ins := [(202, 1, .ladd, (.null, 0, 0, [], [])), (203, 2, .lstore 6, (.null, 6, 0, [], [])), (205, 0, .nop, (.null, 13, 1407, [], []))]
def k207_13 : List Ins := [(205, 3, .iinc 10 1, (.int 1, 10, 0, [], [])), (208, 3, .goto (-147), (.int 0, 3, 1407, [], []))]
def k207_14 : List Ins := [(211, 2, .lload 6, (.null, 6, 0, [], [])), (213, 2, .lstore 10, (.null, 10, 0, [], [])), (215, 2, .lload 8, (.null, 8, 0, [], [])), (217, 2, .lstore 12, (.null, 12, 0, [], [])), (219, 0, .nop, (.null, 15, 5456, [], []))]
def k207_15 : List Ins := [(219, 2, .lload 12, (.null, 12, 0, [], [])), (221, 1, .lconst 0, (.long 0, 0, 0, [], [])), (222, 1, .lcmp, (.null, 0, 0, [], [])), (223, 3, .ifCond .eq 21, (.null, 16, 1360, [], [])), (226, 2, .lload 10, (.null, 10, 0, [], [])), (228, 2, .lload 12, (.null, 12, 0, [], [])), (230, 1, .lrem, (.null, 0, 0, [], [])), (231, 2, .lstore 14, (.null, 14, 0, [], [])), (233, 2, .lload 12, (.null, 12, 0, [], [])), (235, 2, .lstore 10, (.null, 10, 0, [], [])), (237, 2, .lload 14, (.null, 14, 0, [], [])), (239, 2, .lstore 12, (.null, 12, 0, [], [])), (241, 3, .goto (-22), (.int 0, 15, 5456, [], []))]
def k207_16 : List Ins := [(244, 2, .iload 4, (.null, 4, 0, [], [])), (246, 3, .ifCond .ne 11, (.null, 17, 1280, [], [])), (249, 2, .lload 6, (.null, 6, 0, [], [])), (251, 2, .lload 10, (.null, 10, 0, [], [])), (253, 1, .ldiv, (.null, 0, 0, [], [])), (254, 3, .goto 8, (.null, 0, 0, [], [])), (262, 1, .lreturn, (.null, 0, 0, [], []))]
def k207_17 : List Ins := [(257, 2, .lload 8, (.null, 8, 0, [], [])), (259, 2, .lload 10, (.null, 10, 0, [], [])), (261, 1, .ldiv, (.null, 0, 0, [], [])), (262, 1, .lreturn, (.null, 0, 0, [], []))]
def m207 : MI := (yX12_lost, cX12_lost, 16, (some .long), [k207_0, k207_1, k207_2, k207_3, k207_4, k207_5, k207_6, k207_7, k207_8, k207_9, k207_10, k207_11, k207_12, k207_13, k207_14, k207_15, k207_16, k207_17])
def k208_0 : List Ins := [(0, 1, .aload_n 0, (.null, 0, 0, [], [])), (1, 3, .getfield 162, (.int 0, 11, 6, [], [919])), (4, 3, .ifCond .ne 6, (.null, 1, 15, [], [])), (7, 2, .ldc 201, (.int (-1000002), 0, 0, [], [1110])), (9, 1, .ireturn, (.null, 0, 0, [], []))]
def k208_1 : List Ins := [(10, 1, .iload_n 1, (.null, 1, 0, [], [])), (11, 3, .invokestatic 247, (.null, 1, 1, [(0, 185, 1)], [1226, 1227])), (14, 3, .ifCond .eq 25, (.null, 2, 0, [], [])), (17, 1, .iload_n 2, (.null, 2, 0, [], [])), (18, 1, .i2l, (.null, 0, 0, [], [])), (19, 1, .lconst 1, (.long 1, 0, 0, [], [])), (20, 3, .ldc2_w 303, (.long 999999, 0, 0, [], [1335])), (23, 3, .invokestatic 72, (.null, 3, 1, [(0, 134, 6)], [1027, 1028])), (26, 3, .ifCond .eq 13, (.null, 2, 0, [], [])), (29, 1, .iload_n 3, (.null, 3, 0, [], [])), (30, 1, .i2l, (.null, 0, 0, [], [])), (31, 1, .lconst 0, (.long 0, 0, 0, [], [])), (32, 1, .lconst 1, (.long 1, 0, 0, [], [])), (33, 3, .invokestatic 72, (.null, 3, 1, [(0, 134, 6)], [1027, 1028])), (36, 3, .ifCond .ne 6, (.null, 3, 15, [], [])), (39, 0, .nop, (.null, 2, 0, [], []))]
def k208_2 : List Ins := [(39, 2, .ldc 82, (.int (-1000001), 0, 0, [], [1031])), (41, 1, .ireturn, (.null, 0, 0, [], []))]
def k208_3 : List Ins := [(42, 1, .iload_n 2, (.null, 2, 0, [], [])), (43, 1, .i2l, (.null, 0, 0, [], [])), (44, 2, .lstore 4, (.null, 4, 0, [], [])), (46, 1, .iconst 0, (.int 0, 0, 0, [], [])), (47, 2, .istore 6, (.null, 6, 0, [], [])), (49, 1, .aload_n 0, (.null, 0, 0, [], [])), (50, 3, .invokevirtual 207, (.null, 0, 0, [(11, 156, 2)], [1120, 1122, 36])), (53, 1, .iconst 0, (.int 0, 0, 0, [], [])), (54, 2, .istore 7, (.null, 7, 0, [], [])), (56, 0, .nop, (.null, 4, 219, [], []))]
def k208_4 : List Ins := [(56, 2, .iload 7, (.null, 7, 0, [], [])), (58, 1, .iload_n 1, (.null, 1, 0, [], [])), (59, 3, .if_icmp .ge 118, (.null, 7, 73, [], [])), (62, 2, .lload 4, (.null, 4, 0, [], [])), (64, 3, .ldc2_w 305, (.long 16807, 0, 0, [], [1336])), (67, 1, .lmul, (.null, 0, 0, [], [])), (68, 3, .ldc2_w 307, (.long 2147483647, 0, 0, [], [1337])), (71, 1, .lrem, (.null, 0, 0, [], [])), (72, 2, .lstore 4, (.null, 4, 0, [], [])), (74, 2, .lload 4, (.null, 4, 0, [], [])), (76, 1, .aload_n 0, (.null, 0, 0, [], [])), (77, 3, .getfield 159, (.int 0, 11, 5, [], [918])), (80, 1, .i2l, (.null, 0, 0, [], [])), (81, 1, .lrem, (.null, 0, 0, [], [])), (82, 1, .l2i, (.null, 0, 0, [], [])), (83, 2, .istore 8, (.null, 8, 0, [], [])), (85, 1, .aload_n 0, (.null, 0, 0, [], [])), (86, 3, .getfield 49, (.null, 11, 28, [], [941])), (89, 2, .iload 8, (.null, 8, 0, [], [])), (91, 1, .iaload, (.null, 0, 0, [], [])), (92, 2, .bipush 21, (.int 21, 0, 0, [], [])), (94, 3, .if_icmp .ne 21, (.null, 5, 219, [], [])), (97, 1, .aload_n 0, (.null, 0, 0, [], [])), (98, 2, .iload 8, (.null, 8, 0, [], [])), (100, 2, .lload 4, (.null, 4, 0, [], [])), (102, 1, .aload_n 0, (.null, 0, 0, [], [])), (103, 3, .getfield 156, (.int 0, 11, 4, [], [917])), (106, 1, .i2l, (.null, 0, 0, [], [])), (107, 1, .lrem, (.null, 0, 0, [], [])), (108, 1, .l2i, (.null, 0, 0, [], [])), (109, 3, .invokevirtual 233, (.null, 2, 0, [(11, 180, 3)], [1197, 1199, 52])), (112, 3, .goto 30, (.int 0, 6, 219, [], []))]
def k208_5 : List Ins := [(115, 2, .lload 4, (.null, 4, 0, [], [])), (117, 3, .ldc2_w 274, (.long 4, 0, 0, [], [1287])), (120, 1, .lrem, (.null, 0, 0, [], [])), (121, 1, .lconst 0, (.long 0, 0, 0, [], [])), (122, 1, .lcmp, (.null, 0, 0, [], [])), (123, 3, .ifCond .ne 19, (.null, 6, 219, [], [])), (126, 1, .aload_n 0, (.null, 0, 0, [], [])), (127, 3, .getfield 49, (.null, 11, 28, [], [941])), (130, 2, .bipush 30, (.int 30, 0, 0, [], [])), (132, 2, .lload 4, (.null, 4, 0, [], [])), (134, 3, .ldc2_w 309, (.long 19, 0, 0, [], [1338])), (137, 1, .lrem, (.null, 0, 0, [], [])), (138, 1, .l2i, (.null, 0, 0, [], [])), (139, 1, .iconst 2, (.int 2, 0, 0, [], [])), (140, 1, .iadd, (.null, 0, 0, [], [])), (141, 1, .iastore, (.null, 0, 0, [], [])), (142, 0, .nop, (.null, 6, 219, [], []))]
def k208_6 : List Ins := [(142, 1, .aload_n 0, (.null, 0, 0, [], [])), (143, 3, .invokevirtual 216, (.null, 0, 1, [(11, 168, 3)], [1164, 1166, 47])), (146, 3, .invokestatic 258, (.null, 1, 1, [(0, 136, 3)], [1259, 1260])), (149, 2, .istore 9, (.null, 9, 0, [], [])), (151, 1, .aload_n 0, (.null, 0, 0, [], [])), (152, 1, .iconst 1, (.int 1, 0, 0, [], [])), (153, 3, .invokevirtual 210, (.null, 1, 0, [(11, 167, 3)], [1124, 1126, 37])), (156, 2, .iload 6, (.null, 6, 0, [], [])), (158, 1, .aload_n 0, (.null, 0, 0, [], [])), (159, 3, .invokevirtual 216, (.null, 0, 1, [(11, 168, 3)], [1164, 1166, 47])), (162, 3, .invokestatic 258, (.null, 1, 1, [(0, 136, 3)], [1259, 1260])), (165, 2, .iload 9, (.null, 9, 0, [], [])), (167, 1, .isub, (.null, 0, 0, [], [])), (168, 1, .iadd, (.null, 0, 0, [], [])), (169, 2, .istore 6, (.null, 6, 0, [], [])), (171, 3, .iinc 7 1, (.int 1, 7, 0, [], [])), (174, 3, .goto (-118), (.int 0, 4, 219, [], []))]
def k208_7 : List Ins := [(177, 1, .iload_n 3, (.null, 3, 0, [], [])), (178, 3, .ifCond .ne 8, (.null, 8, 1, [], [])), (181, 2, .iload 6, (.null, 6, 0, [], [])), (183, 3, .goto 7, (.null, 0, 0, [], [])), (190, 1, .ireturn, (.null, 0, 0, [], []))]
def k208_8 : List Ins := [(186, 1, .aload_n 0, (.null, 0, 0, [], [])), (187, 3, .invokevirtual 250, (.null, 0, 1, [(11, 171, 3)], [1238, 1240, 55])), (190, 1, .ireturn, (.null, 0, 0, [], []))]
def m208 : MI := (yX12_drawn, cX12_drawn, 10, (some .int), [k208_0, k208_1, k208_2, k208_3, k208_4, k208_5, k208_6, k208_7, k208_8])
def k209_0 : List Ins := [(0, 1, .iload_n 1, (.null, 1, 0, [], [])), (1, 1, .i2l, (.null, 0, 0, [], [])), (2, 1, .lconst 0, (.long 0, 0, 0, [], [])), (3, 1, .lconst 1, (.long 1, 0, 0, [], [])), (4, 3, .invokestatic 72, (.null, 3, 1, [(0, 134, 6)], [1027, 1028])), (7, 3, .ifCond .ne 6, (.null, 1, 3, [], [])), (10, 2, .ldc 82, (.int (-1000001), 0, 0, [], [1031])), (12, 1, .ireturn, (.null, 0, 0, [], []))]
def k209_1 : List Ins := [(13, 1, .aload_n 0, (.null, 0, 0, [], [])), (14, 3, .getfield 162, (.int 0, 11, 6, [], [919])), (17, 3, .ifCond .ne 6, (.null, 2, 3, [], [])), (20, 2, .ldc 201, (.int (-1000002), 0, 0, [], [1110])), (22, 1, .ireturn, (.null, 0, 0, [], []))]
def k209_2 : List Ins := [(23, 2, .bipush 48, (.int 48, 0, 0, [], [])), (25, 1, .iload_n 1, (.null, 1, 0, [], [])), (26, 1, .imul, (.null, 0, 0, [], [])), (27, 1, .istore_n 2, (.null, 2, 0, [], [])), (28, 1, .iconst 0, (.int 0, 0, 0, [], [])), (29, 1, .istore_n 3, (.null, 3, 0, [], [])), (30, 0, .nop, (.null, 3, 15, [], []))]
def k209_3 : List Ins := [(30, 1, .iload_n 3, (.null, 3, 0, [], [])), (31, 2, .bipush 6, (.int 6, 0, 0, [], [])), (33, 3, .if_icmp .ge 40, (.null, 4, 7, [], [])), (36, 1, .aload_n 0, (.null, 0, 0, [], [])), (37, 3, .getfield 31, (.null, 11, 12, [], [925])), (40, 1, .iload_n 2, (.null, 2, 0, [], [])), (41, 1, .iload_n 3, (.null, 3, 0, [], [])), (42, 1, .iadd, (.null, 0, 0, [], [])), (43, 1, .aload_n 0, (.null, 0, 0, [], [])), (44, 3, .getfield 19, (.null, 11, 7, [], [920])), (47, 1, .iload_n 3, (.null, 3, 0, [], [])), (48, 1, .iaload, (.null, 0, 0, [], [])), (49, 1, .iastore, (.null, 0, 0, [], [])), (50, 1, .aload_n 0, (.null, 0, 0, [], [])), (51, 3, .getfield 31, (.null, 11, 12, [], [925])), (54, 1, .iload_n 2, (.null, 2, 0, [], [])), (55, 2, .bipush 6, (.int 6, 0, 0, [], [])), (57, 1, .iadd, (.null, 0, 0, [], [])), (58, 1, .iload_n 3, (.null, 3, 0, [], [])), (59, 1, .iadd, (.null, 0, 0, [], [])), (60, 1, .aload_n 0, (.null, 0, 0, [], [])), (61, 3, .getfield 22, (.null, 11, 8, [], [921])), (64, 1, .iload_n 3, (.null, 3, 0, [], [])), (65, 1, .iaload, (.null, 0, 0, [], [])), (66, 1, .iastore, (.null, 0, 0, [], [])), (67, 3, .iinc 3 1, (.int 1, 3, 0, [], [])), (70, 3, .goto (-40), (.int 0, 3, 15, [], []))]
def k209_4 : List Ins := [(73, 1, .iconst 0, (.int 0, 0, 0, [], [])), (74, 1, .istore_n 3, (.null, 3, 0, [], [])), (75, 0, .nop, (.null, 5, 15, [], []))]
def k209_5 : List Ins := [(75, 1, .iload_n 3, (.null, 3, 0, [], [])), (76, 2, .bipush 32, (.int 32, 0, 0, [], [])), (78, 3, .if_icmp .ge 26, (.null, 6, 7, [], [])), (81, 1, .aload_n 0, (.null, 0, 0, [], [])), (82, 3, .getfield 31, (.null, 11, 12, [], [925])), (85, 1, .iload_n 2, (.null, 2, 0, [], [])), (86, 2, .bipush 12, (.int 12, 0, 0, [], [])), (88, 1, .iadd, (.null, 0, 0, [], [])), (89, 1, .iload_n 3, (.null, 3, 0, [], [])), (90, 1, .iadd, (.null, 0, 0, [], [])), (91, 1, .aload_n 0, (.null, 0, 0, [], [])), (92, 3, .getfield 25, (.null, 11, 9, [], [922])), (95, 1, .iload_n 3, (.null, 3, 0, [], [])), (96, 1, .iaload, (.null, 0, 0, [], [])), (97, 1, .iastore, (.null, 0, 0, [], [])), (98, 3, .iinc 3 1, (.int 1, 3, 0, [], [])), (101, 3, .goto (-26), (.int 0, 5, 15, [], []))]
def k209_6 : List Ins := [(104, 1, .aload_n 0, (.null, 0, 0, [], [])), (105, 3, .getfield 31, (.null, 11, 12, [], [925])), (108, 1, .iload_n 2, (.null, 2, 0, [], [])), (109, 2, .bipush 44, (.int 44, 0, 0, [], [])), (111, 1, .iadd, (.null, 0, 0, [], [])), (112, 1, .aload_n 0, (.null, 0, 0, [], [])), (113, 3, .getfield 156, (.int 0, 11, 4, [], [917])), (116, 1, .iastore, (.null, 0, 0, [], [])), (117, 1, .aload_n 0, (.null, 0, 0, [], [])), (118, 3, .getfield 31, (.null, 11, 12, [], [925])), (121, 1, .iload_n 2, (.null, 2, 0, [], [])), (122, 2, .bipush 45, (.int 45, 0, 0, [], [])), (124, 1, .iadd, (.null, 0, 0, [], [])), (125, 1, .aload_n 0, (.null, 0, 0, [], [])), (126, 3, .getfield 159, (.int 0, 11, 5, [], [918])), (129, 1, .iastore, (.null, 0, 0, [], [])), (130, 1, .aload_n 0, (.null, 0, 0, [], [])), (131, 1, .dup, (.null, 0, 0, [], [])), (132, 3, .getfield 311, (.int 0, 11, 13, [], [926])), (135, 1, .iconst 1, (.int 1, 0, 0, [], [])), (136, 1, .iload_n 1, (.null, 1, 0, [], [])), (137, 1, .ishl, (.null, 0, 0, [], [])), (138, 1, .ior, (.null, 0, 0, [], [])), (139, 3, .putfield 311, (.int 0, 11, 13, [], [926])), (142, 1, .iconst 1, (.int 1, 0, 0, [], [])), (143, 1, .ireturn, (.null, 0, 0, [], []))]
def m209 : MI := (yX12_image, cX12_image, 4, (some .int), [k209_0, k209_1, k209_2, k209_3, k209_4, k209_5, k209_6])
def k210_0 : List Ins := [(0, 1, .iload_n 1, (.null, 1, 0, [], [])), (1, 1, .i2l, (.null, 0, 0, [], [])), (2, 1, .lconst 0, (.long 0, 0, 0, [], [])), (3, 1, .lconst 1, (.long 1, 0, 0, [], [])), (4, 3, .invokestatic 72, (.null, 3, 1, [(0, 134, 6)], [1027, 1028])), (7, 3, .ifCond .ne 6, (.null, 1, 3, [], [])), (10, 2, .ldc 82, (.int (-1000001), 0, 0, [], [1031])), (12, 1, .ireturn, (.null, 0, 0, [], []))]
def k210_1 : List Ins := [(13, 1, .aload_n 0, (.null, 0, 0, [], [])), (14, 3, .getfield 311, (.int 0, 11, 13, [], [926])), (17, 1, .iload_n 1, (.null, 1, 0, [], [])), (18, 3, .invokestatic 263, (.null, 2, 1, [(0, 135, 2)], [1275, 1276])), (21, 3, .ifCond .ne 6, (.null, 2, 3, [], [])), (24, 2, .ldc 201, (.int (-1000002), 0, 0, [], [1110])), (26, 1, .ireturn, (.null, 0, 0, [], []))]
def k210_2 : List Ins := [(27, 2, .bipush 48, (.int 48, 0, 0, [], [])), (29, 1, .iload_n 1, (.null, 1, 0, [], [])), (30, 1, .imul, (.null, 0, 0, [], [])), (31, 1, .istore_n 2, (.null, 2, 0, [], [])), (32, 1, .iconst 0, (.int 0, 0, 0, [], [])), (33, 1, .istore_n 3, (.null, 3, 0, [], [])), (34, 0, .nop, (.null, 3, 13, [], []))]
def k210_3 : List Ins := [(34, 1, .iload_n 3, (.null, 3, 0, [], [])), (35, 2, .bipush 6, (.int 6, 0, 0, [], [])), (37, 3, .if_icmp .ge 40, (.null, 4, 5, [], [])), (40, 1, .aload_n 0, (.null, 0, 0, [], [])), (41, 3, .getfield 19, (.null, 11, 7, [], [920])), (44, 1, .iload_n 3, (.null, 3, 0, [], [])), (45, 1, .aload_n 0, (.null, 0, 0, [], [])), (46, 3, .getfield 31, (.null, 11, 12, [], [925])), (49, 1, .iload_n 2, (.null, 2, 0, [], [])), (50, 1, .iload_n 3, (.null, 3, 0, [], [])), (51, 1, .iadd, (.null, 0, 0, [], [])), (52, 1, .iaload, (.null, 0, 0, [], [])), (53, 1, .iastore, (.null, 0, 0, [], [])), (54, 1, .aload_n 0, (.null, 0, 0, [], [])), (55, 3, .getfield 22, (.null, 11, 8, [], [921])), (58, 1, .iload_n 3, (.null, 3, 0, [], [])), (59, 1, .aload_n 0, (.null, 0, 0, [], [])), (60, 3, .getfield 31, (.null, 11, 12, [], [925])), (63, 1, .iload_n 2, (.null, 2, 0, [], [])), (64, 2, .bipush 6, (.int 6, 0, 0, [], [])), (66, 1, .iadd, (.null, 0, 0, [], [])), (67, 1, .iload_n 3, (.null, 3, 0, [], [])), (68, 1, .iadd, (.null, 0, 0, [], [])), (69, 1, .iaload, (.null, 0, 0, [], [])), (70, 1, .iastore, (.null, 0, 0, [], [])), (71, 3, .iinc 3 1, (.int 1, 3, 0, [], [])), (74, 3, .goto (-40), (.int 0, 3, 13, [], []))]
def k210_4 : List Ins := [(77, 1, .iconst 0, (.int 0, 0, 0, [], [])), (78, 1, .istore_n 3, (.null, 3, 0, [], [])), (79, 0, .nop, (.null, 5, 13, [], []))]
def k210_5 : List Ins := [(79, 1, .iload_n 3, (.null, 3, 0, [], [])), (80, 2, .bipush 32, (.int 32, 0, 0, [], [])), (82, 3, .if_icmp .ge 26, (.null, 6, 5, [], [])), (85, 1, .aload_n 0, (.null, 0, 0, [], [])), (86, 3, .getfield 25, (.null, 11, 9, [], [922])), (89, 1, .iload_n 3, (.null, 3, 0, [], [])), (90, 1, .aload_n 0, (.null, 0, 0, [], [])), (91, 3, .getfield 31, (.null, 11, 12, [], [925])), (94, 1, .iload_n 2, (.null, 2, 0, [], [])), (95, 2, .bipush 12, (.int 12, 0, 0, [], [])), (97, 1, .iadd, (.null, 0, 0, [], [])), (98, 1, .iload_n 3, (.null, 3, 0, [], [])), (99, 1, .iadd, (.null, 0, 0, [], [])), (100, 1, .iaload, (.null, 0, 0, [], [])), (101, 1, .iastore, (.null, 0, 0, [], [])), (102, 3, .iinc 3 1, (.int 1, 3, 0, [], [])), (105, 3, .goto (-26), (.int 0, 5, 13, [], []))]
def k210_6 : List Ins := [(108, 1, .aload_n 0, (.null, 0, 0, [], [])), (109, 1, .aload_n 0, (.null, 0, 0, [], [])), (110, 3, .getfield 31, (.null, 11, 12, [], [925])), (113, 1, .iload_n 2, (.null, 2, 0, [], [])), (114, 2, .bipush 44, (.int 44, 0, 0, [], [])), (116, 1, .iadd, (.null, 0, 0, [], [])), (117, 1, .iaload, (.null, 0, 0, [], [])), (118, 3, .putfield 156, (.int 0, 11, 4, [], [917])), (121, 1, .aload_n 0, (.null, 0, 0, [], [])), (122, 1, .aload_n 0, (.null, 0, 0, [], [])), (123, 3, .getfield 31, (.null, 11, 12, [], [925])), (126, 1, .iload_n 2, (.null, 2, 0, [], [])), (127, 2, .bipush 45, (.int 45, 0, 0, [], [])), (129, 1, .iadd, (.null, 0, 0, [], [])), (130, 1, .iaload, (.null, 0, 0, [], [])), (131, 3, .putfield 159, (.int 0, 11, 5, [], [918])), (134, 1, .aload_n 0, (.null, 0, 0, [], [])), (135, 1, .iconst 0, (.int 0, 0, 0, [], [])), (136, 3, .putfield 166, (.int 0, 11, 11, [], [924])), (139, 1, .iconst 1, (.int 1, 0, 0, [], [])), (140, 1, .ireturn, (.null, 0, 0, [], []))]
def m210 : MI := (yX12_restore, cX12_restore, 4, (some .int), [k210_0, k210_1, k210_2, k210_3, k210_4, k210_5, k210_6])
def k211_0 : List Ins := [(0, 1, .aload_n 0, (.null, 0, 0, [], [])), (1, 1, .iload_n 1, (.null, 1, 0, [], [])), (2, 3, .invokevirtual 221, (.null, 1, 1, [(11, 172, 2)], [1177, 1179, 48])), (5, 3, .ifCond .eq 12, (.null, 1, 0, [], [])), (8, 1, .aload_n 0, (.null, 0, 0, [], [])), (9, 3, .getfield 19, (.null, 11, 7, [], [920])), (12, 1, .iload_n 1, (.null, 1, 0, [], [])), (13, 1, .iaload, (.null, 0, 0, [], [])), (14, 3, .goto 5, (.null, 0, 0, [], [])), (19, 1, .ireturn, (.null, 0, 0, [], []))]
def k211_1 : List Ins := [(17, 2, .ldc 82, (.int (-1000001), 0, 0, [], [1031])), (19, 1, .ireturn, (.null, 0, 0, [], []))]
def m211 : MI := (yX12_kind, cX12_kind, 2, (some .int), [k211_0, k211_1])
def k212_0 : List Ins := [(0, 1, .aload_n 0, (.null, 0, 0, [], [])), (1, 1, .iload_n 1, (.null, 1, 0, [], [])), (2, 3, .invokevirtual 221, (.null, 1, 1, [(11, 172, 2)], [1177, 1179, 48])), (5, 3, .ifCond .eq 15, (.null, 1, 0, [], [])), (8, 1, .iload_n 2, (.null, 2, 0, [], [])), (9, 1, .i2l, (.null, 0, 0, [], [])), (10, 1, .lconst 0, (.long 0, 0, 0, [], [])), (11, 3, .ldc2_w 314, (.long 5, 0, 0, [], [1355])), (14, 3, .invokestatic 72, (.null, 3, 1, [(0, 134, 6)], [1027, 1028])), (17, 3, .ifCond .ne 6, (.null, 2, 7, [], [])), (20, 0, .nop, (.null, 1, 0, [], []))]
def k212_1 : List Ins := [(20, 2, .ldc 82, (.int (-1000001), 0, 0, [], [1031])), (22, 1, .ireturn, (.null, 0, 0, [], []))]
def k212_2 : List Ins := [(23, 1, .aload_n 0, (.null, 0, 0, [], [])), (24, 3, .getfield 19, (.null, 11, 7, [], [920])), (27, 1, .iload_n 1, (.null, 1, 0, [], [])), (28, 1, .iaload, (.null, 0, 0, [], [])), (29, 1, .istore_n 3, (.null, 3, 0, [], [])), (30, 1, .iload_n 2, (.null, 2, 0, [], [])), (31, 3, .ifCond .eq 28, (.null, 4, 3, [], [])), (34, 1, .iload_n 2, (.null, 2, 0, [], [])), (35, 1, .iload_n 3, (.null, 3, 0, [], [])), (36, 3, .if_icmp .eq 23, (.null, 4, 3, [], [])), (39, 1, .iload_n 2, (.null, 2, 0, [], [])), (40, 1, .iconst 1, (.int 1, 0, 0, [], [])), (41, 3, .if_icmp .ne 8, (.null, 3, 15, [], [])), (44, 1, .iload_n 3, (.null, 3, 0, [], [])), (45, 1, .iconst 4, (.int 4, 0, 0, [], [])), (46, 3, .if_icmp .lt 13, (.null, 4, 3, [], [])), (49, 0, .nop, (.null, 3, 15, [], []))]
def k212_3 : List Ins := [(49, 1, .iload_n 2, (.null, 2, 0, [], [])), (50, 1, .iconst 4, (.int 4, 0, 0, [], [])), (51, 3, .if_icmp .ne 12, (.null, 5, 3, [], [])), (54, 1, .iload_n 3, (.null, 3, 0, [], [])), (55, 1, .iconst 5, (.int 5, 0, 0, [], [])), (56, 3, .if_icmp .ne 7, (.null, 5, 3, [], [])), (59, 0, .nop, (.null, 4, 3, [], []))]
def k212_4 : List Ins := [(59, 1, .iconst 1, (.int 1, 0, 0, [], [])), (60, 3, .goto 4, (.int 0, 6, 3, [], []))]
def k212_5 : List Ins := [(63, 1, .iconst 0, (.int 0, 0, 0, [], [])), (64, 0, .nop, (.null, 6, 3, [], []))]
def k212_6 : List Ins := [(64, 2, .istore 4, (.null, 4, 0, [], [])), (66, 2, .iload 4, (.null, 4, 0, [], [])), (68, 3, .ifCond .eq 11, (.null, 7, 1, [], [])), (71, 1, .aload_n 0, (.null, 0, 0, [], [])), (72, 1, .iload_n 1, (.null, 1, 0, [], [])), (73, 3, .invokevirtual 87, (.null, 1, 1, [(11, 138, 2)], [1037, 1039, 27])), (76, 3, .goto 8, (.null, 0, 0, [], [])), (84, 1, .ireturn, (.null, 0, 0, [], []))]
def k212_7 : List Ins := [(79, 1, .aload_n 0, (.null, 0, 0, [], [])), (80, 1, .iconst 3, (.int 3, 0, 0, [], [])), (81, 3, .invokevirtual 83, (.null, 1, 1, [(11, 137, 2)], [1032, 1034, 26])), (84, 1, .ireturn, (.null, 0, 0, [], []))]
def m212 : MI := (yX12_as, cX12_as, 5, (some .int), [k212_0, k212_1, k212_2, k212_3, k212_4, k212_5, k212_6, k212_7])
def k213_0 : List Ins := [(0, 1, .aload_n 0, (.null, 0, 0, [], [])), (1, 3, .getfield 316, (.int 0, 11, 18, [], [931])), (4, 2, .bipush 16, (.int 16, 0, 0, [], [])), (6, 3, .if_icmp .ge 23, (.null, 1, 0, [], [])), (9, 1, .aload_n 0, (.null, 0, 0, [], [])), (10, 3, .getfield 37, (.null, 11, 17, [], [930])), (13, 1, .aload_n 0, (.null, 0, 0, [], [])), (14, 3, .getfield 316, (.int 0, 11, 18, [], [931])), (17, 1, .iload_n 1, (.null, 1, 0, [], [])), (18, 1, .iastore, (.null, 0, 0, [], [])), (19, 1, .aload_n 0, (.null, 0, 0, [], [])), (20, 1, .dup, (.null, 0, 0, [], [])), (21, 3, .getfield 316, (.int 0, 11, 18, [], [931])), (24, 1, .iconst 1, (.int 1, 0, 0, [], [])), (25, 1, .iadd, (.null, 0, 0, [], [])), (26, 3, .putfield 316, (.int 0, 11, 18, [], [931])), (29, 0, .nop, (.null, 1, 0, [], []))]
def k213_1 : List Ins := [(29, 1, .return_, (.null, 0, 0, [], []))]
def m213 : MI := (yX12_leaves, cX12_leaves, 2, none, [k213_0, k213_1])
def k214_0 : List Ins := [(0, 1, .aload_n 0, (.null, 0, 0, [], [])), (1, 2, .bipush 10, (.int 10, 0, 0, [], [])), (3, 3, .invokevirtual 319, (.null, 1, 0, [(11, 213, 2)], [1368, 1370, 67])), (6, 1, .aload_n 0, (.null, 0, 0, [], [])), (7, 3, .getfield 22, (.null, 11, 8, [], [921])), (10, 1, .iload_n 1, (.null, 1, 0, [], [])), (11, 1, .iaload, (.null, 0, 0, [], [])), (12, 1, .ireturn, (.null, 0, 0, [], []))]
def m214 : MI := (yX12_body10, cX12_body10, 2, (some .int), [k214_0])
def k215_0 : List Ins := [(0, 1, .aload_n 0, (.null, 0, 0, [], [])), (1, 2, .bipush 20, (.int 20, 0, 0, [], [])), (3, 3, .invokevirtual 319, (.null, 1, 0, [(11, 213, 2)], [1368, 1370, 67])), (6, 1, .iload_n 1, (.null, 1, 0, [], [])), (7, 1, .ireturn, (.null, 0, 0, [], []))]
def m215 : MI := (yX12_body20, cX12_body20, 2, (some .int), [k215_0])
def k216_0 : List Ins := [(0, 1, .aload_n 0, (.null, 0, 0, [], [])), (1, 2, .bipush 21, (.int 21, 0, 0, [], [])), (3, 3, .invokevirtual 319, (.null, 1, 0, [(11, 213, 2)], [1368, 1370, 67])), (6, 1, .aload_n 0, (.null, 0, 0, [], [])), (7, 1, .iload_n 1, (.null, 1, 0, [], [])), (8, 3, .invokevirtual 322, (.null, 1, 1, [(11, 215, 2)], [1392, 1394, 73])), (11, 1, .aload_n 0, (.null, 0, 0, [], [])), (12, 3, .getfield 25, (.null, 11, 9, [], [922])), (15, 2, .bipush 6, (.int 6, 0, 0, [], [])), (17, 1, .iload_n 1, (.null, 1, 0, [], [])), (18, 1, .iadd, (.null, 0, 0, [], [])), (19, 1, .iaload, (.null, 0, 0, [], [])), (20, 1, .iadd, (.null, 0, 0, [], [])), (21, 1, .ireturn, (.null, 0, 0, [], []))]
def m216 : MI := (yX12_body21, cX12_body21, 2, (some .int), [k216_0])
def k217_0 : List Ins := [(0, 1, .aload_n 0, (.null, 0, 0, [], [])), (1, 3, .getfield 19, (.null, 11, 7, [], [920])), (4, 1, .iload_n 1, (.null, 1, 0, [], [])), (5, 1, .iaload, (.null, 0, 0, [], [])), (6, 1, .iconst 2, (.int 2, 0, 0, [], [])), (7, 3, .if_icmp .ne 17, (.null, 1, 3, [], [])), (10, 1, .aload_n 0, (.null, 0, 0, [], [])), (11, 2, .bipush 24, (.int 24, 0, 0, [], [])), (13, 3, .invokevirtual 319, (.null, 1, 0, [(11, 213, 2)], [1368, 1370, 67])), (16, 1, .iconst 2, (.int 2, 0, 0, [], [])), (17, 1, .aload_n 0, (.null, 0, 0, [], [])), (18, 1, .iload_n 1, (.null, 1, 0, [], [])), (19, 3, .invokevirtual 325, (.null, 1, 1, [(11, 216, 2)], [1388, 1390, 72])), (22, 1, .imul, (.null, 0, 0, [], [])), (23, 1, .ireturn, (.null, 0, 0, [], []))]
def k217_1 : List Ins := [(24, 1, .aload_n 0, (.null, 0, 0, [], [])), (25, 3, .getfield 19, (.null, 11, 7, [], [920])), (28, 1, .iload_n 1, (.null, 1, 0, [], [])), (29, 1, .iaload, (.null, 0, 0, [], [])), (30, 1, .iconst 3, (.int 3, 0, 0, [], [])), (31, 3, .if_icmp .ne 19, (.null, 2, 3, [], [])), (34, 1, .aload_n 0, (.null, 0, 0, [], [])), (35, 2, .bipush 22, (.int 22, 0, 0, [], [])), (37, 3, .invokevirtual 319, (.null, 1, 0, [(11, 213, 2)], [1368, 1370, 67])), (40, 1, .aload_n 0, (.null, 0, 0, [], [])), (41, 1, .iload_n 1, (.null, 1, 0, [], [])), (42, 3, .invokevirtual 325, (.null, 1, 1, [(11, 216, 2)], [1388, 1390, 72])), (45, 3, .sipush 1000, (.int 1000, 0, 0, [], [])), (48, 1, .isub, (.null, 0, 0, [], [])), (49, 1, .ireturn, (.null, 0, 0, [], []))]
def k217_2 : List Ins := [(50, 1, .aload_n 0, (.null, 0, 0, [], [])), (51, 1, .iload_n 1, (.null, 1, 0, [], [])), (52, 3, .invokevirtual 325, (.null, 1, 1, [(11, 216, 2)], [1388, 1390, 72])), (55, 1, .ireturn, (.null, 0, 0, [], []))]
def m217 : MI := (yX12_cardMark, cX12_cardMark, 2, (some .int), [k217_0, k217_1, k217_2])
def k218_0 : List Ins := [(0, 1, .aload_n 0, (.null, 0, 0, [], [])), (1, 2, .bipush 11, (.int 11, 0, 0, [], [])), (3, 3, .invokevirtual 319, (.null, 1, 0, [(11, 213, 2)], [1368, 1370, 67])), (6, 1, .aload_n 0, (.null, 0, 0, [], [])), (7, 1, .iload_n 1, (.null, 1, 0, [], [])), (8, 3, .invokevirtual 328, (.null, 1, 1, [(11, 214, 2)], [1376, 1378, 69])), (11, 1, .istore_n 2, (.null, 2, 0, [], [])), (12, 1, .iload_n 2, (.null, 2, 0, [], [])), (13, 1, .aload_n 0, (.null, 0, 0, [], [])), (14, 1, .iload_n 1, (.null, 1, 0, [], [])), (15, 3, .invokevirtual 331, (.null, 1, 1, [(11, 217, 2)], [1384, 1386, 71])), (18, 1, .iadd, (.null, 0, 0, [], [])), (19, 1, .ireturn, (.null, 0, 0, [], []))]
def m218 : MI := (yX12_body11, cX12_body11, 3, (some .int), [k218_0])
def k219_0 : List Ins := [(0, 1, .aload_n 0, (.null, 0, 0, [], [])), (1, 2, .bipush 13, (.int 13, 0, 0, [], [])), (3, 3, .invokevirtual 319, (.null, 1, 0, [(11, 213, 2)], [1368, 1370, 67])), (6, 1, .aload_n 0, (.null, 0, 0, [], [])), (7, 1, .iload_n 1, (.null, 1, 0, [], [])), (8, 3, .invokevirtual 328, (.null, 1, 1, [(11, 214, 2)], [1376, 1378, 69])), (11, 2, .bipush 100, (.int 100, 0, 0, [], [])), (13, 1, .isub, (.null, 0, 0, [], [])), (14, 1, .ireturn, (.null, 0, 0, [], []))]
def m219 : MI := (yX12_body13, cX12_body13, 2, (some .int), [k219_0])
def k220_0 : List Ins := [(0, 1, .aload_n 0, (.null, 0, 0, [], [])), (1, 3, .getfield 19, (.null, 11, 7, [], [920])), (4, 1, .iload_n 1, (.null, 1, 0, [], [])), (5, 1, .iaload, (.null, 0, 0, [], [])), (6, 1, .iconst 5, (.int 5, 0, 0, [], [])), (7, 3, .if_icmp .ne 17, (.null, 1, 3, [], [])), (10, 1, .aload_n 0, (.null, 0, 0, [], [])), (11, 2, .bipush 14, (.int 14, 0, 0, [], [])), (13, 3, .invokevirtual 319, (.null, 1, 0, [(11, 213, 2)], [1368, 1370, 67])), (16, 1, .iconst 2, (.int 2, 0, 0, [], [])), (17, 1, .aload_n 0, (.null, 0, 0, [], [])), (18, 1, .iload_n 1, (.null, 1, 0, [], [])), (19, 3, .invokevirtual 334, (.null, 1, 1, [(11, 219, 2)], [1372, 1374, 68])), (22, 1, .imul, (.null, 0, 0, [], [])), (23, 1, .ireturn, (.null, 0, 0, [], []))]
def k220_1 : List Ins := [(24, 1, .aload_n 0, (.null, 0, 0, [], [])), (25, 1, .iload_n 1, (.null, 1, 0, [], [])), (26, 3, .invokevirtual 334, (.null, 1, 1, [(11, 219, 2)], [1372, 1374, 68])), (29, 1, .ireturn, (.null, 0, 0, [], []))]
def m220 : MI := (yX12_parcelSize, cX12_parcelSize, 2, (some .int), [k220_0, k220_1])
def k221_0 : List Ins := [(0, 1, .aload_n 0, (.null, 0, 0, [], [])), (1, 3, .getfield 19, (.null, 11, 7, [], [920])), (4, 1, .iload_n 1, (.null, 1, 0, [], [])), (5, 1, .iaload, (.null, 0, 0, [], [])), (6, 1, .iconst 3, (.int 3, 0, 0, [], [])), (7, 3, .if_icmp .le 9, (.null, 1, 3, [], [])), (10, 1, .aload_n 0, (.null, 0, 0, [], [])), (11, 1, .iload_n 1, (.null, 1, 0, [], [])), (12, 3, .invokevirtual 337, (.null, 1, 1, [(11, 220, 2)], [1364, 1366, 66])), (15, 1, .ireturn, (.null, 0, 0, [], []))]
def k221_1 : List Ins := [(16, 1, .aload_n 0, (.null, 0, 0, [], [])), (17, 3, .getfield 19, (.null, 11, 7, [], [920])), (20, 1, .iload_n 1, (.null, 1, 0, [], [])), (21, 1, .iaload, (.null, 0, 0, [], [])), (22, 1, .iconst 2, (.int 2, 0, 0, [], [])), (23, 3, .if_icmp .ne 16, (.null, 2, 3, [], [])), (26, 1, .aload_n 0, (.null, 0, 0, [], [])), (27, 2, .bipush 12, (.int 12, 0, 0, [], [])), (29, 3, .invokevirtual 319, (.null, 1, 0, [(11, 213, 2)], [1368, 1370, 67])), (32, 1, .aload_n 0, (.null, 0, 0, [], [])), (33, 1, .iload_n 1, (.null, 1, 0, [], [])), (34, 3, .invokevirtual 340, (.null, 1, 1, [(11, 218, 3)], [1380, 1382, 70])), (37, 1, .ineg, (.null, 0, 0, [], [])), (38, 1, .ireturn, (.null, 0, 0, [], []))]
def k221_2 : List Ins := [(39, 1, .aload_n 0, (.null, 0, 0, [], [])), (40, 1, .iload_n 1, (.null, 1, 0, [], [])), (41, 3, .invokevirtual 340, (.null, 1, 1, [(11, 218, 3)], [1380, 1382, 70])), (44, 1, .ireturn, (.null, 0, 0, [], []))]
def m221 : MI := (yX12_size, cX12_size, 2, (some .int), [k221_0, k221_1, k221_2])
def k222_0 : List Ins := [(0, 1, .aload_n 0, (.null, 0, 0, [], [])), (1, 3, .getfield 19, (.null, 11, 7, [], [920])), (4, 1, .iload_n 1, (.null, 1, 0, [], [])), (5, 1, .iaload, (.null, 0, 0, [], [])), (6, 1, .iconst 4, (.int 4, 0, 0, [], [])), (7, 3, .if_icmp .ge 9, (.null, 1, 3, [], [])), (10, 1, .aload_n 0, (.null, 0, 0, [], [])), (11, 1, .iload_n 1, (.null, 1, 0, [], [])), (12, 3, .invokevirtual 331, (.null, 1, 1, [(11, 217, 2)], [1384, 1386, 71])), (15, 1, .ireturn, (.null, 0, 0, [], []))]
def k222_1 : List Ins := [(16, 1, .aload_n 0, (.null, 0, 0, [], [])), (17, 2, .bipush 23, (.int 23, 0, 0, [], [])), (19, 3, .invokevirtual 319, (.null, 1, 0, [(11, 213, 2)], [1368, 1370, 67])), (22, 1, .aload_n 0, (.null, 0, 0, [], [])), (23, 1, .iload_n 1, (.null, 1, 0, [], [])), (24, 3, .invokevirtual 322, (.null, 1, 1, [(11, 215, 2)], [1392, 1394, 73])), (27, 1, .istore_n 2, (.null, 2, 0, [], [])), (28, 1, .iload_n 2, (.null, 2, 0, [], [])), (29, 1, .aload_n 0, (.null, 0, 0, [], [])), (30, 1, .iload_n 1, (.null, 1, 0, [], [])), (31, 3, .invokevirtual 337, (.null, 1, 1, [(11, 220, 2)], [1364, 1366, 66])), (34, 1, .isub, (.null, 0, 0, [], [])), (35, 1, .ireturn, (.null, 0, 0, [], []))]
def m222 : MI := (yX12_mark, cX12_mark, 3, (some .int), [k222_0, k222_1])
def k223_0 : List Ins := [(0, 1, .aload_n 0, (.null, 0, 0, [], [])), (1, 1, .iload_n 1, (.null, 1, 0, [], [])), (2, 3, .invokevirtual 221, (.null, 1, 1, [(11, 172, 2)], [1177, 1179, 48])), (5, 3, .ifCond .eq 13, (.null, 1, 0, [], [])), (8, 1, .iload_n 2, (.null, 2, 0, [], [])), (9, 1, .i2l, (.null, 0, 0, [], [])), (10, 1, .lconst 0, (.long 0, 0, 0, [], [])), (11, 1, .lconst 1, (.long 1, 0, 0, [], [])), (12, 3, .invokestatic 72, (.null, 3, 1, [(0, 134, 6)], [1027, 1028])), (15, 3, .ifCond .ne 6, (.null, 2, 7, [], [])), (18, 0, .nop, (.null, 1, 0, [], []))]
def k223_1 : List Ins := [(18, 2, .ldc 82, (.int (-1000001), 0, 0, [], [1031])), (20, 1, .ireturn, (.null, 0, 0, [], []))]
def k223_2 : List Ins := [(21, 1, .aload_n 0, (.null, 0, 0, [], [])), (22, 1, .iconst 0, (.int 0, 0, 0, [], [])), (23, 3, .putfield 316, (.int 0, 11, 18, [], [931])), (26, 1, .iload_n 2, (.null, 2, 0, [], [])), (27, 3, .ifCond .ne 11, (.null, 3, 3, [], [])), (30, 1, .aload_n 0, (.null, 0, 0, [], [])), (31, 1, .iload_n 1, (.null, 1, 0, [], [])), (32, 3, .invokevirtual 343, (.null, 1, 1, [(11, 221, 2)], [1360, 1362, 65])), (35, 3, .goto 8, (.null, 0, 0, [], [])), (43, 1, .ireturn, (.null, 0, 0, [], []))]
def k223_3 : List Ins := [(38, 1, .aload_n 0, (.null, 0, 0, [], [])), (39, 1, .iload_n 1, (.null, 1, 0, [], [])), (40, 3, .invokevirtual 346, (.null, 1, 1, [(11, 222, 3)], [1396, 1398, 74])), (43, 1, .ireturn, (.null, 0, 0, [], []))]
def m223 : MI := (yX12_ask, cX12_ask, 3, (some .int), [k223_0, k223_1, k223_2, k223_3])
def k224_0 : List Ins := [(0, 1, .iload_n 1, (.null, 1, 0, [], [])), (1, 1, .i2l, (.null, 0, 0, [], [])), (2, 1, .lconst 0, (.long 0, 0, 0, [], [])), (3, 1, .aload_n 0, (.null, 0, 0, [], [])), (4, 3, .getfield 316, (.int 0, 11, 18, [], [931])), (7, 1, .iconst 1, (.int 1, 0, 0, [], [])), (8, 1, .isub, (.null, 0, 0, [], [])), (9, 1, .i2l, (.null, 0, 0, [], [])), (10, 3, .invokestatic 72, (.null, 3, 1, [(0, 134, 6)], [1027, 1028])), (13, 3, .ifCond .eq 12, (.null, 1, 0, [], [])), (16, 1, .aload_n 0, (.null, 0, 0, [], [])), (17, 3, .getfield 37, (.null, 11, 17, [], [930])), (20, 1, .iload_n 1, (.null, 1, 0, [], [])), (21, 1, .iaload, (.null, 0, 0, [], [])), (22, 3, .goto 5, (.null, 0, 0, [], [])), (27, 1, .ireturn, (.null, 0, 0, [], []))]
def k224_1 : List Ins := [(25, 2, .ldc 52, (.int (-1000000), 0, 0, [], [912])), (27, 1, .ireturn, (.null, 0, 0, [], []))]
def m224 : MI := (yX12_trace, cX12_trace, 2, (some .int), [k224_0, k224_1])
def k225_0 : List Ins := [(0, 1, .aload_n 0, (.null, 0, 0, [], [])), (1, 3, .invokevirtual 207, (.null, 0, 0, [(11, 156, 2)], [1120, 1122, 36])), (4, 1, .iload_n 1, (.null, 1, 0, [], [])), (5, 47, .tableswitch 123 0 7 #[47, 82, 87, 92, 100, 108, 113, 118], (.null, 13, 0, [(0, 1, 1), (1, 6, 1), (2, 7, 1), (3, 8, 1), (4, 9, 1), (5, 10, 1), (6, 11, 1), (7, 12, 1)], []))]
def k225_1 : List Ins := [(52, 1, .iconst 0, (.int 0, 0, 0, [], [])), (53, 1, .istore_n 2, (.null, 2, 0, [], [])), (54, 1, .iconst 0, (.int 0, 0, 0, [], [])), (55, 1, .istore_n 3, (.null, 3, 0, [], [])), (56, 0, .nop, (.null, 2, 13, [], []))]
def k225_2 : List Ins := [(56, 1, .iload_n 3, (.null, 3, 0, [], [])), (57, 2, .bipush 8, (.int 8, 0, 0, [], [])), (59, 3, .if_icmp .ge 26, (.null, 5, 4, [], [])), (62, 1, .iload_n 2, (.null, 2, 0, [], [])), (63, 1, .aload_n 0, (.null, 0, 0, [], [])), (64, 3, .getfield 16, (.null, 11, 2, [], [915])), (67, 1, .iload_n 3, (.null, 3, 0, [], [])), (68, 1, .iaload, (.null, 0, 0, [], [])), (69, 3, .ifCond .ge 7, (.null, 3, 9, [], [])), (72, 1, .iconst 0, (.int 0, 0, 0, [], [])), (73, 3, .goto 4, (.int 0, 4, 9, [], []))]
def k225_3 : List Ins := [(76, 1, .iconst 1, (.int 1, 0, 0, [], [])), (77, 0, .nop, (.null, 4, 9, [], []))]
def k225_4 : List Ins := [(77, 1, .iadd, (.null, 0, 0, [], [])), (78, 1, .istore_n 2, (.null, 2, 0, [], [])), (79, 3, .iinc 3 1, (.int 1, 3, 0, [], [])), (82, 3, .goto (-26), (.int 0, 2, 13, [], []))]
def k225_5 : List Ins := [(85, 1, .iload_n 2, (.null, 2, 0, [], [])), (86, 1, .ireturn, (.null, 0, 0, [], []))]
def k225_6 : List Ins := [(87, 1, .aload_n 0, (.null, 0, 0, [], [])), (88, 3, .getfield 159, (.int 0, 11, 5, [], [918])), (91, 1, .ireturn, (.null, 0, 0, [], []))]
def k225_7 : List Ins := [(92, 1, .aload_n 0, (.null, 0, 0, [], [])), (93, 3, .getfield 156, (.int 0, 11, 4, [], [917])), (96, 1, .ireturn, (.null, 0, 0, [], []))]
def k225_8 : List Ins := [(97, 1, .aload_n 0, (.null, 0, 0, [], [])), (98, 3, .getfield 25, (.null, 11, 9, [], [922])), (101, 2, .bipush 31, (.int 31, 0, 0, [], [])), (103, 1, .iaload, (.null, 0, 0, [], [])), (104, 1, .ireturn, (.null, 0, 0, [], []))]
def k225_9 : List Ins := [(105, 1, .aload_n 0, (.null, 0, 0, [], [])), (106, 3, .invokevirtual 216, (.null, 0, 1, [(11, 168, 3)], [1164, 1166, 47])), (109, 3, .invokestatic 258, (.null, 1, 1, [(0, 136, 3)], [1259, 1260])), (112, 1, .ireturn, (.null, 0, 0, [], []))]
def k225_10 : List Ins := [(113, 1, .aload_n 0, (.null, 0, 0, [], [])), (114, 3, .invokevirtual 250, (.null, 0, 1, [(11, 171, 3)], [1238, 1240, 55])), (117, 1, .ireturn, (.null, 0, 0, [], []))]
def k225_11 : List Ins := [(118, 1, .aload_n 0, (.null, 0, 0, [], [])), (119, 3, .getfield 166, (.int 0, 11, 11, [], [924])), (122, 1, .ireturn, (.null, 0, 0, [], []))]
def k225_12 : List Ins := [(123, 1, .aload_n 0, (.null, 0, 0, [], [])), (124, 3, .getfield 96, (.int 0, 11, 14, [], [927])), (127, 1, .ireturn, (.null, 0, 0, [], []))]
def k225_13 : List Ins := [(128, 2, .ldc 82, (.int (-1000001), 0, 0, [], [1031])), (130, 1, .ireturn, (.null, 0, 0, [], []))]
def m225 : MI := (yX12_count, cX12_count, 4, (some .int), [k225_0, k225_1, k225_2, k225_3, k225_4, k225_5, k225_6, k225_7, k225_8, k225_9, k225_10, k225_11, k225_12, k225_13])
def k226_0 : List Ins := [(0, 1, .aload_n 0, (.null, 0, 0, [], [])), (1, 3, .getfield 66, (.int 0, 11, 3, [], [916])), (4, 1, .ireturn, (.null, 0, 0, [], []))]
def m226 : MI := (yX12_status, cX12_status, 1, (some .int), [k226_0])
def k227_0 : List Ins := [(0, 1, .iload_n 0, (.null, 0, 0, [], [])), (1, 1, .iconst (-1), (.int (-1), 0, 0, [], [])), (2, 1, .ixor, (.null, 0, 0, [], [])), (3, 1, .iload_n 0, (.null, 0, 0, [], [])), (4, 1, .iconst 1, (.int 1, 0, 0, [], [])), (5, 1, .isub, (.null, 0, 0, [], [])), (6, 1, .iand, (.null, 0, 0, [], [])), (7, 1, .istore_n 0, (.null, 0, 0, [], [])), (8, 1, .iload_n 0, (.null, 0, 0, [], [])), (9, 3, .ifCond .gt 8, (.null, 1, 1, [], [])), (12, 1, .iload_n 0, (.null, 0, 0, [], [])), (13, 2, .bipush 32, (.int 32, 0, 0, [], [])), (15, 1, .iand, (.null, 0, 0, [], [])), (16, 1, .ireturn, (.null, 0, 0, [], []))]
def k227_1 : List Ins := [(17, 1, .iconst 1, (.int 1, 0, 0, [], [])), (18, 1, .istore_n 1, (.null, 1, 0, [], [])), (19, 1, .iload_n 0, (.null, 0, 0, [], [])), (20, 3, .ldc_w 264, (.int 65536, 0, 0, [], [769])), (23, 3, .if_icmp .le 11, (.null, 2, 3, [], [])), (26, 3, .iinc 1 16, (.int 16, 1, 0, [], [])), (29, 1, .iload_n 0, (.null, 0, 0, [], [])), (30, 2, .bipush 16, (.int 16, 0, 0, [], [])), (32, 1, .iushr, (.null, 0, 0, [], [])), (33, 1, .istore_n 0, (.null, 0, 0, [], [])), (34, 0, .nop, (.null, 2, 3, [], []))]
def k227_2 : List Ins := [(34, 1, .iload_n 0, (.null, 0, 0, [], [])), (35, 3, .sipush 256, (.int 256, 0, 0, [], [])), (38, 3, .if_icmp .le 11, (.null, 3, 3, [], [])), (41, 3, .iinc 1 8, (.int 8, 1, 0, [], [])), (44, 1, .iload_n 0, (.null, 0, 0, [], [])), (45, 2, .bipush 8, (.int 8, 0, 0, [], [])), (47, 1, .iushr, (.null, 0, 0, [], [])), (48, 1, .istore_n 0, (.null, 0, 0, [], [])), (49, 0, .nop, (.null, 3, 3, [], []))]
def k227_3 : List Ins := [(49, 1, .iload_n 0, (.null, 0, 0, [], [])), (50, 2, .bipush 16, (.int 16, 0, 0, [], [])), (52, 3, .if_icmp .le 10, (.null, 4, 3, [], [])), (55, 3, .iinc 1 4, (.int 4, 1, 0, [], [])), (58, 1, .iload_n 0, (.null, 0, 0, [], [])), (59, 1, .iconst 4, (.int 4, 0, 0, [], [])), (60, 1, .iushr, (.null, 0, 0, [], [])), (61, 1, .istore_n 0, (.null, 0, 0, [], [])), (62, 0, .nop, (.null, 4, 3, [], []))]
def k227_4 : List Ins := [(62, 1, .iload_n 0, (.null, 0, 0, [], [])), (63, 1, .iconst 4, (.int 4, 0, 0, [], [])), (64, 3, .if_icmp .le 10, (.null, 5, 3, [], [])), (67, 3, .iinc 1 2, (.int 2, 1, 0, [], [])), (70, 1, .iload_n 0, (.null, 0, 0, [], [])), (71, 1, .iconst 2, (.int 2, 0, 0, [], [])), (72, 1, .iushr, (.null, 0, 0, [], [])), (73, 1, .istore_n 0, (.null, 0, 0, [], [])), (74, 0, .nop, (.null, 5, 3, [], []))]
def k227_5 : List Ins := [(74, 1, .iload_n 1, (.null, 1, 0, [], [])), (75, 1, .iload_n 0, (.null, 0, 0, [], [])), (76, 1, .iconst 1, (.int 1, 0, 0, [], [])), (77, 1, .iushr, (.null, 0, 0, [], [])), (78, 1, .iadd, (.null, 0, 0, [], [])), (79, 1, .ireturn, (.null, 0, 0, [], []))]
def m227 : MI := (yJ6_numberOfTrailingZeros_0f7a4, cJ6_numberOfTrailingZeros_0f7a4, 2, (some .int), [k227_0, k227_1, k227_2, k227_3, k227_4, k227_5])
def k228_0 : List Ins := [(0, 1, .iload_n 0, (.null, 0, 0, [], [])), (1, 1, .iload_n 0, (.null, 0, 0, [], [])), (2, 1, .iconst 1, (.int 1, 0, 0, [], [])), (3, 1, .iushr, (.null, 0, 0, [], [])), (4, 3, .ldc_w 265, (.int 1431655765, 0, 0, [], [666])), (7, 1, .iand, (.null, 0, 0, [], [])), (8, 1, .isub, (.null, 0, 0, [], [])), (9, 1, .istore_n 0, (.null, 0, 0, [], [])), (10, 1, .iload_n 0, (.null, 0, 0, [], [])), (11, 3, .ldc_w 266, (.int 858993459, 0, 0, [], [667])), (14, 1, .iand, (.null, 0, 0, [], [])), (15, 1, .iload_n 0, (.null, 0, 0, [], [])), (16, 1, .iconst 2, (.int 2, 0, 0, [], [])), (17, 1, .iushr, (.null, 0, 0, [], [])), (18, 3, .ldc_w 266, (.int 858993459, 0, 0, [], [667])), (21, 1, .iand, (.null, 0, 0, [], [])), (22, 1, .iadd, (.null, 0, 0, [], [])), (23, 1, .istore_n 0, (.null, 0, 0, [], [])), (24, 1, .iload_n 0, (.null, 0, 0, [], [])), (25, 1, .iload_n 0, (.null, 0, 0, [], [])), (26, 1, .iconst 4, (.int 4, 0, 0, [], [])), (27, 1, .iushr, (.null, 0, 0, [], [])), (28, 1, .iadd, (.null, 0, 0, [], [])), (29, 3, .ldc_w 267, (.int 252645135, 0, 0, [], [668])), (32, 1, .iand, (.null, 0, 0, [], [])), (33, 1, .istore_n 0, (.null, 0, 0, [], [])), (34, 1, .iload_n 0, (.null, 0, 0, [], [])), (35, 1, .iload_n 0, (.null, 0, 0, [], [])), (36, 2, .bipush 8, (.int 8, 0, 0, [], [])), (38, 1, .iushr, (.null, 0, 0, [], [])), (39, 1, .iadd, (.null, 0, 0, [], [])), (40, 1, .istore_n 0, (.null, 0, 0, [], [])), (41, 1, .iload_n 0, (.null, 0, 0, [], [])), (42, 1, .iload_n 0, (.null, 0, 0, [], [])), (43, 2, .bipush 16, (.int 16, 0, 0, [], [])), (45, 1, .iushr, (.null, 0, 0, [], [])), (46, 1, .iadd, (.null, 0, 0, [], [])), (47, 1, .istore_n 0, (.null, 0, 0, [], [])), (48, 1, .iload_n 0, (.null, 0, 0, [], [])), (49, 2, .bipush 63, (.int 63, 0, 0, [], [])), (51, 1, .iand, (.null, 0, 0, [], [])), (52, 1, .ireturn, (.null, 0, 0, [], []))]
def m228 : MI := (yJ6_bitCount_0f7a4, cJ6_bitCount_0f7a4, 1, (some .int), [k228_0])
def k229_0 : List Ins := [(0, 3, .new 7, (.null, 10, 0, [(1, 0, 0), (1, 0, 0), (1, 0, 0), (1, 0, 0), (1, 0, 0), (1, 0, 0), (1, 0, 0), (1, 0, 0), (1, 0, 0), (0, 0, 0), (0, 0, 0), (0, 0, 0), (0, 0, 0)], [92, 93, 76])), (3, 1, .dup, (.null, 0, 0, [], [])), (4, 3, .invokespecial 9, (.null, 0, 0, [(0, 80, 2)], [94, 95])), (7, 1, .astore_n 1, (.null, 1, 0, [], [])), (8, 3, .new 10, (.null, 11, 0, [(1, 0, 0), (1, 0, 0), (1, 0, 0), (0, 0, 0), (0, 0, 0), (0, 0, 0), (0, 0, 0), (1, 0, 0), (1, 0, 0), (1, 0, 0), (1, 0, 0), (0, 0, 0), (1, 0, 0), (0, 0, 0), (0, 0, 0), (1, 0, 0), (0, 0, 0), (1, 0, 0), (0, 0, 0), (0, 0, 0), (0, 0, 0), (0, 0, 0), (0, 0, 0), (1, 0, 0), (1, 0, 0), (1, 0, 0), (0, 0, 0), (0, 0, 0), (1, 0, 0), (0, 0, 0), (0, 0, 0), (0, 0, 0), (1, 0, 0), (1, 0, 0), (1, 0, 0)], [906, 907, 88])), (11, 1, .dup, (.null, 0, 0, [], [])), (12, 3, .invokespecial 12, (.null, 0, 0, [(0, 133, 2)], [908, 909])), (15, 1, .astore_n 2, (.null, 2, 0, [], [])), (16, 1, .iconst 0, (.int 0, 0, 0, [], [])), (17, 1, .istore_n 3, (.null, 3, 0, [], [])), (18, 0, .nop, (.null, 1, 15, [], []))]
def k229_1 : List Ins := [(18, 1, .iload_n 3, (.null, 3, 0, [], [])), (19, 1, .aload_n 0, (.null, 0, 0, [], [])), (20, 1, .arraylength, (.null, 0, 0, [], [])), (21, 2, .bipush 6, (.int 6, 0, 0, [], [])), (23, 1, .isub, (.null, 0, 0, [], [])), (24, 3, .if_icmp .gt 1300, (.null, 40, 0, [], [])), (27, 1, .aload_n 0, (.null, 0, 0, [], [])), (28, 1, .iload_n 3, (.null, 3, 0, [], [])), (29, 1, .iaload, (.null, 0, 0, [], [])), (30, 2, .bipush 63, (.int 63, 0, 0, [], [])), (32, 1, .iand, (.null, 0, 0, [], [])), (33, 163, .tableswitch 1285 0 36 #[163, 206, 249, 312, 335, 358, 371, 384, 397, 420, 443, 466, 499, 532, 565, 588, 631, 664, 697, 730, 743, 776, 799, 832, 865, 898, 931, 994, 1048, 1091, 1114, 1137, 1160, 1193, 1226, 1249, 1272], (.null, 39, 15, [(0, 2, 15), (1, 3, 15), (2, 4, 15), (3, 5, 15), (4, 6, 15), (5, 7, 15), (6, 8, 15), (7, 9, 15), (8, 10, 15), (9, 11, 15), (10, 12, 15), (11, 13, 15), (12, 14, 15), (13, 15, 15), (14, 16, 15), (15, 17, 15), (16, 18, 15), (17, 19, 15), (18, 20, 15), (19, 21, 15), (20, 22, 15), (21, 23, 15), (22, 24, 15), (23, 25, 15), (24, 26, 15), (25, 27, 15), (26, 28, 15), (27, 29, 15), (28, 30, 15), (29, 31, 15), (30, 32, 15), (31, 33, 15), (32, 34, 15), (33, 35, 15), (34, 36, 15), (35, 37, 15), (36, 38, 15)], []))]
def k229_2 : List Ins := [(196, 1, .aload_n 1, (.null, 1, 0, [], [])), (197, 1, .aload_n 0, (.null, 0, 0, [], [])), (198, 1, .iload_n 3, (.null, 3, 0, [], [])), (199, 1, .iconst 1, (.int 1, 0, 0, [], [])), (200, 1, .iadd, (.null, 0, 0, [], [])), (201, 1, .iaload, (.null, 0, 0, [], [])), (202, 1, .aload_n 0, (.null, 0, 0, [], [])), (203, 1, .iload_n 3, (.null, 3, 0, [], [])), (204, 1, .iconst 2, (.int 2, 0, 0, [], [])), (205, 1, .iadd, (.null, 0, 0, [], [])), (206, 1, .iaload, (.null, 0, 0, [], [])), (207, 1, .aload_n 0, (.null, 0, 0, [], [])), (208, 1, .iload_n 3, (.null, 3, 0, [], [])), (209, 1, .iconst 3, (.int 3, 0, 0, [], [])), (210, 1, .iadd, (.null, 0, 0, [], [])), (211, 1, .iaload, (.null, 0, 0, [], [])), (212, 3, .invokevirtual 13, (.null, 3, 1, [(10, 81, 4)], [367, 368, 369])), (215, 1, .aload_n 2, (.null, 2, 0, [], [])), (216, 1, .aload_n 0, (.null, 0, 0, [], [])), (217, 1, .iload_n 3, (.null, 3, 0, [], [])), (218, 1, .iconst 1, (.int 1, 0, 0, [], [])), (219, 1, .iadd, (.null, 0, 0, [], [])), (220, 1, .iaload, (.null, 0, 0, [], [])), (221, 1, .aload_n 0, (.null, 0, 0, [], [])), (222, 1, .iload_n 3, (.null, 3, 0, [], [])), (223, 1, .iconst 2, (.int 2, 0, 0, [], [])), (224, 1, .iadd, (.null, 0, 0, [], [])), (225, 1, .iaload, (.null, 0, 0, [], [])), (226, 1, .aload_n 0, (.null, 0, 0, [], [])), (227, 1, .iload_n 3, (.null, 3, 0, [], [])), (228, 1, .iconst 3, (.int 3, 0, 0, [], [])), (229, 1, .iadd, (.null, 0, 0, [], [])), (230, 1, .iaload, (.null, 0, 0, [], [])), (231, 3, .invokevirtual 17, (.null, 3, 1, [(11, 140, 5)], [1019, 1020, 1021])), (234, 3, .if_icmp .eq 1084, (.null, 39, 15, [], [])), (237, 1, .iconst 0, (.int 0, 0, 0, [], [])), (238, 1, .ireturn, (.null, 1, 0, [], []))]
def k229_3 : List Ins := [(239, 1, .aload_n 1, (.null, 1, 0, [], [])), (240, 1, .aload_n 0, (.null, 0, 0, [], [])), (241, 1, .iload_n 3, (.null, 3, 0, [], [])), (242, 1, .iconst 1, (.int 1, 0, 0, [], [])), (243, 1, .iadd, (.null, 0, 0, [], [])), (244, 1, .iaload, (.null, 0, 0, [], [])), (245, 1, .aload_n 0, (.null, 0, 0, [], [])), (246, 1, .iload_n 3, (.null, 3, 0, [], [])), (247, 1, .iconst 2, (.int 2, 0, 0, [], [])), (248, 1, .iadd, (.null, 0, 0, [], [])), (249, 1, .iaload, (.null, 0, 0, [], [])), (250, 1, .aload_n 0, (.null, 0, 0, [], [])), (251, 1, .iload_n 3, (.null, 3, 0, [], [])), (252, 1, .iconst 3, (.int 3, 0, 0, [], [])), (253, 1, .iadd, (.null, 0, 0, [], [])), (254, 1, .iaload, (.null, 0, 0, [], [])), (255, 3, .invokevirtual 18, (.null, 3, 1, [(10, 82, 4)], [391, 392, 393])), (258, 1, .aload_n 2, (.null, 2, 0, [], [])), (259, 1, .aload_n 0, (.null, 0, 0, [], [])), (260, 1, .iload_n 3, (.null, 3, 0, [], [])), (261, 1, .iconst 1, (.int 1, 0, 0, [], [])), (262, 1, .iadd, (.null, 0, 0, [], [])), (263, 1, .iaload, (.null, 0, 0, [], [])), (264, 1, .aload_n 0, (.null, 0, 0, [], [])), (265, 1, .iload_n 3, (.null, 3, 0, [], [])), (266, 1, .iconst 2, (.int 2, 0, 0, [], [])), (267, 1, .iadd, (.null, 0, 0, [], [])), (268, 1, .iaload, (.null, 0, 0, [], [])), (269, 1, .aload_n 0, (.null, 0, 0, [], [])), (270, 1, .iload_n 3, (.null, 3, 0, [], [])), (271, 1, .iconst 3, (.int 3, 0, 0, [], [])), (272, 1, .iadd, (.null, 0, 0, [], [])), (273, 1, .iaload, (.null, 0, 0, [], [])), (274, 3, .invokevirtual 21, (.null, 3, 1, [(11, 141, 4)], [1041, 1042, 1043])), (277, 3, .if_icmp .eq 1041, (.null, 39, 15, [], [])), (280, 1, .iconst 0, (.int 0, 0, 0, [], [])), (281, 1, .ireturn, (.null, 1, 0, [], []))]
def k229_4 : List Ins := [(282, 1, .aload_n 1, (.null, 1, 0, [], [])), (283, 1, .aload_n 0, (.null, 0, 0, [], [])), (284, 1, .iload_n 3, (.null, 3, 0, [], [])), (285, 1, .iconst 1, (.int 1, 0, 0, [], [])), (286, 1, .iadd, (.null, 0, 0, [], [])), (287, 1, .iaload, (.null, 0, 0, [], [])), (288, 1, .aload_n 0, (.null, 0, 0, [], [])), (289, 1, .iload_n 3, (.null, 3, 0, [], [])), (290, 1, .iconst 2, (.int 2, 0, 0, [], [])), (291, 1, .iadd, (.null, 0, 0, [], [])), (292, 1, .iaload, (.null, 0, 0, [], [])), (293, 1, .aload_n 0, (.null, 0, 0, [], [])), (294, 1, .iload_n 3, (.null, 3, 0, [], [])), (295, 1, .iconst 3, (.int 3, 0, 0, [], [])), (296, 1, .iadd, (.null, 0, 0, [], [])), (297, 1, .iaload, (.null, 0, 0, [], [])), (298, 1, .aload_n 0, (.null, 0, 0, [], [])), (299, 1, .iload_n 3, (.null, 3, 0, [], [])), (300, 1, .iconst 4, (.int 4, 0, 0, [], [])), (301, 1, .iadd, (.null, 0, 0, [], [])), (302, 1, .iaload, (.null, 0, 0, [], [])), (303, 1, .aload_n 0, (.null, 0, 0, [], [])), (304, 1, .iload_n 3, (.null, 3, 0, [], [])), (305, 1, .iconst 5, (.int 5, 0, 0, [], [])), (306, 1, .iadd, (.null, 0, 0, [], [])), (307, 1, .iaload, (.null, 0, 0, [], [])), (308, 3, .invokevirtual 22, (.null, 5, 1, [(10, 83, 6)], [410, 411, 412])), (311, 1, .aload_n 2, (.null, 2, 0, [], [])), (312, 1, .aload_n 0, (.null, 0, 0, [], [])), (313, 1, .iload_n 3, (.null, 3, 0, [], [])), (314, 1, .iconst 1, (.int 1, 0, 0, [], [])), (315, 1, .iadd, (.null, 0, 0, [], [])), (316, 1, .iaload, (.null, 0, 0, [], [])), (317, 1, .aload_n 0, (.null, 0, 0, [], [])), (318, 1, .iload_n 3, (.null, 3, 0, [], [])), (319, 1, .iconst 2, (.int 2, 0, 0, [], [])), (320, 1, .iadd, (.null, 0, 0, [], [])), (321, 1, .iaload, (.null, 0, 0, [], [])), (322, 1, .aload_n 0, (.null, 0, 0, [], [])), (323, 1, .iload_n 3, (.null, 3, 0, [], [])), (324, 1, .iconst 3, (.int 3, 0, 0, [], [])), (325, 1, .iadd, (.null, 0, 0, [], [])), (326, 1, .iaload, (.null, 0, 0, [], [])), (327, 1, .aload_n 0, (.null, 0, 0, [], [])), (328, 1, .iload_n 3, (.null, 3, 0, [], [])), (329, 1, .iconst 4, (.int 4, 0, 0, [], [])), (330, 1, .iadd, (.null, 0, 0, [], [])), (331, 1, .iaload, (.null, 0, 0, [], [])), (332, 1, .aload_n 0, (.null, 0, 0, [], [])), (333, 1, .iload_n 3, (.null, 3, 0, [], [])), (334, 1, .iconst 5, (.int 5, 0, 0, [], [])), (335, 1, .iadd, (.null, 0, 0, [], [])), (336, 1, .iaload, (.null, 0, 0, [], [])), (337, 3, .invokevirtual 26, (.null, 5, 1, [(11, 143, 9)], [1045, 1046, 1047])), (340, 3, .if_icmp .eq 978, (.null, 39, 15, [], [])), (343, 1, .iconst 0, (.int 0, 0, 0, [], [])), (344, 1, .ireturn, (.null, 1, 0, [], []))]
def k229_5 : List Ins := [(345, 1, .aload_n 1, (.null, 1, 0, [], [])), (346, 1, .aload_n 0, (.null, 0, 0, [], [])), (347, 1, .iload_n 3, (.null, 3, 0, [], [])), (348, 1, .iconst 1, (.int 1, 0, 0, [], [])), (349, 1, .iadd, (.null, 0, 0, [], [])), (350, 1, .iaload, (.null, 0, 0, [], [])), (351, 3, .invokevirtual 27, (.null, 1, 1, [(10, 84, 2)], [417, 418, 419])), (354, 1, .aload_n 2, (.null, 2, 0, [], [])), (355, 1, .aload_n 0, (.null, 0, 0, [], [])), (356, 1, .iload_n 3, (.null, 3, 0, [], [])), (357, 1, .iconst 1, (.int 1, 0, 0, [], [])), (358, 1, .iadd, (.null, 0, 0, [], [])), (359, 1, .iaload, (.null, 0, 0, [], [])), (360, 3, .invokevirtual 31, (.null, 1, 1, [(11, 144, 3)], [1053, 1054, 1055])), (363, 3, .if_icmp .eq 955, (.null, 39, 15, [], [])), (366, 1, .iconst 0, (.int 0, 0, 0, [], [])), (367, 1, .ireturn, (.null, 1, 0, [], []))]
def k229_6 : List Ins := [(368, 1, .aload_n 1, (.null, 1, 0, [], [])), (369, 1, .aload_n 0, (.null, 0, 0, [], [])), (370, 1, .iload_n 3, (.null, 3, 0, [], [])), (371, 1, .iconst 1, (.int 1, 0, 0, [], [])), (372, 1, .iadd, (.null, 0, 0, [], [])), (373, 1, .iaload, (.null, 0, 0, [], [])), (374, 3, .invokevirtual 32, (.null, 1, 1, [(10, 85, 2)], [425, 426, 427])), (377, 1, .aload_n 2, (.null, 2, 0, [], [])), (378, 1, .aload_n 0, (.null, 0, 0, [], [])), (379, 1, .iload_n 3, (.null, 3, 0, [], [])), (380, 1, .iconst 1, (.int 1, 0, 0, [], [])), (381, 1, .iadd, (.null, 0, 0, [], [])), (382, 1, .iaload, (.null, 0, 0, [], [])), (383, 3, .invokevirtual 35, (.null, 1, 1, [(11, 145, 2)], [1057, 1058, 1059])), (386, 3, .if_icmp .eq 932, (.null, 39, 15, [], [])), (389, 1, .iconst 0, (.int 0, 0, 0, [], [])), (390, 1, .ireturn, (.null, 1, 0, [], []))]
def k229_7 : List Ins := [(391, 1, .aload_n 1, (.null, 1, 0, [], [])), (392, 3, .invokevirtual 36, (.null, 0, 1, [(10, 86, 2)], [434, 435, 436])), (395, 1, .aload_n 2, (.null, 2, 0, [], [])), (396, 3, .invokevirtual 40, (.null, 0, 1, [(11, 154, 3)], [1063, 1064, 1065])), (399, 3, .if_icmp .eq 919, (.null, 39, 15, [], [])), (402, 1, .iconst 0, (.int 0, 0, 0, [], [])), (403, 1, .ireturn, (.null, 1, 0, [], []))]
def k229_8 : List Ins := [(404, 1, .aload_n 1, (.null, 1, 0, [], [])), (405, 3, .invokevirtual 41, (.null, 0, 1, [(10, 87, 1)], [495, 496, 497])), (408, 1, .aload_n 2, (.null, 2, 0, [], [])), (409, 3, .invokevirtual 44, (.null, 0, 1, [(11, 155, 1)], [1102, 1103, 1104])), (412, 3, .if_icmp .eq 906, (.null, 39, 15, [], [])), (415, 1, .iconst 0, (.int 0, 0, 0, [], [])), (416, 1, .ireturn, (.null, 1, 0, [], []))]
def k229_9 : List Ins := [(417, 1, .aload_n 1, (.null, 1, 0, [], [])), (418, 3, .invokevirtual 45, (.null, 0, 1, [(10, 88, 1)], [499, 500, 501])), (421, 1, .aload_n 2, (.null, 2, 0, [], [])), (422, 3, .invokevirtual 48, (.null, 0, 1, [(11, 175, 2)], [1106, 1107, 1108])), (425, 3, .if_icmp .eq 893, (.null, 39, 15, [], [])), (428, 1, .iconst 0, (.int 0, 0, 0, [], [])), (429, 1, .ireturn, (.null, 1, 0, [], []))]
def k229_10 : List Ins := [(430, 1, .aload_n 1, (.null, 1, 0, [], [])), (431, 1, .aload_n 0, (.null, 0, 0, [], [])), (432, 1, .iload_n 3, (.null, 3, 0, [], [])), (433, 1, .iconst 1, (.int 1, 0, 0, [], [])), (434, 1, .iadd, (.null, 0, 0, [], [])), (435, 1, .iaload, (.null, 0, 0, [], [])), (436, 3, .invokevirtual 49, (.null, 1, 1, [(10, 89, 3)], [504, 505, 506])), (439, 1, .aload_n 2, (.null, 2, 0, [], [])), (440, 1, .aload_n 0, (.null, 0, 0, [], [])), (441, 1, .iload_n 3, (.null, 3, 0, [], [])), (442, 1, .iconst 1, (.int 1, 0, 0, [], [])), (443, 1, .iadd, (.null, 0, 0, [], [])), (444, 1, .iaload, (.null, 0, 0, [], [])), (445, 3, .invokevirtual 52, (.null, 1, 1, [(11, 176, 3)], [1111, 1112, 1113])), (448, 3, .if_icmp .eq 870, (.null, 39, 15, [], [])), (451, 1, .iconst 0, (.int 0, 0, 0, [], [])), (452, 1, .ireturn, (.null, 1, 0, [], []))]
def k229_11 : List Ins := [(453, 1, .aload_n 1, (.null, 1, 0, [], [])), (454, 1, .aload_n 0, (.null, 0, 0, [], [])), (455, 1, .iload_n 3, (.null, 3, 0, [], [])), (456, 1, .iconst 1, (.int 1, 0, 0, [], [])), (457, 1, .iadd, (.null, 0, 0, [], [])), (458, 1, .iaload, (.null, 0, 0, [], [])), (459, 3, .invokevirtual 53, (.null, 1, 1, [(10, 90, 3)], [543, 544, 545])), (462, 1, .aload_n 2, (.null, 2, 0, [], [])), (463, 1, .aload_n 0, (.null, 0, 0, [], [])), (464, 1, .iload_n 3, (.null, 3, 0, [], [])), (465, 1, .iconst 1, (.int 1, 0, 0, [], [])), (466, 1, .iadd, (.null, 0, 0, [], [])), (467, 1, .iaload, (.null, 0, 0, [], [])), (468, 3, .invokevirtual 56, (.null, 1, 1, [(11, 177, 3)], [1168, 1169, 1170])), (471, 3, .if_icmp .eq 847, (.null, 39, 15, [], [])), (474, 1, .iconst 0, (.int 0, 0, 0, [], [])), (475, 1, .ireturn, (.null, 1, 0, [], []))]
def k229_12 : List Ins := [(476, 1, .aload_n 1, (.null, 1, 0, [], [])), (477, 1, .aload_n 0, (.null, 0, 0, [], [])), (478, 1, .iload_n 3, (.null, 3, 0, [], [])), (479, 1, .iconst 1, (.int 1, 0, 0, [], [])), (480, 1, .iadd, (.null, 0, 0, [], [])), (481, 1, .iaload, (.null, 0, 0, [], [])), (482, 3, .invokevirtual 57, (.null, 1, 1, [(10, 91, 2)], [547, 548, 549])), (485, 1, .aload_n 2, (.null, 2, 0, [], [])), (486, 1, .aload_n 0, (.null, 0, 0, [], [])), (487, 1, .iload_n 3, (.null, 3, 0, [], [])), (488, 1, .iconst 1, (.int 1, 0, 0, [], [])), (489, 1, .iadd, (.null, 0, 0, [], [])), (490, 1, .iaload, (.null, 0, 0, [], [])), (491, 3, .invokevirtual 60, (.null, 1, 1, [(11, 179, 2)], [1173, 1174, 1175])), (494, 3, .if_icmp .eq 824, (.null, 39, 15, [], [])), (497, 1, .iconst 0, (.int 0, 0, 0, [], [])), (498, 1, .ireturn, (.null, 1, 0, [], []))]
def k229_13 : List Ins := [(499, 1, .aload_n 1, (.null, 1, 0, [], [])), (500, 1, .aload_n 0, (.null, 0, 0, [], [])), (501, 1, .iload_n 3, (.null, 3, 0, [], [])), (502, 1, .iconst 1, (.int 1, 0, 0, [], [])), (503, 1, .iadd, (.null, 0, 0, [], [])), (504, 1, .iaload, (.null, 0, 0, [], [])), (505, 1, .aload_n 0, (.null, 0, 0, [], [])), (506, 1, .iload_n 3, (.null, 3, 0, [], [])), (507, 1, .iconst 2, (.int 2, 0, 0, [], [])), (508, 1, .iadd, (.null, 0, 0, [], [])), (509, 1, .iaload, (.null, 0, 0, [], [])), (510, 3, .invokevirtual 61, (.null, 2, 1, [(10, 92, 3)], [561, 562, 563])), (513, 1, .aload_n 2, (.null, 2, 0, [], [])), (514, 1, .aload_n 0, (.null, 0, 0, [], [])), (515, 1, .iload_n 3, (.null, 3, 0, [], [])), (516, 1, .iconst 1, (.int 1, 0, 0, [], [])), (517, 1, .iadd, (.null, 0, 0, [], [])), (518, 1, .iaload, (.null, 0, 0, [], [])), (519, 1, .aload_n 0, (.null, 0, 0, [], [])), (520, 1, .iload_n 3, (.null, 3, 0, [], [])), (521, 1, .iconst 2, (.int 2, 0, 0, [], [])), (522, 1, .iadd, (.null, 0, 0, [], [])), (523, 1, .iaload, (.null, 0, 0, [], [])), (524, 3, .invokevirtual 65, (.null, 2, 1, [(11, 181, 3)], [1189, 1190, 1191])), (527, 3, .if_icmp .eq 791, (.null, 39, 15, [], [])), (530, 1, .iconst 0, (.int 0, 0, 0, [], [])), (531, 1, .ireturn, (.null, 1, 0, [], []))]
def k229_14 : List Ins := [(532, 1, .aload_n 1, (.null, 1, 0, [], [])), (533, 1, .aload_n 0, (.null, 0, 0, [], [])), (534, 1, .iload_n 3, (.null, 3, 0, [], [])), (535, 1, .iconst 1, (.int 1, 0, 0, [], [])), (536, 1, .iadd, (.null, 0, 0, [], [])), (537, 1, .iaload, (.null, 0, 0, [], [])), (538, 1, .aload_n 0, (.null, 0, 0, [], [])), (539, 1, .iload_n 3, (.null, 3, 0, [], [])), (540, 1, .iconst 2, (.int 2, 0, 0, [], [])), (541, 1, .iadd, (.null, 0, 0, [], [])), (542, 1, .iaload, (.null, 0, 0, [], [])), (543, 3, .invokevirtual 66, (.null, 2, 1, [(10, 93, 3)], [573, 574, 575])), (546, 1, .aload_n 2, (.null, 2, 0, [], [])), (547, 1, .aload_n 0, (.null, 0, 0, [], [])), (548, 1, .iload_n 3, (.null, 3, 0, [], [])), (549, 1, .iconst 1, (.int 1, 0, 0, [], [])), (550, 1, .iadd, (.null, 0, 0, [], [])), (551, 1, .iaload, (.null, 0, 0, [], [])), (552, 1, .aload_n 0, (.null, 0, 0, [], [])), (553, 1, .iload_n 3, (.null, 3, 0, [], [])), (554, 1, .iconst 2, (.int 2, 0, 0, [], [])), (555, 1, .iadd, (.null, 0, 0, [], [])), (556, 1, .iaload, (.null, 0, 0, [], [])), (557, 3, .invokevirtual 69, (.null, 2, 1, [(11, 182, 3)], [1205, 1206, 1207])), (560, 3, .if_icmp .eq 758, (.null, 39, 15, [], [])), (563, 1, .iconst 0, (.int 0, 0, 0, [], [])), (564, 1, .ireturn, (.null, 1, 0, [], []))]
def k229_15 : List Ins := [(565, 1, .aload_n 1, (.null, 1, 0, [], [])), (566, 1, .aload_n 0, (.null, 0, 0, [], [])), (567, 1, .iload_n 3, (.null, 3, 0, [], [])), (568, 1, .iconst 1, (.int 1, 0, 0, [], [])), (569, 1, .iadd, (.null, 0, 0, [], [])), (570, 1, .iaload, (.null, 0, 0, [], [])), (571, 1, .aload_n 0, (.null, 0, 0, [], [])), (572, 1, .iload_n 3, (.null, 3, 0, [], [])), (573, 1, .iconst 2, (.int 2, 0, 0, [], [])), (574, 1, .iadd, (.null, 0, 0, [], [])), (575, 1, .iaload, (.null, 0, 0, [], [])), (576, 3, .invokevirtual 70, (.null, 2, 1, [(10, 94, 3)], [578, 579, 580])), (579, 1, .aload_n 2, (.null, 2, 0, [], [])), (580, 1, .aload_n 0, (.null, 0, 0, [], [])), (581, 1, .iload_n 3, (.null, 3, 0, [], [])), (582, 1, .iconst 1, (.int 1, 0, 0, [], [])), (583, 1, .iadd, (.null, 0, 0, [], [])), (584, 1, .iaload, (.null, 0, 0, [], [])), (585, 1, .aload_n 0, (.null, 0, 0, [], [])), (586, 1, .iload_n 3, (.null, 3, 0, [], [])), (587, 1, .iconst 2, (.int 2, 0, 0, [], [])), (588, 1, .iadd, (.null, 0, 0, [], [])), (589, 1, .iaload, (.null, 0, 0, [], [])), (590, 3, .invokevirtual 73, (.null, 2, 1, [(11, 183, 5)], [1210, 1211, 1212])), (593, 3, .if_icmp .eq 725, (.null, 39, 15, [], [])), (596, 1, .iconst 0, (.int 0, 0, 0, [], [])), (597, 1, .ireturn, (.null, 1, 0, [], []))]
def k229_16 : List Ins := [(598, 1, .aload_n 1, (.null, 1, 0, [], [])), (599, 1, .aload_n 0, (.null, 0, 0, [], [])), (600, 1, .iload_n 3, (.null, 3, 0, [], [])), (601, 1, .iconst 1, (.int 1, 0, 0, [], [])), (602, 1, .iadd, (.null, 0, 0, [], [])), (603, 1, .iaload, (.null, 0, 0, [], [])), (604, 3, .invokevirtual 74, (.null, 1, 1, [(10, 95, 2)], [582, 583, 584])), (607, 1, .aload_n 2, (.null, 2, 0, [], [])), (608, 1, .aload_n 0, (.null, 0, 0, [], [])), (609, 1, .iload_n 3, (.null, 3, 0, [], [])), (610, 1, .iconst 1, (.int 1, 0, 0, [], [])), (611, 1, .iadd, (.null, 0, 0, [], [])), (612, 1, .iaload, (.null, 0, 0, [], [])), (613, 3, .invokevirtual 77, (.null, 1, 1, [(11, 184, 2)], [1214, 1215, 1216])), (616, 3, .if_icmp .eq 702, (.null, 39, 15, [], [])), (619, 1, .iconst 0, (.int 0, 0, 0, [], [])), (620, 1, .ireturn, (.null, 1, 0, [], []))]
def k229_17 : List Ins := [(621, 1, .aload_n 1, (.null, 1, 0, [], [])), (622, 1, .aload_n 0, (.null, 0, 0, [], [])), (623, 1, .iload_n 3, (.null, 3, 0, [], [])), (624, 1, .iconst 1, (.int 1, 0, 0, [], [])), (625, 1, .iadd, (.null, 0, 0, [], [])), (626, 1, .iaload, (.null, 0, 0, [], [])), (627, 1, .aload_n 0, (.null, 0, 0, [], [])), (628, 1, .iload_n 3, (.null, 3, 0, [], [])), (629, 1, .iconst 2, (.int 2, 0, 0, [], [])), (630, 1, .iadd, (.null, 0, 0, [], [])), (631, 1, .iaload, (.null, 0, 0, [], [])), (632, 1, .aload_n 0, (.null, 0, 0, [], [])), (633, 1, .iload_n 3, (.null, 3, 0, [], [])), (634, 1, .iconst 3, (.int 3, 0, 0, [], [])), (635, 1, .iadd, (.null, 0, 0, [], [])), (636, 1, .iaload, (.null, 0, 0, [], [])), (637, 3, .invokevirtual 78, (.null, 3, 1, [(10, 96, 5)], [598, 599, 600])), (640, 1, .aload_n 2, (.null, 2, 0, [], [])), (641, 1, .aload_n 0, (.null, 0, 0, [], [])), (642, 1, .iload_n 3, (.null, 3, 0, [], [])), (643, 1, .iconst 1, (.int 1, 0, 0, [], [])), (644, 1, .iadd, (.null, 0, 0, [], [])), (645, 1, .iaload, (.null, 0, 0, [], [])), (646, 1, .aload_n 0, (.null, 0, 0, [], [])), (647, 1, .iload_n 3, (.null, 3, 0, [], [])), (648, 1, .iconst 2, (.int 2, 0, 0, [], [])), (649, 1, .iadd, (.null, 0, 0, [], [])), (650, 1, .iaload, (.null, 0, 0, [], [])), (651, 1, .aload_n 0, (.null, 0, 0, [], [])), (652, 1, .iload_n 3, (.null, 3, 0, [], [])), (653, 1, .iconst 3, (.int 3, 0, 0, [], [])), (654, 1, .iadd, (.null, 0, 0, [], [])), (655, 1, .iaload, (.null, 0, 0, [], [])), (656, 3, .invokevirtual 81, (.null, 3, 1, [(11, 186, 4)], [1222, 1223, 1224])), (659, 3, .if_icmp .eq 659, (.null, 39, 15, [], [])), (662, 1, .iconst 0, (.int 0, 0, 0, [], [])), (663, 1, .ireturn, (.null, 1, 0, [], []))]
def k229_18 : List Ins := [(664, 1, .aload_n 1, (.null, 1, 0, [], [])), (665, 1, .aload_n 0, (.null, 0, 0, [], [])), (666, 1, .iload_n 3, (.null, 3, 0, [], [])), (667, 1, .iconst 1, (.int 1, 0, 0, [], [])), (668, 1, .iadd, (.null, 0, 0, [], [])), (669, 1, .iaload, (.null, 0, 0, [], [])), (670, 1, .aload_n 0, (.null, 0, 0, [], [])), (671, 1, .iload_n 3, (.null, 3, 0, [], [])), (672, 1, .iconst 2, (.int 2, 0, 0, [], [])), (673, 1, .iadd, (.null, 0, 0, [], [])), (674, 1, .iaload, (.null, 0, 0, [], [])), (675, 3, .invokevirtual 82, (.null, 2, 1, [(10, 97, 3)], [612, 613, 614])), (678, 1, .aload_n 2, (.null, 2, 0, [], [])), (679, 1, .aload_n 0, (.null, 0, 0, [], [])), (680, 1, .iload_n 3, (.null, 3, 0, [], [])), (681, 1, .iconst 1, (.int 1, 0, 0, [], [])), (682, 1, .iadd, (.null, 0, 0, [], [])), (683, 1, .iaload, (.null, 0, 0, [], [])), (684, 1, .aload_n 0, (.null, 0, 0, [], [])), (685, 1, .iload_n 3, (.null, 3, 0, [], [])), (686, 1, .iconst 2, (.int 2, 0, 0, [], [])), (687, 1, .iadd, (.null, 0, 0, [], [])), (688, 1, .iaload, (.null, 0, 0, [], [])), (689, 3, .invokevirtual 85, (.null, 2, 1, [(11, 187, 3)], [1230, 1231, 1232])), (692, 3, .if_icmp .eq 626, (.null, 39, 15, [], [])), (695, 1, .iconst 0, (.int 0, 0, 0, [], [])), (696, 1, .ireturn, (.null, 1, 0, [], []))]
def k229_19 : List Ins := [(697, 1, .aload_n 1, (.null, 1, 0, [], [])), (698, 1, .aload_n 0, (.null, 0, 0, [], [])), (699, 1, .iload_n 3, (.null, 3, 0, [], [])), (700, 1, .iconst 1, (.int 1, 0, 0, [], [])), (701, 1, .iadd, (.null, 0, 0, [], [])), (702, 1, .iaload, (.null, 0, 0, [], [])), (703, 1, .aload_n 0, (.null, 0, 0, [], [])), (704, 1, .iload_n 3, (.null, 3, 0, [], [])), (705, 1, .iconst 2, (.int 2, 0, 0, [], [])), (706, 1, .iadd, (.null, 0, 0, [], [])), (707, 1, .iaload, (.null, 0, 0, [], [])), (708, 3, .invokevirtual 86, (.null, 2, 1, [(10, 98, 4)], [616, 617, 618])), (711, 1, .aload_n 2, (.null, 2, 0, [], [])), (712, 1, .aload_n 0, (.null, 0, 0, [], [])), (713, 1, .iload_n 3, (.null, 3, 0, [], [])), (714, 1, .iconst 1, (.int 1, 0, 0, [], [])), (715, 1, .iadd, (.null, 0, 0, [], [])), (716, 1, .iaload, (.null, 0, 0, [], [])), (717, 1, .aload_n 0, (.null, 0, 0, [], [])), (718, 1, .iload_n 3, (.null, 3, 0, [], [])), (719, 1, .iconst 2, (.int 2, 0, 0, [], [])), (720, 1, .iadd, (.null, 0, 0, [], [])), (721, 1, .iaload, (.null, 0, 0, [], [])), (722, 3, .invokevirtual 89, (.null, 2, 1, [(11, 188, 3)], [1234, 1235, 1236])), (725, 3, .if_icmp .eq 593, (.null, 39, 15, [], [])), (728, 1, .iconst 0, (.int 0, 0, 0, [], [])), (729, 1, .ireturn, (.null, 1, 0, [], []))]
def k229_20 : List Ins := [(730, 1, .aload_n 1, (.null, 1, 0, [], [])), (731, 1, .aload_n 0, (.null, 0, 0, [], [])), (732, 1, .iload_n 3, (.null, 3, 0, [], [])), (733, 1, .iconst 1, (.int 1, 0, 0, [], [])), (734, 1, .iadd, (.null, 0, 0, [], [])), (735, 1, .iaload, (.null, 0, 0, [], [])), (736, 1, .aload_n 0, (.null, 0, 0, [], [])), (737, 1, .iload_n 3, (.null, 3, 0, [], [])), (738, 1, .iconst 2, (.int 2, 0, 0, [], [])), (739, 1, .iadd, (.null, 0, 0, [], [])), (740, 1, .iaload, (.null, 0, 0, [], [])), (741, 3, .invokevirtual 90, (.null, 2, 1, [(10, 99, 3)], [624, 625, 626])), (744, 1, .aload_n 2, (.null, 2, 0, [], [])), (745, 1, .aload_n 0, (.null, 0, 0, [], [])), (746, 1, .iload_n 3, (.null, 3, 0, [], [])), (747, 1, .iconst 1, (.int 1, 0, 0, [], [])), (748, 1, .iadd, (.null, 0, 0, [], [])), (749, 1, .iaload, (.null, 0, 0, [], [])), (750, 1, .aload_n 0, (.null, 0, 0, [], [])), (751, 1, .iload_n 3, (.null, 3, 0, [], [])), (752, 1, .iconst 2, (.int 2, 0, 0, [], [])), (753, 1, .iadd, (.null, 0, 0, [], [])), (754, 1, .iaload, (.null, 0, 0, [], [])), (755, 3, .invokevirtual 93, (.null, 2, 1, [(11, 189, 4)], [1242, 1243, 1244])), (758, 3, .if_icmp .eq 560, (.null, 39, 15, [], [])), (761, 1, .iconst 0, (.int 0, 0, 0, [], [])), (762, 1, .ireturn, (.null, 1, 0, [], []))]
def k229_21 : List Ins := [(763, 1, .aload_n 1, (.null, 1, 0, [], [])), (764, 3, .invokevirtual 94, (.null, 0, 1, [(10, 100, 1)], [638, 639, 640])), (767, 1, .aload_n 2, (.null, 2, 0, [], [])), (768, 3, .invokevirtual 97, (.null, 0, 1, [(11, 190, 2)], [1246, 1247, 1248])), (771, 3, .if_icmp .eq 547, (.null, 39, 15, [], [])), (774, 1, .iconst 0, (.int 0, 0, 0, [], [])), (775, 1, .ireturn, (.null, 1, 0, [], []))]
def k229_22 : List Ins := [(776, 1, .aload_n 1, (.null, 1, 0, [], [])), (777, 1, .aload_n 0, (.null, 0, 0, [], [])), (778, 1, .iload_n 3, (.null, 3, 0, [], [])), (779, 1, .iconst 1, (.int 1, 0, 0, [], [])), (780, 1, .iadd, (.null, 0, 0, [], [])), (781, 1, .iaload, (.null, 0, 0, [], [])), (782, 1, .aload_n 0, (.null, 0, 0, [], [])), (783, 1, .iload_n 3, (.null, 3, 0, [], [])), (784, 1, .iconst 2, (.int 2, 0, 0, [], [])), (785, 1, .iadd, (.null, 0, 0, [], [])), (786, 1, .iaload, (.null, 0, 0, [], [])), (787, 3, .invokevirtual 98, (.null, 2, 1, [(10, 101, 3)], [643, 644, 645])), (790, 1, .aload_n 2, (.null, 2, 0, [], [])), (791, 1, .aload_n 0, (.null, 0, 0, [], [])), (792, 1, .iload_n 3, (.null, 3, 0, [], [])), (793, 1, .iconst 1, (.int 1, 0, 0, [], [])), (794, 1, .iadd, (.null, 0, 0, [], [])), (795, 1, .iaload, (.null, 0, 0, [], [])), (796, 1, .aload_n 0, (.null, 0, 0, [], [])), (797, 1, .iload_n 3, (.null, 3, 0, [], [])), (798, 1, .iconst 2, (.int 2, 0, 0, [], [])), (799, 1, .iadd, (.null, 0, 0, [], [])), (800, 1, .iaload, (.null, 0, 0, [], [])), (801, 3, .invokevirtual 101, (.null, 2, 1, [(11, 192, 8)], [1250, 1251, 1252])), (804, 3, .if_icmp .eq 514, (.null, 39, 15, [], [])), (807, 1, .iconst 0, (.int 0, 0, 0, [], [])), (808, 1, .ireturn, (.null, 1, 0, [], []))]
def k229_23 : List Ins := [(809, 1, .aload_n 1, (.null, 1, 0, [], [])), (810, 1, .aload_n 0, (.null, 0, 0, [], [])), (811, 1, .iload_n 3, (.null, 3, 0, [], [])), (812, 1, .iconst 1, (.int 1, 0, 0, [], [])), (813, 1, .iadd, (.null, 0, 0, [], [])), (814, 1, .iaload, (.null, 0, 0, [], [])), (815, 3, .invokevirtual 102, (.null, 1, 1, [(10, 102, 2)], [673, 674, 675])), (818, 1, .aload_n 2, (.null, 2, 0, [], [])), (819, 1, .aload_n 0, (.null, 0, 0, [], [])), (820, 1, .iload_n 3, (.null, 3, 0, [], [])), (821, 1, .iconst 1, (.int 1, 0, 0, [], [])), (822, 1, .iadd, (.null, 0, 0, [], [])), (823, 1, .iaload, (.null, 0, 0, [], [])), (824, 3, .invokevirtual 105, (.null, 1, 1, [(11, 193, 3)], [1262, 1263, 1264])), (827, 3, .if_icmp .eq 491, (.null, 39, 15, [], [])), (830, 1, .iconst 0, (.int 0, 0, 0, [], [])), (831, 1, .ireturn, (.null, 1, 0, [], []))]
def k229_24 : List Ins := [(832, 1, .aload_n 1, (.null, 1, 0, [], [])), (833, 1, .aload_n 0, (.null, 0, 0, [], [])), (834, 1, .iload_n 3, (.null, 3, 0, [], [])), (835, 1, .iconst 1, (.int 1, 0, 0, [], [])), (836, 1, .iadd, (.null, 0, 0, [], [])), (837, 1, .iaload, (.null, 0, 0, [], [])), (838, 1, .aload_n 0, (.null, 0, 0, [], [])), (839, 1, .iload_n 3, (.null, 3, 0, [], [])), (840, 1, .iconst 2, (.int 2, 0, 0, [], [])), (841, 1, .iadd, (.null, 0, 0, [], [])), (842, 1, .iaload, (.null, 0, 0, [], [])), (843, 3, .invokevirtual 106, (.null, 2, 1, [(10, 103, 3)], [681, 682, 683])), (846, 1, .aload_n 2, (.null, 2, 0, [], [])), (847, 1, .aload_n 0, (.null, 0, 0, [], [])), (848, 1, .iload_n 3, (.null, 3, 0, [], [])), (849, 1, .iconst 1, (.int 1, 0, 0, [], [])), (850, 1, .iadd, (.null, 0, 0, [], [])), (851, 1, .iaload, (.null, 0, 0, [], [])), (852, 1, .aload_n 0, (.null, 0, 0, [], [])), (853, 1, .iload_n 3, (.null, 3, 0, [], [])), (854, 1, .iconst 2, (.int 2, 0, 0, [], [])), (855, 1, .iadd, (.null, 0, 0, [], [])), (856, 1, .iaload, (.null, 0, 0, [], [])), (857, 3, .invokevirtual 109, (.null, 2, 1, [(11, 194, 4)], [1266, 1267, 1268])), (860, 3, .if_icmp .eq 458, (.null, 39, 15, [], [])), (863, 1, .iconst 0, (.int 0, 0, 0, [], [])), (864, 1, .ireturn, (.null, 1, 0, [], []))]
def k229_25 : List Ins := [(865, 1, .aload_n 1, (.null, 1, 0, [], [])), (866, 1, .aload_n 0, (.null, 0, 0, [], [])), (867, 1, .iload_n 3, (.null, 3, 0, [], [])), (868, 1, .iconst 1, (.int 1, 0, 0, [], [])), (869, 1, .iadd, (.null, 0, 0, [], [])), (870, 1, .iaload, (.null, 0, 0, [], [])), (871, 1, .aload_n 0, (.null, 0, 0, [], [])), (872, 1, .iload_n 3, (.null, 3, 0, [], [])), (873, 1, .iconst 2, (.int 2, 0, 0, [], [])), (874, 1, .iadd, (.null, 0, 0, [], [])), (875, 1, .iaload, (.null, 0, 0, [], [])), (876, 3, .invokevirtual 110, (.null, 2, 1, [(10, 104, 3)], [690, 691, 692])), (879, 1, .aload_n 2, (.null, 2, 0, [], [])), (880, 1, .aload_n 0, (.null, 0, 0, [], [])), (881, 1, .iload_n 3, (.null, 3, 0, [], [])), (882, 1, .iconst 1, (.int 1, 0, 0, [], [])), (883, 1, .iadd, (.null, 0, 0, [], [])), (884, 1, .iaload, (.null, 0, 0, [], [])), (885, 1, .aload_n 0, (.null, 0, 0, [], [])), (886, 1, .iload_n 3, (.null, 3, 0, [], [])), (887, 1, .iconst 2, (.int 2, 0, 0, [], [])), (888, 1, .iadd, (.null, 0, 0, [], [])), (889, 1, .iaload, (.null, 0, 0, [], [])), (890, 3, .invokevirtual 113, (.null, 2, 1, [(11, 195, 10)], [1270, 1271, 1272])), (893, 3, .if_icmp .eq 425, (.null, 39, 15, [], [])), (896, 1, .iconst 0, (.int 0, 0, 0, [], [])), (897, 1, .ireturn, (.null, 1, 0, [], []))]
def k229_26 : List Ins := [(898, 1, .aload_n 1, (.null, 1, 0, [], [])), (899, 1, .aload_n 0, (.null, 0, 0, [], [])), (900, 1, .iload_n 3, (.null, 3, 0, [], [])), (901, 1, .iconst 1, (.int 1, 0, 0, [], [])), (902, 1, .iadd, (.null, 0, 0, [], [])), (903, 1, .iaload, (.null, 0, 0, [], [])), (904, 1, .aload_n 0, (.null, 0, 0, [], [])), (905, 1, .iload_n 3, (.null, 3, 0, [], [])), (906, 1, .iconst 2, (.int 2, 0, 0, [], [])), (907, 1, .iadd, (.null, 0, 0, [], [])), (908, 1, .iaload, (.null, 0, 0, [], [])), (909, 3, .invokevirtual 114, (.null, 2, 1, [(10, 105, 3)], [702, 703, 704])), (912, 1, .aload_n 2, (.null, 2, 0, [], [])), (913, 1, .aload_n 0, (.null, 0, 0, [], [])), (914, 1, .iload_n 3, (.null, 3, 0, [], [])), (915, 1, .iconst 1, (.int 1, 0, 0, [], [])), (916, 1, .iadd, (.null, 0, 0, [], [])), (917, 1, .iaload, (.null, 0, 0, [], [])), (918, 1, .aload_n 0, (.null, 0, 0, [], [])), (919, 1, .iload_n 3, (.null, 3, 0, [], [])), (920, 1, .iconst 2, (.int 2, 0, 0, [], [])), (921, 1, .iadd, (.null, 0, 0, [], [])), (922, 1, .iaload, (.null, 0, 0, [], [])), (923, 3, .invokevirtual 117, (.null, 2, 1, [(11, 196, 8)], [1278, 1279, 1280])), (926, 3, .if_icmp .eq 392, (.null, 39, 15, [], [])), (929, 1, .iconst 0, (.int 0, 0, 0, [], [])), (930, 1, .ireturn, (.null, 1, 0, [], []))]
def k229_27 : List Ins := [(931, 1, .aload_n 1, (.null, 1, 0, [], [])), (932, 1, .aload_n 0, (.null, 0, 0, [], [])), (933, 1, .iload_n 3, (.null, 3, 0, [], [])), (934, 1, .iconst 1, (.int 1, 0, 0, [], [])), (935, 1, .iadd, (.null, 0, 0, [], [])), (936, 1, .iaload, (.null, 0, 0, [], [])), (937, 1, .aload_n 0, (.null, 0, 0, [], [])), (938, 1, .iload_n 3, (.null, 3, 0, [], [])), (939, 1, .iconst 2, (.int 2, 0, 0, [], [])), (940, 1, .iadd, (.null, 0, 0, [], [])), (941, 1, .iaload, (.null, 0, 0, [], [])), (942, 3, .invokevirtual 118, (.null, 2, 1, [(10, 106, 3)], [710, 711, 712])), (945, 1, .aload_n 2, (.null, 2, 0, [], [])), (946, 1, .aload_n 0, (.null, 0, 0, [], [])), (947, 1, .iload_n 3, (.null, 3, 0, [], [])), (948, 1, .iconst 1, (.int 1, 0, 0, [], [])), (949, 1, .iadd, (.null, 0, 0, [], [])), (950, 1, .iaload, (.null, 0, 0, [], [])), (951, 1, .aload_n 0, (.null, 0, 0, [], [])), (952, 1, .iload_n 3, (.null, 3, 0, [], [])), (953, 1, .iconst 2, (.int 2, 0, 0, [], [])), (954, 1, .iadd, (.null, 0, 0, [], [])), (955, 1, .iaload, (.null, 0, 0, [], [])), (956, 3, .invokevirtual 121, (.null, 2, 1, [(11, 200, 12)], [1283, 1284, 1285])), (959, 3, .if_icmp .eq 359, (.null, 39, 15, [], [])), (962, 1, .iconst 0, (.int 0, 0, 0, [], [])), (963, 1, .ireturn, (.null, 1, 0, [], []))]
def k229_28 : List Ins := [(964, 1, .aload_n 1, (.null, 1, 0, [], [])), (965, 1, .aload_n 0, (.null, 0, 0, [], [])), (966, 1, .iload_n 3, (.null, 3, 0, [], [])), (967, 1, .iconst 1, (.int 1, 0, 0, [], [])), (968, 1, .iadd, (.null, 0, 0, [], [])), (969, 1, .iaload, (.null, 0, 0, [], [])), (970, 1, .aload_n 0, (.null, 0, 0, [], [])), (971, 1, .iload_n 3, (.null, 3, 0, [], [])), (972, 1, .iconst 2, (.int 2, 0, 0, [], [])), (973, 1, .iadd, (.null, 0, 0, [], [])), (974, 1, .iaload, (.null, 0, 0, [], [])), (975, 1, .aload_n 0, (.null, 0, 0, [], [])), (976, 1, .iload_n 3, (.null, 3, 0, [], [])), (977, 1, .iconst 3, (.int 3, 0, 0, [], [])), (978, 1, .iadd, (.null, 0, 0, [], [])), (979, 1, .iaload, (.null, 0, 0, [], [])), (980, 1, .aload_n 0, (.null, 0, 0, [], [])), (981, 1, .iload_n 3, (.null, 3, 0, [], [])), (982, 1, .iconst 4, (.int 4, 0, 0, [], [])), (983, 1, .iadd, (.null, 0, 0, [], [])), (984, 1, .iaload, (.null, 0, 0, [], [])), (985, 1, .aload_n 0, (.null, 0, 0, [], [])), (986, 1, .iload_n 3, (.null, 3, 0, [], [])), (987, 1, .iconst 5, (.int 5, 0, 0, [], [])), (988, 1, .iadd, (.null, 0, 0, [], [])), (989, 1, .iaload, (.null, 0, 0, [], [])), (990, 3, .invokevirtual 122, (.null, 5, 1, [(10, 107, 6)], [733, 734, 735])), (993, 1, .aload_n 2, (.null, 2, 0, [], [])), (994, 1, .aload_n 0, (.null, 0, 0, [], [])), (995, 1, .iload_n 3, (.null, 3, 0, [], [])), (996, 1, .iconst 1, (.int 1, 0, 0, [], [])), (997, 1, .iadd, (.null, 0, 0, [], [])), (998, 1, .iaload, (.null, 0, 0, [], [])), (999, 1, .aload_n 0, (.null, 0, 0, [], [])), (1000, 1, .iload_n 3, (.null, 3, 0, [], [])), (1001, 1, .iconst 2, (.int 2, 0, 0, [], [])), (1002, 1, .iadd, (.null, 0, 0, [], [])), (1003, 1, .iaload, (.null, 0, 0, [], [])), (1004, 1, .aload_n 0, (.null, 0, 0, [], [])), (1005, 1, .iload_n 3, (.null, 3, 0, [], [])), (1006, 1, .iconst 3, (.int 3, 0, 0, [], [])), (1007, 1, .iadd, (.null, 0, 0, [], [])), (1008, 1, .iaload, (.null, 0, 0, [], [])), (1009, 1, .aload_n 0, (.null, 0, 0, [], [])), (1010, 1, .iload_n 3, (.null, 3, 0, [], [])), (1011, 1, .iconst 4, (.int 4, 0, 0, [], [])), (1012, 1, .iadd, (.null, 0, 0, [], [])), (1013, 1, .iaload, (.null, 0, 0, [], [])), (1014, 1, .aload_n 0, (.null, 0, 0, [], [])), (1015, 1, .iload_n 3, (.null, 3, 0, [], [])), (1016, 1, .iconst 5, (.int 5, 0, 0, [], [])), (1017, 1, .iadd, (.null, 0, 0, [], [])), (1018, 1, .iaload, (.null, 0, 0, [], [])), (1019, 3, .invokevirtual 125, (.null, 5, 1, [(11, 206, 8)], [1300, 1301, 1302])), (1022, 3, .if_icmp .eq 296, (.null, 39, 15, [], [])), (1025, 1, .iconst 0, (.int 0, 0, 0, [], [])), (1026, 1, .ireturn, (.null, 1, 0, [], []))]
def k229_29 : List Ins := [(1027, 1, .aload_n 1, (.null, 1, 0, [], [])), (1028, 1, .aload_n 0, (.null, 0, 0, [], [])), (1029, 1, .iload_n 3, (.null, 3, 0, [], [])), (1030, 1, .iconst 1, (.int 1, 0, 0, [], [])), (1031, 1, .iadd, (.null, 0, 0, [], [])), (1032, 1, .iaload, (.null, 0, 0, [], [])), (1033, 1, .aload_n 0, (.null, 0, 0, [], [])), (1034, 1, .iload_n 3, (.null, 3, 0, [], [])), (1035, 1, .iconst 2, (.int 2, 0, 0, [], [])), (1036, 1, .iadd, (.null, 0, 0, [], [])), (1037, 1, .iaload, (.null, 0, 0, [], [])), (1038, 1, .aload_n 0, (.null, 0, 0, [], [])), (1039, 1, .iload_n 3, (.null, 3, 0, [], [])), (1040, 1, .iconst 3, (.int 3, 0, 0, [], [])), (1041, 1, .iadd, (.null, 0, 0, [], [])), (1042, 1, .iaload, (.null, 0, 0, [], [])), (1043, 1, .aload_n 0, (.null, 0, 0, [], [])), (1044, 1, .iload_n 3, (.null, 3, 0, [], [])), (1045, 1, .iconst 4, (.int 4, 0, 0, [], [])), (1046, 1, .iadd, (.null, 0, 0, [], [])), (1047, 1, .iaload, (.null, 0, 0, [], [])), (1048, 3, .invokevirtual 126, (.null, 4, 2, [(10, 108, 5)], [770, 771, 772])), (1051, 1, .aload_n 2, (.null, 2, 0, [], [])), (1052, 1, .aload_n 0, (.null, 0, 0, [], [])), (1053, 1, .iload_n 3, (.null, 3, 0, [], [])), (1054, 1, .iconst 1, (.int 1, 0, 0, [], [])), (1055, 1, .iadd, (.null, 0, 0, [], [])), (1056, 1, .iaload, (.null, 0, 0, [], [])), (1057, 1, .aload_n 0, (.null, 0, 0, [], [])), (1058, 1, .iload_n 3, (.null, 3, 0, [], [])), (1059, 1, .iconst 2, (.int 2, 0, 0, [], [])), (1060, 1, .iadd, (.null, 0, 0, [], [])), (1061, 1, .iaload, (.null, 0, 0, [], [])), (1062, 1, .aload_n 0, (.null, 0, 0, [], [])), (1063, 1, .iload_n 3, (.null, 3, 0, [], [])), (1064, 1, .iconst 3, (.int 3, 0, 0, [], [])), (1065, 1, .iadd, (.null, 0, 0, [], [])), (1066, 1, .iaload, (.null, 0, 0, [], [])), (1067, 1, .aload_n 0, (.null, 0, 0, [], [])), (1068, 1, .iload_n 3, (.null, 3, 0, [], [])), (1069, 1, .iconst 4, (.int 4, 0, 0, [], [])), (1070, 1, .iadd, (.null, 0, 0, [], [])), (1071, 1, .iaload, (.null, 0, 0, [], [])), (1072, 3, .invokevirtual 130, (.null, 4, 2, [(11, 207, 16)], [1325, 1326, 1327])), (1075, 1, .lcmp, (.null, 0, 0, [], [])), (1076, 3, .ifCond .eq 242, (.null, 39, 15, [], [])), (1079, 1, .iconst 0, (.int 0, 0, 0, [], [])), (1080, 1, .ireturn, (.null, 1, 0, [], []))]
def k229_30 : List Ins := [(1081, 1, .aload_n 1, (.null, 1, 0, [], [])), (1082, 1, .aload_n 0, (.null, 0, 0, [], [])), (1083, 1, .iload_n 3, (.null, 3, 0, [], [])), (1084, 1, .iconst 1, (.int 1, 0, 0, [], [])), (1085, 1, .iadd, (.null, 0, 0, [], [])), (1086, 1, .iaload, (.null, 0, 0, [], [])), (1087, 1, .aload_n 0, (.null, 0, 0, [], [])), (1088, 1, .iload_n 3, (.null, 3, 0, [], [])), (1089, 1, .iconst 2, (.int 2, 0, 0, [], [])), (1090, 1, .iadd, (.null, 0, 0, [], [])), (1091, 1, .iaload, (.null, 0, 0, [], [])), (1092, 1, .aload_n 0, (.null, 0, 0, [], [])), (1093, 1, .iload_n 3, (.null, 3, 0, [], [])), (1094, 1, .iconst 3, (.int 3, 0, 0, [], [])), (1095, 1, .iadd, (.null, 0, 0, [], [])), (1096, 1, .iaload, (.null, 0, 0, [], [])), (1097, 3, .invokevirtual 131, (.null, 3, 1, [(10, 109, 4)], [792, 793, 794])), (1100, 1, .aload_n 2, (.null, 2, 0, [], [])), (1101, 1, .aload_n 0, (.null, 0, 0, [], [])), (1102, 1, .iload_n 3, (.null, 3, 0, [], [])), (1103, 1, .iconst 1, (.int 1, 0, 0, [], [])), (1104, 1, .iadd, (.null, 0, 0, [], [])), (1105, 1, .iaload, (.null, 0, 0, [], [])), (1106, 1, .aload_n 0, (.null, 0, 0, [], [])), (1107, 1, .iload_n 3, (.null, 3, 0, [], [])), (1108, 1, .iconst 2, (.int 2, 0, 0, [], [])), (1109, 1, .iadd, (.null, 0, 0, [], [])), (1110, 1, .iaload, (.null, 0, 0, [], [])), (1111, 1, .aload_n 0, (.null, 0, 0, [], [])), (1112, 1, .iload_n 3, (.null, 3, 0, [], [])), (1113, 1, .iconst 3, (.int 3, 0, 0, [], [])), (1114, 1, .iadd, (.null, 0, 0, [], [])), (1115, 1, .iaload, (.null, 0, 0, [], [])), (1116, 3, .invokevirtual 134, (.null, 3, 1, [(11, 208, 10)], [1331, 1332, 1333])), (1119, 3, .if_icmp .eq 199, (.null, 39, 15, [], [])), (1122, 1, .iconst 0, (.int 0, 0, 0, [], [])), (1123, 1, .ireturn, (.null, 1, 0, [], []))]
def k229_31 : List Ins := [(1124, 1, .aload_n 1, (.null, 1, 0, [], [])), (1125, 1, .aload_n 0, (.null, 0, 0, [], [])), (1126, 1, .iload_n 3, (.null, 3, 0, [], [])), (1127, 1, .iconst 1, (.int 1, 0, 0, [], [])), (1128, 1, .iadd, (.null, 0, 0, [], [])), (1129, 1, .iaload, (.null, 0, 0, [], [])), (1130, 3, .invokevirtual 135, (.null, 1, 1, [(10, 110, 2)], [807, 808, 809])), (1133, 1, .aload_n 2, (.null, 2, 0, [], [])), (1134, 1, .aload_n 0, (.null, 0, 0, [], [])), (1135, 1, .iload_n 3, (.null, 3, 0, [], [])), (1136, 1, .iconst 1, (.int 1, 0, 0, [], [])), (1137, 1, .iadd, (.null, 0, 0, [], [])), (1138, 1, .iaload, (.null, 0, 0, [], [])), (1139, 3, .invokevirtual 138, (.null, 1, 1, [(11, 209, 4)], [1339, 1340, 1341])), (1142, 3, .if_icmp .eq 176, (.null, 39, 15, [], [])), (1145, 1, .iconst 0, (.int 0, 0, 0, [], [])), (1146, 1, .ireturn, (.null, 1, 0, [], []))]
def k229_32 : List Ins := [(1147, 1, .aload_n 1, (.null, 1, 0, [], [])), (1148, 1, .aload_n 0, (.null, 0, 0, [], [])), (1149, 1, .iload_n 3, (.null, 3, 0, [], [])), (1150, 1, .iconst 1, (.int 1, 0, 0, [], [])), (1151, 1, .iadd, (.null, 0, 0, [], [])), (1152, 1, .iaload, (.null, 0, 0, [], [])), (1153, 3, .invokevirtual 139, (.null, 1, 1, [(10, 111, 2)], [811, 812, 813])), (1156, 1, .aload_n 2, (.null, 2, 0, [], [])), (1157, 1, .aload_n 0, (.null, 0, 0, [], [])), (1158, 1, .iload_n 3, (.null, 3, 0, [], [])), (1159, 1, .iconst 1, (.int 1, 0, 0, [], [])), (1160, 1, .iadd, (.null, 0, 0, [], [])), (1161, 1, .iaload, (.null, 0, 0, [], [])), (1162, 3, .invokevirtual 142, (.null, 1, 1, [(11, 210, 4)], [1343, 1344, 1345])), (1165, 3, .if_icmp .eq 153, (.null, 39, 15, [], [])), (1168, 1, .iconst 0, (.int 0, 0, 0, [], [])), (1169, 1, .ireturn, (.null, 1, 0, [], []))]
def k229_33 : List Ins := [(1170, 1, .aload_n 1, (.null, 1, 0, [], [])), (1171, 1, .aload_n 0, (.null, 0, 0, [], [])), (1172, 1, .iload_n 3, (.null, 3, 0, [], [])), (1173, 1, .iconst 1, (.int 1, 0, 0, [], [])), (1174, 1, .iadd, (.null, 0, 0, [], [])), (1175, 1, .iaload, (.null, 0, 0, [], [])), (1176, 3, .invokevirtual 143, (.null, 1, 1, [(10, 112, 2)], [815, 816, 817])), (1179, 1, .aload_n 2, (.null, 2, 0, [], [])), (1180, 1, .aload_n 0, (.null, 0, 0, [], [])), (1181, 1, .iload_n 3, (.null, 3, 0, [], [])), (1182, 1, .iconst 1, (.int 1, 0, 0, [], [])), (1183, 1, .iadd, (.null, 0, 0, [], [])), (1184, 1, .iaload, (.null, 0, 0, [], [])), (1185, 3, .invokevirtual 146, (.null, 1, 1, [(11, 211, 2)], [1347, 1348, 1349])), (1188, 3, .if_icmp .eq 130, (.null, 39, 15, [], [])), (1191, 1, .iconst 0, (.int 0, 0, 0, [], [])), (1192, 1, .ireturn, (.null, 1, 0, [], []))]
def k229_34 : List Ins := [(1193, 1, .aload_n 1, (.null, 1, 0, [], [])), (1194, 1, .aload_n 0, (.null, 0, 0, [], [])), (1195, 1, .iload_n 3, (.null, 3, 0, [], [])), (1196, 1, .iconst 1, (.int 1, 0, 0, [], [])), (1197, 1, .iadd, (.null, 0, 0, [], [])), (1198, 1, .iaload, (.null, 0, 0, [], [])), (1199, 1, .aload_n 0, (.null, 0, 0, [], [])), (1200, 1, .iload_n 3, (.null, 3, 0, [], [])), (1201, 1, .iconst 2, (.int 2, 0, 0, [], [])), (1202, 1, .iadd, (.null, 0, 0, [], [])), (1203, 1, .iaload, (.null, 0, 0, [], [])), (1204, 3, .invokevirtual 147, (.null, 2, 1, [(10, 113, 3)], [819, 820, 821])), (1207, 1, .aload_n 2, (.null, 2, 0, [], [])), (1208, 1, .aload_n 0, (.null, 0, 0, [], [])), (1209, 1, .iload_n 3, (.null, 3, 0, [], [])), (1210, 1, .iconst 1, (.int 1, 0, 0, [], [])), (1211, 1, .iadd, (.null, 0, 0, [], [])), (1212, 1, .iaload, (.null, 0, 0, [], [])), (1213, 1, .aload_n 0, (.null, 0, 0, [], [])), (1214, 1, .iload_n 3, (.null, 3, 0, [], [])), (1215, 1, .iconst 2, (.int 2, 0, 0, [], [])), (1216, 1, .iadd, (.null, 0, 0, [], [])), (1217, 1, .iaload, (.null, 0, 0, [], [])), (1218, 3, .invokevirtual 150, (.null, 2, 1, [(11, 212, 5)], [1351, 1352, 1353])), (1221, 3, .if_icmp .eq 97, (.null, 39, 15, [], [])), (1224, 1, .iconst 0, (.int 0, 0, 0, [], [])), (1225, 1, .ireturn, (.null, 1, 0, [], []))]
def k229_35 : List Ins := [(1226, 1, .aload_n 1, (.null, 1, 0, [], [])), (1227, 1, .aload_n 0, (.null, 0, 0, [], [])), (1228, 1, .iload_n 3, (.null, 3, 0, [], [])), (1229, 1, .iconst 1, (.int 1, 0, 0, [], [])), (1230, 1, .iadd, (.null, 0, 0, [], [])), (1231, 1, .iaload, (.null, 0, 0, [], [])), (1232, 1, .aload_n 0, (.null, 0, 0, [], [])), (1233, 1, .iload_n 3, (.null, 3, 0, [], [])), (1234, 1, .iconst 2, (.int 2, 0, 0, [], [])), (1235, 1, .iadd, (.null, 0, 0, [], [])), (1236, 1, .iaload, (.null, 0, 0, [], [])), (1237, 3, .invokevirtual 151, (.null, 2, 1, [(10, 114, 4)], [830, 831, 832])), (1240, 1, .aload_n 2, (.null, 2, 0, [], [])), (1241, 1, .aload_n 0, (.null, 0, 0, [], [])), (1242, 1, .iload_n 3, (.null, 3, 0, [], [])), (1243, 1, .iconst 1, (.int 1, 0, 0, [], [])), (1244, 1, .iadd, (.null, 0, 0, [], [])), (1245, 1, .iaload, (.null, 0, 0, [], [])), (1246, 1, .aload_n 0, (.null, 0, 0, [], [])), (1247, 1, .iload_n 3, (.null, 3, 0, [], [])), (1248, 1, .iconst 2, (.int 2, 0, 0, [], [])), (1249, 1, .iadd, (.null, 0, 0, [], [])), (1250, 1, .iaload, (.null, 0, 0, [], [])), (1251, 3, .invokevirtual 154, (.null, 2, 1, [(11, 223, 3)], [1356, 1357, 1358])), (1254, 3, .if_icmp .eq 64, (.null, 39, 15, [], [])), (1257, 1, .iconst 0, (.int 0, 0, 0, [], [])), (1258, 1, .ireturn, (.null, 1, 0, [], []))]
def k229_36 : List Ins := [(1259, 1, .aload_n 1, (.null, 1, 0, [], [])), (1260, 1, .aload_n 0, (.null, 0, 0, [], [])), (1261, 1, .iload_n 3, (.null, 3, 0, [], [])), (1262, 1, .iconst 1, (.int 1, 0, 0, [], [])), (1263, 1, .iadd, (.null, 0, 0, [], [])), (1264, 1, .iaload, (.null, 0, 0, [], [])), (1265, 3, .invokevirtual 155, (.null, 1, 1, [(10, 115, 2)], [889, 890, 891])), (1268, 1, .aload_n 2, (.null, 2, 0, [], [])), (1269, 1, .aload_n 0, (.null, 0, 0, [], [])), (1270, 1, .iload_n 3, (.null, 3, 0, [], [])), (1271, 1, .iconst 1, (.int 1, 0, 0, [], [])), (1272, 1, .iadd, (.null, 0, 0, [], [])), (1273, 1, .iaload, (.null, 0, 0, [], [])), (1274, 3, .invokevirtual 158, (.null, 1, 1, [(11, 224, 2)], [1400, 1401, 1402])), (1277, 3, .if_icmp .eq 41, (.null, 39, 15, [], [])), (1280, 1, .iconst 0, (.int 0, 0, 0, [], [])), (1281, 1, .ireturn, (.null, 1, 0, [], []))]
def k229_37 : List Ins := [(1282, 1, .aload_n 1, (.null, 1, 0, [], [])), (1283, 1, .aload_n 0, (.null, 0, 0, [], [])), (1284, 1, .iload_n 3, (.null, 3, 0, [], [])), (1285, 1, .iconst 1, (.int 1, 0, 0, [], [])), (1286, 1, .iadd, (.null, 0, 0, [], [])), (1287, 1, .iaload, (.null, 0, 0, [], [])), (1288, 3, .invokevirtual 159, (.null, 1, 1, [(10, 116, 2)], [893, 894, 895])), (1291, 1, .aload_n 2, (.null, 2, 0, [], [])), (1292, 1, .aload_n 0, (.null, 0, 0, [], [])), (1293, 1, .iload_n 3, (.null, 3, 0, [], [])), (1294, 1, .iconst 1, (.int 1, 0, 0, [], [])), (1295, 1, .iadd, (.null, 0, 0, [], [])), (1296, 1, .iaload, (.null, 0, 0, [], [])), (1297, 3, .invokevirtual 162, (.null, 1, 1, [(11, 225, 4)], [1404, 1405, 1406])), (1300, 3, .if_icmp .eq 18, (.null, 39, 15, [], [])), (1303, 1, .iconst 0, (.int 0, 0, 0, [], [])), (1304, 1, .ireturn, (.null, 1, 0, [], []))]
def k229_38 : List Ins := [(1305, 1, .aload_n 1, (.null, 1, 0, [], [])), (1306, 3, .invokevirtual 163, (.null, 0, 1, [(10, 117, 1)], [902, 903, 904])), (1309, 1, .aload_n 2, (.null, 2, 0, [], [])), (1310, 3, .invokevirtual 166, (.null, 0, 1, [(11, 226, 1)], [1408, 1409, 1410])), (1313, 3, .if_icmp .eq 5, (.null, 39, 15, [], [])), (1316, 1, .iconst 0, (.int 0, 0, 0, [], [])), (1317, 1, .ireturn, (.null, 1, 0, [], []))]
def k229_39 : List Ins := [(1318, 3, .iinc 3 6, (.int 6, 3, 0, [], [])), (1321, 3, .goto (-1303), (.int 0, 1, 15, [], []))]
def k229_40 : List Ins := [(1324, 1, .iconst 1, (.int 1, 0, 0, [], [])), (1325, 1, .ireturn, (.null, 1, 0, [], []))]
def m229 : MI := (yL_law, cL_law, 4, (some .boolean), [k229_0, k229_1, k229_2, k229_3, k229_4, k229_5, k229_6, k229_7, k229_8, k229_9, k229_10, k229_11, k229_12, k229_13, k229_14, k229_15, k229_16, k229_17, k229_18, k229_19, k229_20, k229_21, k229_22, k229_23, k229_24, k229_25, k229_26, k229_27, k229_28, k229_29, k229_30, k229_31, k229_32, k229_33, k229_34, k229_35, k229_36, k229_37, k229_38, k229_39, k229_40])
def mt0 : List MI := [m0, m1, m2, m3, m4, m5, m6, m7, m8, m9, m10, m11, m12, m13, m14, m15]
def mt1 : List MI := [m16, m17, m18, m19, m20, m21, m22, m23, m24, m25, m26, m27, m28, m29, m30, m31]
def mt2 : List MI := [m32, m33, m34, m35, m36, m37, m38, m39, m40, m41, m42, m43, m44, m45, m46, m47]
def mt3 : List MI := [m48, m49, m50, m51, m52, m53, m54, m55, m56, m57, m58, m59, m60, m61, m62, m63]
def mt4 : List MI := [m64, m65, m66, m67, m68, m69, m70, m71, m72, m73, m74, m75, m76, m77, m78, m79]
def mt5 : List MI := [m80, m81, m82, m83, m84, m85, m86, m87, m88, m89, m90, m91, m92, m93, m94, m95]
def mt6 : List MI := [m96, m97, m98, m99, m100, m101, m102, m103, m104, m105, m106, m107, m108, m109, m110, m111]
def mt7 : List MI := [m112, m113, m114, m115, m116, m117, m118, m119, m120, m121, m122, m123, m124, m125, m126, m127]
def mt8 : List MI := [m128, m129, m130, m131, m132, m133, m134, m135, m136, m137, m138, m139, m140, m141, m142, m143]
def mt9 : List MI := [m144, m145, m146, m147, m148, m149, m150, m151, m152, m153, m154, m155, m156, m157, m158, m159]
def mt10 : List MI := [m160, m161, m162, m163, m164, m165, m166, m167, m168, m169, m170, m171, m172, m173, m174, m175]
def mt11 : List MI := [m176, m177, m178, m179, m180, m181, m182, m183, m184, m185, m186, m187, m188, m189, m190, m191]
def mt12 : List MI := [m192, m193, m194, m195, m196, m197, m198, m199, m200, m201, m202, m203, m204, m205, m206, m207]
def mt13 : List MI := [m208, m209, m210, m211, m212, m213, m214, m215, m216, m217, m218, m219, m220, m221, m222, m223]
def mt14 : List MI := [m224, m225, m226, m227, m228, m229]
def MTL : List (List MI) := [mt0, mt1, mt2, mt3, mt4, mt5, mt6, mt7, mt8, mt9, mt10, mt11, mt12, mt13, mt14]
def MT (n : Nat) : MI := (MTL.getD (n / 16) []).getD (n % 16) m0
def CLS : List vw_C := [(RX0, TX0, 5), (RX1, TX1, 0), (RX2, TX2, 15), (RX4, TX4, 0), (RX5, TX5, 8), (RX6, TX6, 0), (RX7, TX7, 5), (RX8, TX8, 0), (RX9, TX9, 3), (RX10, TX10, 0), (RX11, TX11, 13), (RX12, TX12, 35)]
def TY0 (ci : Nat) : Nat → FieldType := ([tyX0, tyX1, tyX2, tyX4, tyX5, tyX6, tyX7, tyX8, tyX9, tyX10, tyX11, tyX12] : List (Nat → FieldType)).getD ci (fun _ => .int)
def XW : List Jvm.Cond := [Jvm.Cond.arrayOver (Jvm.ClassFile.FieldType.array Jvm.ClassFile.FieldType.int), Jvm.Cond.methodLinkNest "LetterChute" 18 ⟨"LetterChute$Reader", "<init>", "()V"⟩ "LetterChute", Jvm.Cond.methodLinkNest "LetterChute" 25 ⟨"LetterChute$Asking", "<init>", "()V"⟩ "LetterChute", Jvm.Cond.arrayOver (Jvm.ClassFile.FieldType.object "LetterChute$Letter"), Jvm.Cond.methodLinkNest "LetterChute" 34 ⟨"LetterChute$Card", "<init>", "()V"⟩ "LetterChute", Jvm.Cond.methodLinkNest "LetterChute$Card" 1 ⟨"LetterChute$Letter", "<init>", "()V"⟩ "LetterChute", Jvm.Cond.methodLinkNest "LetterChute" 37 ⟨"LetterChute$Slip", "<init>", "()V"⟩ "LetterChute", Jvm.Cond.methodLinkNest "LetterChute$Slip" 1 ⟨"LetterChute$Card", "<init>", "()V"⟩ "LetterChute", Jvm.Cond.methodLinkNest "LetterChute" 40 ⟨"LetterChute$Limp", "<init>", "()V"⟩ "LetterChute", Jvm.Cond.methodLinkNest "LetterChute$Limp" 1 ⟨"LetterChute$Card", "<init>", "()V"⟩ "LetterChute", Jvm.Cond.methodLinkNest "LetterChute" 43 ⟨"LetterChute$Parcel", "<init>", "()V"⟩ "LetterChute", Jvm.Cond.methodLinkNest "LetterChute$Parcel" 1 ⟨"LetterChute$Letter", "<init>", "()V"⟩ "LetterChute", Jvm.Cond.methodLinkNest "LetterChute" 46 ⟨"LetterChute$Roll", "<init>", "()V"⟩ "LetterChute", Jvm.Cond.methodLinkNest "LetterChute$Roll" 1 ⟨"LetterChute$Parcel", "<init>", "()V"⟩ "LetterChute", Jvm.Cond.methodLinkNest "LetterChute" 53 ⟨"LetterChute$House", "<init>", "()V"⟩ "LetterChute", Jvm.Cond.methodLinkNest "LetterChute" 63 ⟨"LetterChute$Oracle", "<init>", "()V"⟩ "LetterChute", Jvm.Cond.methodLinkNest "LetterChute$Oracle" 11 ⟨"LetterChute$House", "<init>", "()V"⟩ "LetterChute", Jvm.Cond.arrayOver (Jvm.ClassFile.FieldType.object "LetterChute$House"), Jvm.Cond.methodLinkNest "LetterChute$Reader" 72 ⟨"LetterChute", "within", "(III)Z"⟩ "LetterChute", Jvm.Cond.castable "LetterChute$Limp" "LetterChute$Card", Jvm.Cond.castable "LetterChute$Slip" "LetterChute$Card", Jvm.Cond.castable "LetterChute$Roll" "LetterChute$Parcel", Jvm.Cond.castable "LetterChute$Card" "LetterChute$Letter", Jvm.Cond.castable "LetterChute$Slip" "LetterChute$Letter", Jvm.Cond.castable "LetterChute$Limp" "LetterChute$Letter", Jvm.Cond.castable "LetterChute$Parcel" "LetterChute$Letter", Jvm.Cond.castable "LetterChute$Roll" "LetterChute$Letter"]
def NC : List (String × String) := [("LetterChute", "LetterChute$Card"), ("LetterChute$Shelf", "LetterChute$Card"), ("LetterChute$Reader", "LetterChute$Card"), ("LetterChute$Asking", "LetterChute$Card"), ("LetterChute$Parcel", "LetterChute$Card"), ("LetterChute$Roll", "LetterChute$Card"), ("LetterChute$House", "LetterChute$Card"), ("LetterChute$Oracle", "LetterChute$Card"), ("LetterChuteModel", "LetterChute$Card"), ("LetterChute", "LetterChute$Slip"), ("LetterChute$Shelf", "LetterChute$Slip"), ("LetterChute$Reader", "LetterChute$Slip"), ("LetterChute$Asking", "LetterChute$Slip"), ("LetterChute$Card", "LetterChute$Slip"), ("LetterChute$Limp", "LetterChute$Slip"), ("LetterChute$Parcel", "LetterChute$Slip"), ("LetterChute$Roll", "LetterChute$Slip"), ("LetterChute$House", "LetterChute$Slip"), ("LetterChute$Oracle", "LetterChute$Slip"), ("LetterChuteModel", "LetterChute$Slip"), ("LetterChute", "LetterChute$Limp"), ("LetterChute$Shelf", "LetterChute$Limp"), ("LetterChute$Reader", "LetterChute$Limp"), ("LetterChute$Asking", "LetterChute$Limp"), ("LetterChute$Card", "LetterChute$Limp"), ("LetterChute$Slip", "LetterChute$Limp"), ("LetterChute$Parcel", "LetterChute$Limp"), ("LetterChute$Roll", "LetterChute$Limp"), ("LetterChute$House", "LetterChute$Limp"), ("LetterChute$Oracle", "LetterChute$Limp"), ("LetterChuteModel", "LetterChute$Limp"), ("LetterChute", "LetterChute$Parcel"), ("LetterChute$Shelf", "LetterChute$Parcel"), ("LetterChute$Reader", "LetterChute$Parcel"), ("LetterChute$Asking", "LetterChute$Parcel"), ("LetterChute$Card", "LetterChute$Parcel"), ("LetterChute$Slip", "LetterChute$Parcel"), ("LetterChute$Limp", "LetterChute$Parcel"), ("LetterChute$House", "LetterChute$Parcel"), ("LetterChute$Oracle", "LetterChute$Parcel"), ("LetterChuteModel", "LetterChute$Parcel"), ("LetterChute", "LetterChute$Roll"), ("LetterChute$Shelf", "LetterChute$Roll"), ("LetterChute$Reader", "LetterChute$Roll"), ("LetterChute$Asking", "LetterChute$Roll"), ("LetterChute$Card", "LetterChute$Roll"), ("LetterChute$Slip", "LetterChute$Roll"), ("LetterChute$Limp", "LetterChute$Roll"), ("LetterChute$Parcel", "LetterChute$Roll"), ("LetterChute$House", "LetterChute$Roll"), ("LetterChute$Oracle", "LetterChute$Roll"), ("LetterChuteModel", "LetterChute$Roll"), ("LetterChute", "LetterChute$House"), ("LetterChute$Shelf", "LetterChute$House"), ("LetterChute$Reader", "LetterChute$House"), ("LetterChute$Asking", "LetterChute$House"), ("LetterChute$Card", "LetterChute$House"), ("LetterChute$Slip", "LetterChute$House"), ("LetterChute$Limp", "LetterChute$House"), ("LetterChute$Parcel", "LetterChute$House"), ("LetterChute$Roll", "LetterChute$House"), ("LetterChute$Oracle", "LetterChute$House"), ("LetterChuteModel", "LetterChute$House")]
def TYL : List FieldType := [.int, .object "LetterChute$House", .object "LetterChute$Letter", .array .int]
def GP : PG := (MT, 229, lw_tbl, CLS, TY0, XW, NC, TYL)
end
section
/-! what a program decides of the code -/
def PO : List (Nat × Nat) := [(150, 79), (837, 79), (847, 79), (179, 81), (843, 81), (863, 81), (217, 86), (469, 86), (480, 86), (489, 86), (522, 86), (610, 86), (526, 86), (530, 86), (538, 86), (542, 86), (572, 86), (756, 86), (534, 86), (558, 86), (597, 86), (593, 86), (589, 86), (725, 86), (623, 86), (701, 86), (182, 80), (883, 80), (866, 80), (196, 83), (855, 83), (295, 87), (494, 87), (605, 87), (631, 87), (637, 87), (651, 87), (656, 87), (672, 87), (660, 87), (680, 87), (688, 87), (717, 87), (721, 87), (740, 87), (760, 87), (748, 87), (752, 87), (778, 87), (785, 87), (781, 87), (788, 87), (800, 87), (203, 84), (871, 84), (886, 84), (125, 78), (433, 78), (441, 78), (445, 78), (473, 78), (449, 78), (462, 78), (458, 78), (453, 78), (465, 78), (476, 78), (210, 85), (876, 85), (104, 77), (398, 77), (402, 77), (386, 77), (406, 77), (424, 77), (900, 77), (409, 77), (189, 82), (881, 82), (860, 82), (96, 76), (370, 76), (394, 76), (413, 76), (420, 76), (428, 76), (437, 76), (498, 76), (502, 76), (507, 76), (546, 76), (550, 76), (564, 76), (576, 76), (581, 76), (585, 76), (601, 76), (615, 76), (619, 76), (627, 76), (641, 76), (646, 76), (676, 76), (684, 76), (693, 76), (705, 76), (713, 76), (736, 76), (773, 76), (795, 76), (810, 76), (814, 76), (818, 76), (822, 76), (833, 76), (892, 76), (896, 76), (905, 76), (376, 76), (373, 76), (554, 76), (568, 76), (511, 76), (381, 76), (390, 76), (485, 76), (515, 76), (697, 76), (709, 76), (744, 76), (765, 76), (826, 76), (829, 76), (910, 88), (1029, 88), (1277, 88), (1261, 88), (1035, 88), (1040, 88), (1025, 88), (1022, 88), (1044, 88), (1052, 88), (1048, 88), (1056, 88), (1060, 88), (1085, 88), (1082, 88), (1078, 88), (1093, 88), (1074, 88), (1100, 88), (1097, 88), (1070, 88), (1066, 88), (1105, 88), (1123, 88), (1163, 88), (1147, 88), (1159, 88), (1155, 88), (1151, 88), (1184, 88), (1143, 88), (1139, 88), (1131, 88), (1135, 88), (1127, 88), (1167, 88), (1204, 88), (1221, 88), (1241, 88), (1180, 88), (1196, 88), (1119, 88), (1109, 88), (1114, 88), (1171, 88), (1188, 88), (1176, 88), (1200, 88), (1192, 88), (1208, 88), (1213, 88), (1217, 88), (1228, 88), (1225, 88), (1233, 88), (1237, 88), (1245, 88), (1249, 88), (1258, 88), (1253, 88), (1265, 88), (1269, 88), (1273, 88), (1281, 88), (1295, 88), (1299, 88), (1291, 88), (1286, 88), (1312, 88), (1308, 88), (1316, 88), (1320, 88), (1324, 88), (1303, 88), (1328, 88), (1334, 88), (1342, 88), (1346, 88), (1350, 88), (1354, 88), (1371, 88), (1379, 88), (1395, 88), (1391, 88), (1387, 88), (1383, 88), (1375, 88), (1367, 88), (1363, 88), (1399, 88), (1359, 88), (1403, 88), (1407, 88), (1411, 88), (768, 91), (665, 91)]
def okOne (mi : Nat) : Bool := okC GP mi (PO.getD mi (0, 0)) && okM GP mi
end
section
/-! what a program decides of the code -/
theorem ok0 : okOne 0 = true := by decide +kernel
theorem ok1 : okOne 1 = true := by decide +kernel
theorem ok2 : okOne 2 = true := by decide +kernel
theorem ok3 : okOne 3 = true := by decide +kernel
theorem ok4 : okOne 4 = true := by decide +kernel
theorem ok5 : okOne 5 = true := by decide +kernel
theorem ok6 : okOne 6 = true := by decide +kernel
theorem ok7 : okOne 7 = true := by decide +kernel
theorem ok8 : okOne 8 = true := by decide +kernel
theorem ok9 : okOne 9 = true := by decide +kernel
theorem ok10 : okOne 10 = true := by decide +kernel
theorem ok11 : okOne 11 = true := by decide +kernel
theorem ok12 : okOne 12 = true := by decide +kernel
theorem ok13 : okOne 13 = true := by decide +kernel
theorem ok14 : okOne 14 = true := by decide +kernel
theorem ok15 : okOne 15 = true := by decide +kernel
theorem ok16 : okOne 16 = true := by decide +kernel
theorem ok17 : okOne 17 = true := by decide +kernel
theorem ok18 : okOne 18 = true := by decide +kernel
theorem ok19 : okOne 19 = true := by decide +kernel
theorem ok20 : okOne 20 = true := by decide +kernel
theorem ok21 : okOne 21 = true := by decide +kernel
theorem ok22 : okOne 22 = true := by decide +kernel
theorem ok23 : okOne 23 = true := by decide +kernel
theorem ok24 : okOne 24 = true := by decide +kernel
theorem ok25 : okOne 25 = true := by decide +kernel
theorem ok26 : okOne 26 = true := by decide +kernel
theorem ok27 : okOne 27 = true := by decide +kernel
theorem ok28 : okOne 28 = true := by decide +kernel
theorem ok29 : okOne 29 = true := by decide +kernel
theorem ok30 : okOne 30 = true := by decide +kernel
theorem ok31 : okOne 31 = true := by decide +kernel
theorem ok32 : okOne 32 = true := by decide +kernel
theorem ok33 : okOne 33 = true := by decide +kernel
theorem ok34 : okOne 34 = true := by decide +kernel
theorem ok35 : okOne 35 = true := by decide +kernel
theorem ok36 : okOne 36 = true := by decide +kernel
theorem ok37 : okOne 37 = true := by decide +kernel
theorem ok38 : okOne 38 = true := by decide +kernel
theorem ok39 : okOne 39 = true := by decide +kernel
theorem ok40 : okOne 40 = true := by decide +kernel
theorem ok41 : okOne 41 = true := by decide +kernel
theorem ok42 : okOne 42 = true := by decide +kernel
theorem ok43 : okOne 43 = true := by decide +kernel
theorem ok44 : okOne 44 = true := by decide +kernel
theorem ok45 : okOne 45 = true := by decide +kernel
theorem ok46 : okOne 46 = true := by decide +kernel
theorem ok47 : okOne 47 = true := by decide +kernel
theorem ok48 : okOne 48 = true := by decide +kernel
theorem ok49 : okOne 49 = true := by decide +kernel
theorem ok50 : okOne 50 = true := by decide +kernel
theorem ok51 : okOne 51 = true := by decide +kernel
theorem ok52 : okOne 52 = true := by decide +kernel
theorem ok53 : okOne 53 = true := by decide +kernel
theorem ok54 : okOne 54 = true := by decide +kernel
theorem ok55 : okOne 55 = true := by decide +kernel
theorem ok56 : okOne 56 = true := by decide +kernel
theorem ok57 : okOne 57 = true := by decide +kernel
theorem ok58 : okOne 58 = true := by decide +kernel
theorem ok59 : okOne 59 = true := by decide +kernel
end
section
/-! what a program decides of the code -/
theorem ok60 : okOne 60 = true := by decide +kernel
theorem ok61 : okOne 61 = true := by decide +kernel
theorem ok62 : okOne 62 = true := by decide +kernel
theorem ok63 : okOne 63 = true := by decide +kernel
theorem ok64 : okOne 64 = true := by decide +kernel
theorem ok65 : okOne 65 = true := by decide +kernel
theorem ok66 : okOne 66 = true := by decide +kernel
theorem ok67 : okOne 67 = true := by decide +kernel
theorem ok68 : okOne 68 = true := by decide +kernel
theorem ok69 : okOne 69 = true := by decide +kernel
theorem ok70 : okOne 70 = true := by decide +kernel
theorem ok71 : okOne 71 = true := by decide +kernel
theorem ok72 : okOne 72 = true := by decide +kernel
theorem ok73 : okOne 73 = true := by decide +kernel
theorem ok74 : okOne 74 = true := by decide +kernel
theorem ok75 : okOne 75 = true := by decide +kernel
theorem ok76 : okOne 76 = true := by decide +kernel
theorem ok77 : okOne 77 = true := by decide +kernel
theorem ok78 : okOne 78 = true := by decide +kernel
theorem ok79 : okOne 79 = true := by decide +kernel
theorem ok80 : okOne 80 = true := by decide +kernel
theorem ok81 : okOne 81 = true := by decide +kernel
theorem ok82 : okOne 82 = true := by decide +kernel
theorem ok83 : okOne 83 = true := by decide +kernel
theorem ok84 : okOne 84 = true := by decide +kernel
theorem ok85 : okOne 85 = true := by decide +kernel
theorem ok86 : okOne 86 = true := by decide +kernel
theorem ok87 : okOne 87 = true := by decide +kernel
theorem ok88 : okOne 88 = true := by decide +kernel
theorem ok89 : okOne 89 = true := by decide +kernel
theorem ok90 : okOne 90 = true := by decide +kernel
theorem ok91 : okOne 91 = true := by decide +kernel
theorem ok92 : okOne 92 = true := by decide +kernel
theorem ok93 : okOne 93 = true := by decide +kernel
theorem ok94 : okOne 94 = true := by decide +kernel
theorem ok95 : okOne 95 = true := by decide +kernel
theorem ok96 : okOne 96 = true := by decide +kernel
theorem ok97 : okOne 97 = true := by decide +kernel
theorem ok98 : okOne 98 = true := by decide +kernel
theorem ok99 : okOne 99 = true := by decide +kernel
theorem ok100 : okOne 100 = true := by decide +kernel
theorem ok101 : okOne 101 = true := by decide +kernel
theorem ok102 : okOne 102 = true := by decide +kernel
theorem ok103 : okOne 103 = true := by decide +kernel
theorem ok104 : okOne 104 = true := by decide +kernel
theorem ok105 : okOne 105 = true := by decide +kernel
theorem ok106 : okOne 106 = true := by decide +kernel
end
section
/-! what a program decides of the code -/
theorem ok107 : okOne 107 = true := by decide +kernel
theorem ok108 : okOne 108 = true := by decide +kernel
theorem ok109 : okOne 109 = true := by decide +kernel
theorem ok110 : okOne 110 = true := by decide +kernel
theorem ok111 : okOne 111 = true := by decide +kernel
theorem ok112 : okOne 112 = true := by decide +kernel
theorem ok113 : okOne 113 = true := by decide +kernel
theorem ok114 : okOne 114 = true := by decide +kernel
theorem ok115 : okOne 115 = true := by decide +kernel
theorem ok116 : okOne 116 = true := by decide +kernel
theorem ok117 : okOne 117 = true := by decide +kernel
theorem ok118 : okOne 118 = true := by decide +kernel
theorem ok119 : okOne 119 = true := by decide +kernel
theorem ok120 : okOne 120 = true := by decide +kernel
theorem ok121 : okOne 121 = true := by decide +kernel
theorem ok122 : okOne 122 = true := by decide +kernel
theorem ok123 : okOne 123 = true := by decide +kernel
theorem ok124 : okOne 124 = true := by decide +kernel
theorem ok125 : okOne 125 = true := by decide +kernel
theorem ok126 : okOne 126 = true := by decide +kernel
theorem ok127 : okOne 127 = true := by decide +kernel
theorem ok128 : okOne 128 = true := by decide +kernel
theorem ok129 : okOne 129 = true := by decide +kernel
theorem ok130 : okOne 130 = true := by decide +kernel
theorem ok131 : okOne 131 = true := by decide +kernel
theorem ok132 : okOne 132 = true := by decide +kernel
theorem ok133 : okOne 133 = true := by decide +kernel
theorem ok134 : okOne 134 = true := by decide +kernel
theorem ok135 : okOne 135 = true := by decide +kernel
theorem ok136 : okOne 136 = true := by decide +kernel
theorem ok137 : okOne 137 = true := by decide +kernel
theorem ok138 : okOne 138 = true := by decide +kernel
theorem ok139 : okOne 139 = true := by decide +kernel
theorem ok140 : okOne 140 = true := by decide +kernel
theorem ok141 : okOne 141 = true := by decide +kernel
theorem ok142 : okOne 142 = true := by decide +kernel
theorem ok143 : okOne 143 = true := by decide +kernel
theorem ok144 : okOne 144 = true := by decide +kernel
theorem ok145 : okOne 145 = true := by decide +kernel
theorem ok146 : okOne 146 = true := by decide +kernel
theorem ok147 : okOne 147 = true := by decide +kernel
theorem ok148 : okOne 148 = true := by decide +kernel
theorem ok149 : okOne 149 = true := by decide +kernel
end
section
/-! what a program decides of the code -/
theorem ok150 : okOne 150 = true := by decide +kernel
theorem ok151 : okOne 151 = true := by decide +kernel
theorem ok152 : okOne 152 = true := by decide +kernel
theorem ok153 : okOne 153 = true := by decide +kernel
theorem ok154 : okOne 154 = true := by decide +kernel
theorem ok155 : okOne 155 = true := by decide +kernel
theorem ok156 : okOne 156 = true := by decide +kernel
theorem ok157 : okOne 157 = true := by decide +kernel
theorem ok158 : okOne 158 = true := by decide +kernel
theorem ok159 : okOne 159 = true := by decide +kernel
theorem ok160 : okOne 160 = true := by decide +kernel
theorem ok161 : okOne 161 = true := by decide +kernel
theorem ok162 : okOne 162 = true := by decide +kernel
theorem ok163 : okOne 163 = true := by decide +kernel
theorem ok164 : okOne 164 = true := by decide +kernel
theorem ok165 : okOne 165 = true := by decide +kernel
theorem ok166 : okOne 166 = true := by decide +kernel
theorem ok167 : okOne 167 = true := by decide +kernel
theorem ok168 : okOne 168 = true := by decide +kernel
theorem ok169 : okOne 169 = true := by decide +kernel
theorem ok170 : okOne 170 = true := by decide +kernel
theorem ok171 : okOne 171 = true := by decide +kernel
theorem ok172 : okOne 172 = true := by decide +kernel
theorem ok173 : okOne 173 = true := by decide +kernel
theorem ok174 : okOne 174 = true := by decide +kernel
theorem ok175 : okOne 175 = true := by decide +kernel
theorem ok176 : okOne 176 = true := by decide +kernel
theorem ok177 : okOne 177 = true := by decide +kernel
theorem ok178 : okOne 178 = true := by decide +kernel
theorem ok179 : okOne 179 = true := by decide +kernel
theorem ok180 : okOne 180 = true := by decide +kernel
theorem ok181 : okOne 181 = true := by decide +kernel
theorem ok182 : okOne 182 = true := by decide +kernel
theorem ok183 : okOne 183 = true := by decide +kernel
theorem ok184 : okOne 184 = true := by decide +kernel
theorem ok185 : okOne 185 = true := by decide +kernel
theorem ok186 : okOne 186 = true := by decide +kernel
theorem ok187 : okOne 187 = true := by decide +kernel
theorem ok188 : okOne 188 = true := by decide +kernel
theorem ok189 : okOne 189 = true := by decide +kernel
end
section
/-! what a program decides of the code -/
theorem ok190 : okOne 190 = true := by decide +kernel
theorem ok191 : okOne 191 = true := by decide +kernel
theorem ok192 : okOne 192 = true := by decide +kernel
theorem ok193 : okOne 193 = true := by decide +kernel
theorem ok194 : okOne 194 = true := by decide +kernel
theorem ok195 : okOne 195 = true := by decide +kernel
theorem ok196 : okOne 196 = true := by decide +kernel
theorem ok197 : okOne 197 = true := by decide +kernel
theorem ok198 : okOne 198 = true := by decide +kernel
theorem ok199 : okOne 199 = true := by decide +kernel
theorem ok200 : okOne 200 = true := by decide +kernel
theorem ok201 : okOne 201 = true := by decide +kernel
theorem ok202 : okOne 202 = true := by decide +kernel
theorem ok203 : okOne 203 = true := by decide +kernel
theorem ok204 : okOne 204 = true := by decide +kernel
theorem ok205 : okOne 205 = true := by decide +kernel
theorem ok206 : okOne 206 = true := by decide +kernel
theorem ok207 : okOne 207 = true := by decide +kernel
end
section
/-! what a program decides of the code -/
theorem ok208 : okOne 208 = true := by decide +kernel
theorem ok209 : okOne 209 = true := by decide +kernel
theorem ok210 : okOne 210 = true := by decide +kernel
theorem ok211 : okOne 211 = true := by decide +kernel
theorem ok212 : okOne 212 = true := by decide +kernel
theorem ok213 : okOne 213 = true := by decide +kernel
theorem ok214 : okOne 214 = true := by decide +kernel
theorem ok215 : okOne 215 = true := by decide +kernel
theorem ok216 : okOne 216 = true := by decide +kernel
theorem ok217 : okOne 217 = true := by decide +kernel
theorem ok218 : okOne 218 = true := by decide +kernel
theorem ok219 : okOne 219 = true := by decide +kernel
theorem ok220 : okOne 220 = true := by decide +kernel
theorem ok221 : okOne 221 = true := by decide +kernel
theorem ok222 : okOne 222 = true := by decide +kernel
theorem ok223 : okOne 223 = true := by decide +kernel
theorem ok224 : okOne 224 = true := by decide +kernel
theorem ok225 : okOne 225 = true := by decide +kernel
theorem ok226 : okOne 226 = true := by decide +kernel
theorem ok227 : okOne 227 = true := by decide +kernel
theorem ok228 : okOne 228 = true := by decide +kernel
end
section
/-! what a program decides of the law's code -/
theorem okL0 : okL GP 229 k229_0 = true := by decide +kernel
theorem okL1 : okL GP 229 k229_1 = true := by decide +kernel
theorem okL2 : okL GP 229 k229_2 = true := by decide +kernel
theorem okL3 : okL GP 229 k229_3 = true := by decide +kernel
theorem okL4 : okL GP 229 k229_4 = true := by decide +kernel
theorem okL5 : okL GP 229 k229_5 = true := by decide +kernel
theorem okL6 : okL GP 229 k229_6 = true := by decide +kernel
theorem okL7 : okL GP 229 k229_7 = true := by decide +kernel
theorem okL8 : okL GP 229 k229_8 = true := by decide +kernel
theorem okL9 : okL GP 229 k229_9 = true := by decide +kernel
theorem okL10 : okL GP 229 k229_10 = true := by decide +kernel
theorem okL11 : okL GP 229 k229_11 = true := by decide +kernel
theorem okL12 : okL GP 229 k229_12 = true := by decide +kernel
theorem okL13 : okL GP 229 k229_13 = true := by decide +kernel
end
section
/-! what a program decides of the law's code -/
theorem okL14 : okL GP 229 k229_14 = true := by decide +kernel
theorem okL15 : okL GP 229 k229_15 = true := by decide +kernel
theorem okL16 : okL GP 229 k229_16 = true := by decide +kernel
theorem okL17 : okL GP 229 k229_17 = true := by decide +kernel
theorem okL18 : okL GP 229 k229_18 = true := by decide +kernel
theorem okL19 : okL GP 229 k229_19 = true := by decide +kernel
theorem okL20 : okL GP 229 k229_20 = true := by decide +kernel
theorem okL21 : okL GP 229 k229_21 = true := by decide +kernel
theorem okL22 : okL GP 229 k229_22 = true := by decide +kernel
theorem okL23 : okL GP 229 k229_23 = true := by decide +kernel
theorem okL24 : okL GP 229 k229_24 = true := by decide +kernel
theorem okL25 : okL GP 229 k229_25 = true := by decide +kernel
theorem okL26 : okL GP 229 k229_26 = true := by decide +kernel
theorem okL27 : okL GP 229 k229_27 = true := by decide +kernel
end
section
/-! what a program decides of the law's code -/
theorem okL28 : okL GP 229 k229_28 = true := by decide +kernel
theorem okL29 : okL GP 229 k229_29 = true := by decide +kernel
theorem okL30 : okL GP 229 k229_30 = true := by decide +kernel
theorem okL31 : okL GP 229 k229_31 = true := by decide +kernel
theorem okL32 : okL GP 229 k229_32 = true := by decide +kernel
theorem okL33 : okL GP 229 k229_33 = true := by decide +kernel
theorem okL34 : okL GP 229 k229_34 = true := by decide +kernel
theorem okL35 : okL GP 229 k229_35 = true := by decide +kernel
theorem okL36 : okL GP 229 k229_36 = true := by decide +kernel
theorem okL37 : okL GP 229 k229_37 = true := by decide +kernel
theorem okL38 : okL GP 229 k229_38 = true := by decide +kernel
theorem okL39 : okL GP 229 k229_39 = true := by decide +kernel
end
section
/-! what a program decides of the law's code -/
theorem okL40 : okL GP 229 k229_40 = true := by decide +kernel
end
section
/-! all of it -/
theorem okLaw : okM GP 229 = true := by
  show List.all [k229_0, k229_1, k229_2, k229_3, k229_4, k229_5, k229_6, k229_7, k229_8, k229_9, k229_10, k229_11, k229_12, k229_13, k229_14, k229_15, k229_16, k229_17, k229_18, k229_19, k229_20, k229_21, k229_22, k229_23, k229_24, k229_25, k229_26, k229_27, k229_28, k229_29, k229_30, k229_31, k229_32, k229_33, k229_34, k229_35, k229_36, k229_37, k229_38, k229_39, k229_40] (okL GP 229) = true
  simp only [List.all_cons, List.all_nil, Bool.and_true, Bool.and_self, okL0, okL1, okL2, okL3, okL4, okL5, okL6, okL7, okL8, okL9, okL10, okL11, okL12, okL13, okL14, okL15, okL16, okL17, okL18, okL19, okL20, okL21, okL22, okL23, okL24, okL25, okL26, okL27, okL28, okL29, okL30, okL31, okL32, okL33, okL34, okL35, okL36, okL37, okL38, okL39, okL40]
theorem okc0 : ∀ mi, 0 ≤ mi → mi < 16 → okOne mi = true := by
  intro mi h1 h2
  rcases (show mi = 0 ∨ mi = 1 ∨ mi = 2 ∨ mi = 3 ∨ mi = 4 ∨ mi = 5 ∨ mi = 6 ∨ mi = 7 ∨ mi = 8 ∨ mi = 9 ∨ mi = 10 ∨ mi = 11 ∨ mi = 12 ∨ mi = 13 ∨ mi = 14 ∨ mi = 15 by omega) with rfl | rfl | rfl | rfl | rfl | rfl | rfl | rfl | rfl | rfl | rfl | rfl | rfl | rfl | rfl | rfl
  exacts [ok0, ok1, ok2, ok3, ok4, ok5, ok6, ok7, ok8, ok9, ok10, ok11, ok12, ok13, ok14, ok15]
theorem okc1 : ∀ mi, 16 ≤ mi → mi < 32 → okOne mi = true := by
  intro mi h1 h2
  rcases (show mi = 16 ∨ mi = 17 ∨ mi = 18 ∨ mi = 19 ∨ mi = 20 ∨ mi = 21 ∨ mi = 22 ∨ mi = 23 ∨ mi = 24 ∨ mi = 25 ∨ mi = 26 ∨ mi = 27 ∨ mi = 28 ∨ mi = 29 ∨ mi = 30 ∨ mi = 31 by omega) with rfl | rfl | rfl | rfl | rfl | rfl | rfl | rfl | rfl | rfl | rfl | rfl | rfl | rfl | rfl | rfl
  exacts [ok16, ok17, ok18, ok19, ok20, ok21, ok22, ok23, ok24, ok25, ok26, ok27, ok28, ok29, ok30, ok31]
theorem okc2 : ∀ mi, 32 ≤ mi → mi < 48 → okOne mi = true := by
  intro mi h1 h2
  rcases (show mi = 32 ∨ mi = 33 ∨ mi = 34 ∨ mi = 35 ∨ mi = 36 ∨ mi = 37 ∨ mi = 38 ∨ mi = 39 ∨ mi = 40 ∨ mi = 41 ∨ mi = 42 ∨ mi = 43 ∨ mi = 44 ∨ mi = 45 ∨ mi = 46 ∨ mi = 47 by omega) with rfl | rfl | rfl | rfl | rfl | rfl | rfl | rfl | rfl | rfl | rfl | rfl | rfl | rfl | rfl | rfl
  exacts [ok32, ok33, ok34, ok35, ok36, ok37, ok38, ok39, ok40, ok41, ok42, ok43, ok44, ok45, ok46, ok47]
theorem okc3 : ∀ mi, 48 ≤ mi → mi < 64 → okOne mi = true := by
  intro mi h1 h2
  rcases (show mi = 48 ∨ mi = 49 ∨ mi = 50 ∨ mi = 51 ∨ mi = 52 ∨ mi = 53 ∨ mi = 54 ∨ mi = 55 ∨ mi = 56 ∨ mi = 57 ∨ mi = 58 ∨ mi = 59 ∨ mi = 60 ∨ mi = 61 ∨ mi = 62 ∨ mi = 63 by omega) with rfl | rfl | rfl | rfl | rfl | rfl | rfl | rfl | rfl | rfl | rfl | rfl | rfl | rfl | rfl | rfl
  exacts [ok48, ok49, ok50, ok51, ok52, ok53, ok54, ok55, ok56, ok57, ok58, ok59, ok60, ok61, ok62, ok63]
theorem okc4 : ∀ mi, 64 ≤ mi → mi < 80 → okOne mi = true := by
  intro mi h1 h2
  rcases (show mi = 64 ∨ mi = 65 ∨ mi = 66 ∨ mi = 67 ∨ mi = 68 ∨ mi = 69 ∨ mi = 70 ∨ mi = 71 ∨ mi = 72 ∨ mi = 73 ∨ mi = 74 ∨ mi = 75 ∨ mi = 76 ∨ mi = 77 ∨ mi = 78 ∨ mi = 79 by omega) with rfl | rfl | rfl | rfl | rfl | rfl | rfl | rfl | rfl | rfl | rfl | rfl | rfl | rfl | rfl | rfl
  exacts [ok64, ok65, ok66, ok67, ok68, ok69, ok70, ok71, ok72, ok73, ok74, ok75, ok76, ok77, ok78, ok79]
theorem okc5 : ∀ mi, 80 ≤ mi → mi < 96 → okOne mi = true := by
  intro mi h1 h2
  rcases (show mi = 80 ∨ mi = 81 ∨ mi = 82 ∨ mi = 83 ∨ mi = 84 ∨ mi = 85 ∨ mi = 86 ∨ mi = 87 ∨ mi = 88 ∨ mi = 89 ∨ mi = 90 ∨ mi = 91 ∨ mi = 92 ∨ mi = 93 ∨ mi = 94 ∨ mi = 95 by omega) with rfl | rfl | rfl | rfl | rfl | rfl | rfl | rfl | rfl | rfl | rfl | rfl | rfl | rfl | rfl | rfl
  exacts [ok80, ok81, ok82, ok83, ok84, ok85, ok86, ok87, ok88, ok89, ok90, ok91, ok92, ok93, ok94, ok95]
theorem okc6 : ∀ mi, 96 ≤ mi → mi < 112 → okOne mi = true := by
  intro mi h1 h2
  rcases (show mi = 96 ∨ mi = 97 ∨ mi = 98 ∨ mi = 99 ∨ mi = 100 ∨ mi = 101 ∨ mi = 102 ∨ mi = 103 ∨ mi = 104 ∨ mi = 105 ∨ mi = 106 ∨ mi = 107 ∨ mi = 108 ∨ mi = 109 ∨ mi = 110 ∨ mi = 111 by omega) with rfl | rfl | rfl | rfl | rfl | rfl | rfl | rfl | rfl | rfl | rfl | rfl | rfl | rfl | rfl | rfl
  exacts [ok96, ok97, ok98, ok99, ok100, ok101, ok102, ok103, ok104, ok105, ok106, ok107, ok108, ok109, ok110, ok111]
theorem okc7 : ∀ mi, 112 ≤ mi → mi < 128 → okOne mi = true := by
  intro mi h1 h2
  rcases (show mi = 112 ∨ mi = 113 ∨ mi = 114 ∨ mi = 115 ∨ mi = 116 ∨ mi = 117 ∨ mi = 118 ∨ mi = 119 ∨ mi = 120 ∨ mi = 121 ∨ mi = 122 ∨ mi = 123 ∨ mi = 124 ∨ mi = 125 ∨ mi = 126 ∨ mi = 127 by omega) with rfl | rfl | rfl | rfl | rfl | rfl | rfl | rfl | rfl | rfl | rfl | rfl | rfl | rfl | rfl | rfl
  exacts [ok112, ok113, ok114, ok115, ok116, ok117, ok118, ok119, ok120, ok121, ok122, ok123, ok124, ok125, ok126, ok127]
theorem okc8 : ∀ mi, 128 ≤ mi → mi < 144 → okOne mi = true := by
  intro mi h1 h2
  rcases (show mi = 128 ∨ mi = 129 ∨ mi = 130 ∨ mi = 131 ∨ mi = 132 ∨ mi = 133 ∨ mi = 134 ∨ mi = 135 ∨ mi = 136 ∨ mi = 137 ∨ mi = 138 ∨ mi = 139 ∨ mi = 140 ∨ mi = 141 ∨ mi = 142 ∨ mi = 143 by omega) with rfl | rfl | rfl | rfl | rfl | rfl | rfl | rfl | rfl | rfl | rfl | rfl | rfl | rfl | rfl | rfl
  exacts [ok128, ok129, ok130, ok131, ok132, ok133, ok134, ok135, ok136, ok137, ok138, ok139, ok140, ok141, ok142, ok143]
theorem okc9 : ∀ mi, 144 ≤ mi → mi < 160 → okOne mi = true := by
  intro mi h1 h2
  rcases (show mi = 144 ∨ mi = 145 ∨ mi = 146 ∨ mi = 147 ∨ mi = 148 ∨ mi = 149 ∨ mi = 150 ∨ mi = 151 ∨ mi = 152 ∨ mi = 153 ∨ mi = 154 ∨ mi = 155 ∨ mi = 156 ∨ mi = 157 ∨ mi = 158 ∨ mi = 159 by omega) with rfl | rfl | rfl | rfl | rfl | rfl | rfl | rfl | rfl | rfl | rfl | rfl | rfl | rfl | rfl | rfl
  exacts [ok144, ok145, ok146, ok147, ok148, ok149, ok150, ok151, ok152, ok153, ok154, ok155, ok156, ok157, ok158, ok159]
theorem okc10 : ∀ mi, 160 ≤ mi → mi < 176 → okOne mi = true := by
  intro mi h1 h2
  rcases (show mi = 160 ∨ mi = 161 ∨ mi = 162 ∨ mi = 163 ∨ mi = 164 ∨ mi = 165 ∨ mi = 166 ∨ mi = 167 ∨ mi = 168 ∨ mi = 169 ∨ mi = 170 ∨ mi = 171 ∨ mi = 172 ∨ mi = 173 ∨ mi = 174 ∨ mi = 175 by omega) with rfl | rfl | rfl | rfl | rfl | rfl | rfl | rfl | rfl | rfl | rfl | rfl | rfl | rfl | rfl | rfl
  exacts [ok160, ok161, ok162, ok163, ok164, ok165, ok166, ok167, ok168, ok169, ok170, ok171, ok172, ok173, ok174, ok175]
theorem okc11 : ∀ mi, 176 ≤ mi → mi < 192 → okOne mi = true := by
  intro mi h1 h2
  rcases (show mi = 176 ∨ mi = 177 ∨ mi = 178 ∨ mi = 179 ∨ mi = 180 ∨ mi = 181 ∨ mi = 182 ∨ mi = 183 ∨ mi = 184 ∨ mi = 185 ∨ mi = 186 ∨ mi = 187 ∨ mi = 188 ∨ mi = 189 ∨ mi = 190 ∨ mi = 191 by omega) with rfl | rfl | rfl | rfl | rfl | rfl | rfl | rfl | rfl | rfl | rfl | rfl | rfl | rfl | rfl | rfl
  exacts [ok176, ok177, ok178, ok179, ok180, ok181, ok182, ok183, ok184, ok185, ok186, ok187, ok188, ok189, ok190, ok191]
theorem okc12 : ∀ mi, 192 ≤ mi → mi < 208 → okOne mi = true := by
  intro mi h1 h2
  rcases (show mi = 192 ∨ mi = 193 ∨ mi = 194 ∨ mi = 195 ∨ mi = 196 ∨ mi = 197 ∨ mi = 198 ∨ mi = 199 ∨ mi = 200 ∨ mi = 201 ∨ mi = 202 ∨ mi = 203 ∨ mi = 204 ∨ mi = 205 ∨ mi = 206 ∨ mi = 207 by omega) with rfl | rfl | rfl | rfl | rfl | rfl | rfl | rfl | rfl | rfl | rfl | rfl | rfl | rfl | rfl | rfl
  exacts [ok192, ok193, ok194, ok195, ok196, ok197, ok198, ok199, ok200, ok201, ok202, ok203, ok204, ok205, ok206, ok207]
theorem okc13 : ∀ mi, 208 ≤ mi → mi < 224 → okOne mi = true := by
  intro mi h1 h2
  rcases (show mi = 208 ∨ mi = 209 ∨ mi = 210 ∨ mi = 211 ∨ mi = 212 ∨ mi = 213 ∨ mi = 214 ∨ mi = 215 ∨ mi = 216 ∨ mi = 217 ∨ mi = 218 ∨ mi = 219 ∨ mi = 220 ∨ mi = 221 ∨ mi = 222 ∨ mi = 223 by omega) with rfl | rfl | rfl | rfl | rfl | rfl | rfl | rfl | rfl | rfl | rfl | rfl | rfl | rfl | rfl | rfl
  exacts [ok208, ok209, ok210, ok211, ok212, ok213, ok214, ok215, ok216, ok217, ok218, ok219, ok220, ok221, ok222, ok223]
theorem okc14 : ∀ mi, 224 ≤ mi → mi < 229 → okOne mi = true := by
  intro mi h1 h2
  rcases (show mi = 224 ∨ mi = 225 ∨ mi = 226 ∨ mi = 227 ∨ mi = 228 by omega) with rfl | rfl | rfl | rfl | rfl
  exacts [ok224, ok225, ok226, ok227, ok228]
theorem okAll : ∀ mi, mi < 229 → okOne mi = true := by
  intro mi h
  by_cases g0 : mi < 16
  · exact okc0 mi (by omega) g0
  by_cases g1 : mi < 32
  · exact okc1 mi (by omega) g1
  by_cases g2 : mi < 48
  · exact okc2 mi (by omega) g2
  by_cases g3 : mi < 64
  · exact okc3 mi (by omega) g3
  by_cases g4 : mi < 80
  · exact okc4 mi (by omega) g4
  by_cases g5 : mi < 96
  · exact okc5 mi (by omega) g5
  by_cases g6 : mi < 112
  · exact okc6 mi (by omega) g6
  by_cases g7 : mi < 128
  · exact okc7 mi (by omega) g7
  by_cases g8 : mi < 144
  · exact okc8 mi (by omega) g8
  by_cases g9 : mi < 160
  · exact okc9 mi (by omega) g9
  by_cases g10 : mi < 176
  · exact okc10 mi (by omega) g10
  by_cases g11 : mi < 192
  · exact okc11 mi (by omega) g11
  by_cases g12 : mi < 208
  · exact okc12 mi (by omega) g12
  by_cases g13 : mi < 224
  · exact okc13 mi (by omega) g13
  exact okc14 mi (by omega) h
theorem MOk_GP : MOk GP := by
  intro mi h
  have h1 := okAll mi h
  unfold okOne at h1
  rw [Bool.and_eq_true] at h1
  exact ⟨⟨_, h1.1⟩, h1.2⟩
end
section
/-! the law's frame over the abstract machine: what is left is pure -/
def h00 : AH := (0, 0, fun _ => .inr (0, []))
theorem nw_over {ty : FieldType} {u U : State} (hW : u.WarmedH U.vm) (h : va_Nw (.arrayOver ty) u) : va_Nw (.arrayOver ty) U := by
  have h1 : (Cond.arrayOver ty).before #[] (u.setVm U.vm) = true := by
    rw [Cond.arrayOver_setVmC hW.alike]
    exact h
  exact h1
theorem XwOk_GP : XwOk GP := by
  intro w hw u U hW hz
  have key : ∀ w ∈ XW, (∃ a i x h, w = Jvm.Cond.methodLinkNest a i x h) ∨ (∃ a b, w = Jvm.Cond.castable a b) ∨ ∃ t, w = Jvm.Cond.arrayOver t := by
    intro w hw
    simp only [XW, List.mem_cons, List.not_mem_nil, or_false] at hw
    rcases hw with rfl | rfl | rfl | rfl | rfl | rfl | rfl | rfl | rfl | rfl | rfl | rfl | rfl | rfl | rfl | rfl | rfl | rfl | rfl | rfl | rfl | rfl | rfl | rfl | rfl | rfl | rfl
    all_goals first
      | exact Or.inl ⟨_, _, _, _, rfl⟩
      | exact Or.inr (Or.inl ⟨_, _, rfl⟩)
      | exact Or.inr (Or.inr ⟨_, rfl⟩)
  rcases key w hw with ⟨a, i, x, h, rfl⟩ | ⟨a, b, rfl⟩ | ⟨t, rfl⟩
  · exact va_Nw.warmM hW hz
  · exact va_Nw.warmC hW hz
  · exact nw_over hW hz
theorem over_spec {t : FieldType} {a : Array Value} {s : State} (h : (Cond.arrayOver (.array t)).before a s = true) : ∃ comp c k, s.vm.findClass (FieldType.array t).toString = some comp ∧ s.vm.classes[c]? = some k ∧ k.kind = .array comp (.array t) ∧ s.vm.findClass ("[" ++ (FieldType.array t).toString) = some c := Cond.arrayOver_specA h
-- ==== written by gen_law.py from here on
theorem words_in {ws : List Cond} (ps : List Nat) (h : decide (ws = ps.filterMap (fun i => lw_tbl[i]?)) = true) : ∀ w ∈ ws, w ∈ lw_tbl := by
  intro w hw
  rw [of_decide_eq_true h] at hw
  obtain ⟨i, -, hi⟩ := List.mem_filterMap.mp hw
  exact List.mem_of_getElem? hi
theorem words_ts {ws : List Cond} (ps : List Nat) (h : decide (ws = ps.filterMap (fun i => lw_tbl[i]?)) = true) (hg : ws.all goodWord = true) : ∀ w ∈ ws, w ∈ TS GP := fun w hw => List.mem_filter.mpr ⟨words_in ps h w hw, List.all_eq_true.mp hg w hw⟩
theorem uin0 : ∀ w ∈ u_ws RX0 TX0 5, w ∈ TS GP := words_ts [162, 164, 166, 168, 170] (by decide +kernel) (by decide +kernel)
theorem uin1 : ∀ w ∈ u_ws RX1 TX1 0, w ∈ TS GP := words_ts [] (by decide +kernel) (by decide +kernel)
theorem uin2 : ∀ w ∈ u_ws RX2 TX2 15, w ∈ TS GP := words_ts [260, 262, 264, 266, 268, 270, 272, 274, 276, 278, 280, 282, 284, 286, 288] (by decide +kernel) (by decide +kernel)
theorem uin3 : ∀ w ∈ u_ws RX4 TX4 0, w ∈ TS GP := words_ts [] (by decide +kernel) (by decide +kernel)
theorem uin4 : ∀ w ∈ u_ws RX5 TX5 8, w ∈ TS GP := words_ts [309, 311, 313, 315, 317, 319, 321, 323] (by decide +kernel) (by decide +kernel)
theorem uin5 : ∀ w ∈ u_ws RX6 TX6 0, w ∈ TS GP := words_ts [] (by decide +kernel) (by decide +kernel)
theorem uin6 : ∀ w ∈ u_ws RX7 TX7 5, w ∈ TS GP := words_ts [135, 137, 139, 141, 143] (by decide +kernel) (by decide +kernel)
theorem uin7 : ∀ w ∈ u_ws RX8 TX8 0, w ∈ TS GP := words_ts [] (by decide +kernel) (by decide +kernel)
theorem uin8 : ∀ w ∈ u_ws RX9 TX9 3, w ∈ TS GP := words_ts [113, 115, 117] (by decide +kernel) (by decide +kernel)
theorem uin9 : ∀ w ∈ u_ws RX10 TX10 0, w ∈ TS GP := words_ts [] (by decide +kernel) (by decide +kernel)
theorem uin10 : ∀ w ∈ u_ws RX11 TX11 13, w ∈ TS GP := words_ts [340, 342, 344, 346, 348, 350, 352, 354, 356, 358, 360, 362, 364] (by decide +kernel) (by decide +kernel)
theorem uin11 : ∀ w ∈ u_ws RX12 TX12 35, w ∈ TS GP := words_ts [948, 950, 952, 954, 956, 958, 960, 962, 964, 966, 968, 970, 972, 974, 976, 978, 980, 982, 984, 986, 988, 990, 992, 994, 996, 998, 1000, 1002, 1004, 1006, 1008, 1010, 1012, 1014, 1016] (by decide +kernel) (by decide +kernel)
theorem xw_in : ∀ w ∈ XW, w ∈ lw_tbl := words_in [107, 123, 148, 174, 177, 180, 187, 190, 194, 197, 201, 204, 208, 211, 215, 293, 298, 326, 454, 1422, 1423, 1424, 1425, 1426, 1427, 1428, 1429] (by decide +kernel)
theorem gp_classes : ∀ ci, ci < GP.cl.length → (∀ w ∈ u_ws (clN GP.cl ci).1 (clN GP.cl ci).2.1 (clN GP.cl ci).2.2, w ∈ TS GP) ∧ (∀ k, k < (clN GP.cl ci).2.2 → parseFieldDescriptor ((clN GP.cl ci).2.1 k).2.2.1 = some (GP.ty0 ci k)) ∧ (∀ a, a < (clN GP.cl ci).2.2 → ∀ b, b < (clN GP.cl ci).2.2 → a ≠ b → ((clN GP.cl ci).2.1 a).2.1 ≠ ((clN GP.cl ci).2.1 b).2.1) := by
  intro ci hci
  have h12 : ci < 12 := hci
  match ci, h12 with
  | 0, _ => exact ⟨uin0, tyX0_ok, nmX0⟩
  | 1, _ => exact ⟨uin1, tyX1_ok, nmX1⟩
  | 2, _ => exact ⟨uin2, tyX2_ok, nmX2⟩
  | 3, _ => exact ⟨uin3, tyX4_ok, nmX4⟩
  | 4, _ => exact ⟨uin4, tyX5_ok, nmX5⟩
  | 5, _ => exact ⟨uin5, tyX6_ok, nmX6⟩
  | 6, _ => exact ⟨uin6, tyX7_ok, nmX7⟩
  | 7, _ => exact ⟨uin7, tyX8_ok, nmX8⟩
  | 8, _ => exact ⟨uin8, tyX9_ok, nmX9⟩
  | 9, _ => exact ⟨uin9, tyX10_ok, nmX10⟩
  | 10, _ => exact ⟨uin10, tyX11_ok, nmX11⟩
  | 11, _ => exact ⟨uin11, tyX12_ok, nmX12⟩
theorem nc_in : NC.all (fun q => decide (Jvm.Cond.not (Jvm.Cond.castable q.1 q.2) ∈ flatC (Jvm.Cond.and given_1 narrow_1))) = true := by decide +kernel
set_option maxHeartbeats 4000000 in
set_option maxRecDepth 100000 in
/-- the law walks as the abstract machine says -/
theorem law_sound (hM : MOk GP) (hLaw : okM GP 229 = true) (hpure : ∀ sc : Nat × (Nat → Int32), sc.1 ≤ 3072 → ∃ h' : AH, Exec (PB MT) sc 40 229 0 [.retAddr 0, Jk, Jk, Jk] [] h00 = some (some (.int 1), h') ∧ h'.1 ≤ 600000 ∧ h'.2.1 ≤ 7302250)
    {p : Program} {e : Env} {s : State} {m : MethodId} {below : List Frame} {meth : Method} {c : Code} (l : Launch) {b L : Nat} {xs : Nat → Int32} (hL : L ≤ 3072) (Q : State → Prop)
    (hx : p.tables.exec = Jvm.exec) (hb : c.code = code) (hr : meth.sig.returnType = ret) (hml : c.maxLocals = 4) (hown : s.vm.findClass "LetterChuteLaw" = some m.cls) (hts : ∀ w ∈ lw_tbl, w.before #[Value.ref b] s = true) (hX : va_X b L xs s s.heap) (hbl : b < s.heap.size) (hlocks : meth.locks = false) (hgv : (Jvm.Cond.and given_1 narrow_1).before #[Value.ref b] s = true)
    (hQ : ∀ (H : Heap) (pc : Nat) (lr : Array Slot), decode code pc = .ok (.ireturn, 1) → W p l e room_1 s m #[Value.ref b] below meth c H [] 600000 7302250 Q (F0 m pc lr [.int 1])) :
    W p l e room_1 s m #[Value.ref b] below meth c s.heap [] 0 0 Q (entryFrame m ([Value.ref b] : List Value).toArray 4) := by
  obtain ⟨h', hex, hh1, hh2⟩ := hpure (L, xs) hL
  obtain ⟨n, hn⟩ := Exec_iff.mp hex
  obtain ⟨c0, i0, k0⟩ := u_known (C := RX0) (T := TX0) (N := 5) (n := 5) hts (fun w hw => (List.mem_filter.mp (uin0 w hw)).1) (hts (.instantiable RX0 5) (List.mem_of_getElem? (i := 147) (by decide +kernel)))
  obtain ⟨c1, i1, k1⟩ := u_known (C := RX1) (T := TX1) (N := 0) (n := 0) hts (fun w hw => (List.mem_filter.mp (uin1 w hw)).1) (hts (.instantiable RX1 0) (List.mem_of_getElem? (i := 176) (by decide +kernel)))
  obtain ⟨c2, i2, k2⟩ := u_known (C := RX2) (T := TX2) (N := 15) (n := 15) hts (fun w hw => (List.mem_filter.mp (uin2 w hw)).1) (hts (.instantiable RX2 15) (List.mem_of_getElem? (i := 214) (by decide +kernel)))
  obtain ⟨c3, i3, k3⟩ := u_known (C := RX4) (T := TX4) (N := 0) (n := 0) hts (fun w hw => (List.mem_filter.mp (uin3 w hw)).1) (hts (.instantiable RX4 0) (List.mem_of_getElem? (i := 193) (by decide +kernel)))
  obtain ⟨c4, i4, k4⟩ := u_known (C := RX5) (T := TX5) (N := 8) (n := 8) hts (fun w hw => (List.mem_filter.mp (uin4 w hw)).1) (hts (.instantiable RX5 8) (List.mem_of_getElem? (i := 292) (by decide +kernel)))
  obtain ⟨c5, i5, k5⟩ := u_known (C := RX6) (T := TX6) (N := 0) (n := 0) hts (fun w hw => (List.mem_filter.mp (uin5 w hw)).1) (hts (.instantiable RX6 0) (List.mem_of_getElem? (i := 200) (by decide +kernel)))
  obtain ⟨c6, i6, k6⟩ := u_known (C := RX7) (T := TX7) (N := 5) (n := 5) hts (fun w hw => (List.mem_filter.mp (uin6 w hw)).1) (hts (.instantiable RX7 5) (List.mem_of_getElem? (i := 122) (by decide +kernel)))
  obtain ⟨c7, i7, k7⟩ := u_known (C := RX8) (T := TX8) (N := 0) (n := 0) hts (fun w hw => (List.mem_filter.mp (uin7 w hw)).1) (hts (.instantiable RX8 0) (List.mem_of_getElem? (i := 207) (by decide +kernel)))
  obtain ⟨c8, i8, k8⟩ := u_known (C := RX9) (T := TX9) (N := 3) (n := 3) hts (fun w hw => (List.mem_filter.mp (uin8 w hw)).1) (hts (.instantiable RX9 3) (List.mem_of_getElem? (i := 101) (by decide +kernel)))
  obtain ⟨c9, i9, k9⟩ := u_known (C := RX10) (T := TX10) (N := 0) (n := 0) hts (fun w hw => (List.mem_filter.mp (uin9 w hw)).1) (hts (.instantiable RX10 0) (List.mem_of_getElem? (i := 186) (by decide +kernel)))
  obtain ⟨c10, i10, k10⟩ := u_known (C := RX11) (T := TX11) (N := 13) (n := 13) hts (fun w hw => (List.mem_filter.mp (uin10 w hw)).1) (hts (.instantiable RX11 13) (List.mem_of_getElem? (i := 93) (by decide +kernel)))
  obtain ⟨c11, i11, k11⟩ := u_known (C := RX12) (T := TX12) (N := 35) (n := 35) hts (fun w hw => (List.mem_filter.mp (uin11 w hw)).1) (hts (.instantiable RX12 35) (List.mem_of_getElem? (i := 907) (by decide +kernel)))
  let dC : Nat → ClassId := fun k => ([c0, c1, c2, c3, c4, c5, c6, c7, c8, c9, c10, c11] : List ClassId).getD k 0
  let dI : Nat → Nat → Nat := fun k => ([i0, i1, i2, i3, i4, i5, i6, i7, i8, i9, i10, i11] : List (Nat → Nat)).getD k (fun _ => 0)
  have hKc : ∀ (k : Nat) (q : vw_C), CLS[k]? = some q → u_Kn s q.1 q.2.1 q.2.2 (dC k) (dI k) := by
    intro k q hq
    match k, hq with
    | 0, hq => cases hq; exact k0
    | 1, hq => cases hq; exact k1
    | 2, hq => cases hq; exact k2
    | 3, hq => cases hq; exact k3
    | 4, hq => cases hq; exact k4
    | 5, hq => cases hq; exact k5
    | 6, hq => cases hq; exact k6
    | 7, hq => cases hq; exact k7
    | 8, hq => cases hq; exact k8
    | 9, hq => cases hq; exact k9
    | 10, hq => cases hq; exact k10
    | 11, hq => cases hq; exact k11
    | k + 12, hq => simp [CLS] at hq
  obtain ⟨t0, kt0, cm0, f0, g0, j0⟩ := Cond.arrayClass_spec (hts (.arrayClass .int) (List.mem_of_getElem? (i := 120) (by decide +kernel)))
  obtain ⟨cm1, t1, kt1, a1, b1, d1, e1, f1⟩ := Cond.arrayOver_spec (hts (.arrayOver (.object "LetterChute$House")) (List.mem_of_getElem? (i := 326) (by decide +kernel)))
  obtain ⟨cm2, t2, kt2, a2, b2, d2, e2, f2⟩ := Cond.arrayOver_spec (hts (.arrayOver (.object "LetterChute$Letter")) (List.mem_of_getElem? (i := 174) (by decide +kernel)))
  obtain ⟨cm3, t3, kt3, a3, d3, e3, f3⟩ := over_spec (hts (.arrayOver (.array .int)) (List.mem_of_getElem? (i := 107) (by decide +kernel)))
  have hK : va_K (dC, dI) CLS [(t0, .int), (t1, .object "LetterChute$House"), (t2, .object "LetterChute$Letter"), (t3, .array .int)] s := by
    refine ⟨hKc, fun k q hq => ?_⟩
    match k, hq with
    | 0, hq => cases hq; exact ⟨fun N z => ⟨(fun k h => by cases h), kt0, g0, cm0, j0⟩, f0⟩
    | 1, hq => cases hq; exact ⟨fun N z => ⟨(fun k h => by cases h), kt1, d1, cm1, e1⟩, kt1, cm1, d1, e1, a1, f1⟩
    | 2, hq => cases hq; exact ⟨fun N z => ⟨(fun k h => by cases h), kt2, d2, cm2, e2⟩, kt2, cm2, d2, e2, a2, f2⟩
    | 3, hq => cases hq; exact ⟨fun N z => ⟨(fun k h => by cases h), kt3, d3, cm3, e3⟩, f3⟩
    | k + 4, hq => simp at hq
  have hKS : KS GP (dC, dI) [(t0, .int), (t1, .object "LetterChute$House"), (t2, .object "LetterChute$Letter"), (t3, .array .int)] s := by
    refine ⟨hK, fun w hw => ?_, fun q hq => ?_⟩
    · have hbw := hts w (xw_in w hw)
      have key : ∀ w ∈ XW, w.onTables = true ∨ ∃ t, w = Jvm.Cond.arrayOver t := by
        intro w hw
        simp only [XW, List.mem_cons, List.not_mem_nil, or_false] at hw
        rcases hw with rfl | rfl | rfl | rfl | rfl | rfl | rfl | rfl | rfl | rfl | rfl | rfl | rfl | rfl | rfl | rfl | rfl | rfl | rfl | rfl | rfl | rfl | rfl | rfl | rfl | rfl | rfl
        all_goals first
          | exact Or.inl rfl
          | exact Or.inr ⟨_, rfl⟩
      rcases key w hw with h | ⟨t, rfl⟩
      · exact va_Nw.of h hbw
      · exact hbw
    · have h1 := List.all_eq_true.mp nc_in q hq
      exact va_Nc.of (flat_of_before _ hgv _ (of_decide_eq_true h1))
  have hG : GOK GP [(t0, .int), (t1, .object "LetterChute$House"), (t2, .object "LetterChute$Letter"), (t3, .array .int)] := ⟨gp_classes, rfl, rfl, rfl⟩
  have hF : FC GP (dC, dI) [(t0, .int), (t1, .object "LetterChute$House"), (t2, .object "LetterChute$Letter"), (t3, .array .int)] s.heap.size b (L, xs) 229 p s m #[Value.ref b] meth c h00 := ⟨hx, hb, hml, hr, hown, fun w hw => hts w (List.mem_filter.mp hw).1, fun q => absurd q (by decide +kernel), hlocks, hKS, hX, hbl, rfl⟩
  have hS0 : SR GP (dC, dI) [(t0, .int), (t1, .object "LetterChute$House"), (t2, .object "LetterChute$Letter"), (t3, .array .int)] s.heap.size b s h00 h00 s.heap [] 0 0 := ⟨fun k q hq => by simp [wld, h00] at hq, va_S.rf, rfl, rfl, Gr.rf⟩
  have key := frm_sound hG hM XwOk_GP hbl l n 229 h00 p e room_1 s m #[Value.ref b] below meth c Q 40 0 [.retAddr 0, Jk, Jk, Jk] [] h00 (some (.int 1), h') hLaw hF (Nat.le_of_ble_eq_true rfl) (Nat.le_of_ble_eq_true rfl) (show h'.1 - 0 ≤ 600000 by omega) (show h'.2.1 - 0 ≤ 7302250 by omega) ?_ hn s.heap [] 0 0 _ hS0 (LR.entry (as := [.retAddr 0]) (nL := 4) (Nat.le_of_ble_eq_true rfl))
  · rw [lg_entry_eq]
    exact key
  · refine ⟨?_, ?_, ?_, ?_⟩
    · intro H locs cells slots pc lr v ty hv _ _ hd hR
      cases hv
      obtain ⟨hP1, hS1, rfl, rfl, -⟩ := hR
      refine va_forget (fun q hq => hS1.2.2 q hq) ?_
      refine W.widen (k := 600000) (n := 7302250) (show h'.1 - 0 ≤ 600000 by omega) (show h'.2.1 - 0 ≤ 7302250 by omega) ?_
      exact hQ H pc lr hd
    · intro H locs cells slots pc lr v hv
      cases hv
    · intro H locs cells slots pc lr v n hv
      cases hv
    · intro H locs cells slots pc lr hv
      cases hv
end
