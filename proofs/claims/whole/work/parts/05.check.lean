/-! what a program decides of each instruction: that it stands in the bytes as told, and which words of the tables it needs -/
/-- a method: name, bytes, locals, answer, blocks -/
abbrev MI : Type := MethodName × ByteArray × Nat × Option FieldType × List (List Ins)
def PB (M : Nat → MI) (mi b : Nat) : List Ins := (M mi).2.2.2.2.getD b []
def bpc (M : Nat → MI) (mi b : Nat) : Nat := match PB M mi b with
  | [] => 0
  | a :: _ => a.1
def nxt (is : List Ins) : Nat := match is with
  | [] => 0
  | a :: _ => a.1
/-- the word at a place of the tables, one that goes along -/
def wat (T0 : List Cond) (k : Nat) (w : Cond) : Bool := decide (T0[k]? = some w) && goodWord w
theorem wat_spec {T0 : List Cond} {k : Nat} {w : Cond} (h : wat T0 k w = true) : w ∈ T0.filter goodWord := by
  simp only [wat, Bool.and_eq_true, decide_eq_true_eq] at h
  exact List.mem_filter.mpr ⟨List.mem_of_getElem? h.1, h.2⟩
def xat (xw : List Cond) (k : Nat) (w : Cond) : Bool := decide (xw[k]? = some w)
theorem xat_spec {xw : List Cond} {k : Nat} {w : Cond} (h : xat xw k w = true) : w ∈ xw := by
  simp only [xat, decide_eq_true_eq] at h
  exact List.mem_of_getElem? h
def clN (cl : List vw_C) (ci : Nat) : vw_C := cl.getD ci ("", fun _ => ("", "", "", false), 0)
/-- the program: methods, how many may be called, tables, classes, their fields' types, words of nests, pairs of classes that don't cast, element types of arrays -/
abbrev PG : Type := (Nat → MI) × Nat × List Cond × List vw_C × (Nat → Nat → FieldType) × List Cond × List (String × String) × List FieldType
abbrev PG.M (G : PG) : Nat → MI := G.1
abbrev PG.nM (G : PG) : Nat := G.2.1
abbrev PG.T0 (G : PG) : List Cond := G.2.2.1
abbrev PG.cl (G : PG) : List vw_C := G.2.2.2.1
abbrev PG.ty0 (G : PG) : Nat → Nat → FieldType := G.2.2.2.2.1
abbrev PG.xw (G : PG) : List Cond := G.2.2.2.2.2.1
abbrev PG.nc (G : PG) : List (String × String) := G.2.2.2.2.2.2.1
abbrev PG.tyL (G : PG) : List FieldType := G.2.2.2.2.2.2.2
def dcd (G : PG) (mi pc len : Nat) (i : Instr) : Bool := decide (decode (G.M mi).2.1 pc = .ok (i, len))
def retOk (G : PG) (c k : Nat) : Bool := match (G.M c).2.2.2.1 with
  | none => decide (k = 0)
  | some .int => decide (k = 1)
  | some .boolean => decide (k = 1)
  | some .long => decide (k = 2)
  | some (.object _) => decide (k = 3)
  | _ => false
/-- of a callee: callable, its locals as told, so many arguments -/
def cleOk (G : PG) (c mL n k : Nat) : Bool := decide (c < G.nM) && decide ((G.M c).2.2.1 = mL) && decide (mL ≤ 21) && retOk G c k && decide ((parseMethodDescriptor (G.M c).1.desc).map (fun d => d.parameters.length) = some n)
/-- casting a class to another, exactly or by a word -/
def casts (G : PG) (k : Nat) (C E : String) : Bool := decide (C = E) || xat G.xw k (.castable C E)
/-- the receivers of a call that may be overridden: class, callee; words: which it selects, that this is a method of objects -/
def polyOk (G : PG) (xm n k : Nat) : List (Nat × Nat × Nat) → List Nat → Bool
  | [], _ => true
  | (ci, c, mL) :: r, a :: b :: ws => decide (ci < G.cl.length) && cleOk G c mL n k && wat G.T0 a (.selects (clN G.cl ci).1 (G.M xm).1 (G.M c).1) && wat G.T0 b (.instanceMethod (G.M c).1) && polyOk G xm n k r ws
  | _, _ => false
def okI (G : PG) (mi pc len : Nat) (i : Instr) (o : Opd) (nx : Nat) : Bool :=
  let own := (G.M mi).1.cls
  let fall := decide (nx = pc + len)
  let d := dcd G mi pc len i
  match i with
  | .nop => decide (pc = bpc G.M mi o.2.1)
  | .iconst n => d && fall && decide (len = 1) && decide (o.1 = .int (Int32.ofInt n))
  | .bipush n => d && fall && decide (len = 2) && decide (o.1 = .int (Int8.ofInt n).toInt32)
  | .sipush n => d && fall && decide (len = 3) && decide (o.1 = .int (Int16.ofInt n).toInt32)
  | .lconst n => d && fall && decide (len = 1) && decide (o.1 = .long (Int64.ofNat (n : Nat)))
  | .ldc k => d && fall && decide (len = 2) && (match o.1, o.2.2.2.2 with | .int v, w :: _ => wat G.T0 w (.constant own k v) | _, _ => false)
  | .ldc_w k => d && fall && decide (len = 3) && (match o.1, o.2.2.2.2 with | .int v, w :: _ => wat G.T0 w (.constant own k v) | _, _ => false)
  | .ldc2_w k => d && fall && decide (len = 3) && (match o.1, o.2.2.2.2 with | .long v, w :: _ => wat G.T0 w (.constantLong own k v) | _, _ => false)
  | .iload_n k => d && fall && decide (len = 1) && decide ((k : Nat) = o.2.1)
  | .lload_n k => d && fall && decide (len = 1) && decide ((k : Nat) = o.2.1)
  | .aload_n k => d && fall && decide (len = 1) && decide ((k : Nat) = o.2.1)
  | .istore_n k => d && fall && decide (len = 1) && decide ((k : Nat) = o.2.1)
  | .lstore_n k => d && fall && decide (len = 1) && decide ((k : Nat) = o.2.1)
  | .astore_n k => d && fall && decide (len = 1) && decide ((k : Nat) = o.2.1)
  | .iload k => d && fall && decide (len = 2) && decide (k = o.2.1)
  | .lload k => d && fall && decide (len = 2) && decide (k = o.2.1)
  | .aload k => d && fall && decide (len = 2) && decide (k = o.2.1)
  | .istore k => d && fall && decide (len = 2) && decide (k = o.2.1)
  | .lstore k => d && fall && decide (len = 2) && decide (k = o.2.1)
  | .astore k => d && fall && decide (len = 2) && decide (k = o.2.1)
  | .iinc k n => d && fall && decide (len = 3) && decide (k = o.2.1) && decide (o.1 = .int (Int32.ofInt n))
  | .iadd | .isub | .imul | .iand | .ior | .ixor | .idiv | .irem | .ineg | .ishl | .ishr | .iushr | .i2l | .l2i | .i2b | .i2s | .ladd | .lmul | .ldiv | .lrem | .lcmp | .dup | .dup2 => d && fall && decide (len = 1)
  | .goto off => d && decide (len = 3) && (match o.1 with | .null => decide ((pc : Int) + off = (nx : Int)) | _ => decide ((pc : Int) + off = (bpc G.M mi o.2.1 : Int)))
  | .ifCond _ off => d && fall && decide (len = 3) && decide ((pc : Int) + off = (bpc G.M mi o.2.1 : Int))
  | .if_icmp _ off => d && fall && decide (len = 3) && decide ((pc : Int) + off = (bpc G.M mi o.2.1 : Int))
  | .tableswitch dflt lo hi offs => d && decide ((pc : Int) + dflt = (bpc G.M mi o.2.1 : Int)) && decide (o.2.2.2.1.map (fun q => (q.1 : Int)) = (List.range o.2.2.2.1.length).map (fun (j : Nat) => lo + (j : Int))) && decide (hi = lo + (o.2.2.2.1.length : Int) - 1) && decide (o.2.2.2.1.map (fun q => some ((bpc G.M mi q.2.1 : Int) - (pc : Int))) = (List.range o.2.2.2.1.length).map (fun (j : Nat) => offs[j]?))
  | .lookupswitch dflt ps => d && decide ((pc : Int) + dflt = (bpc G.M mi o.2.1 : Int)) && decide ((ps.toList.zip (ps.toList.drop 1)).all (fun (a, next) => a.1 < next.1) = true) && decide (o.2.2.2.1.map (fun q => ((q.1 : Int), (bpc G.M mi q.2.1 : Int) - (pc : Int))) = ps.toList)
  | .getfield k => d && fall && decide (len = 3) && decide (o.2.1 < G.cl.length) && decide (o.2.2.1 < (clN G.cl o.2.1).2.2) && (match o.2.2.2.2 with | w :: _ => wat G.T0 w (.fieldLink own k ((clN G.cl o.2.1).2.1 o.2.2.1).1 ((clN G.cl o.2.1).2.1 o.2.2.1).2.1 ((clN G.cl o.2.1).2.1 o.2.2.1).2.2.1) | _ => false)
  | .putfield k => d && fall && decide (len = 3) && decide (o.2.1 < G.cl.length) && decide (o.2.2.1 < (clN G.cl o.2.1).2.2) && (match o.2.2.2.2 with | w :: _ => wat G.T0 w (.fieldLink own k ((clN G.cl o.2.1).2.1 o.2.2.1).1 ((clN G.cl o.2.1).2.1 o.2.2.1).2.1 ((clN G.cl o.2.1).2.1 o.2.2.1).2.2.1) | _ => false)
      && (match ((clN G.cl o.2.1).2.1 o.2.2.1).2.2.2 with | false => true | true => decide ((G.M mi).1.name = "<init>") && decide (((clN G.cl o.2.1).2.1 o.2.2.1).1 = own))
      && (match o.1, parseFieldDescriptor ((clN G.cl o.2.1).2.1 o.2.2.1).2.2.1 with | .int v, some .int => decide (v = 0) | .int v, some .boolean => decide (v = 1) | .null, some (.object _) => true | .null, some (.array _) => true | _, _ => false)
  | .iaload | .iastore | .arraylength => d && fall && decide (len = 1)
  | .aaload => d && fall && decide (len = 1) && (match G.tyL[o.2.1]? with | some ty => ty.isReference | none => false)
  | .aastore => d && fall && decide (len = 1) && (match G.tyL[o.2.1]? with | some (.object E) => o.2.2.2.1.all (fun q => decide (q.1 < G.cl.length) && casts G q.2.1 (clN G.cl q.1).1 E) | _ => false)
  | .instanceof k => d && fall && decide (len = 3) && (match o.2.2.2.2 with | w :: nm :: _ => decide (nm < G.cl.length) && wat G.T0 w (.classLink own k (clN G.cl nm).1) && o.2.2.2.1.all (fun q => decide (q.1 < G.cl.length) && (if q.2.1 = 1 then casts G q.2.2 (clN G.cl q.1).1 (clN G.cl nm).1 else decide (q.2.1 = 0) && decide (G.nc[q.2.2]? = some ((clN G.cl q.1).1, (clN G.cl nm).1)))) | _ => false)
  | .new k => d && fall && decide (len = 3) && decide (o.2.1 < G.cl.length) && decide (o.2.2.2.1.length = (clN G.cl o.2.1).2.2) && (match o.2.2.2.2 with | w1 :: w2 :: w3 :: _ => wat G.T0 w1 (.classLink own k (clN G.cl o.2.1).1) && wat G.T0 w2 (.instantiable (clN G.cl o.2.1).1 (clN G.cl o.2.1).2.2) && wat G.T0 w3 (.initialized (clN G.cl o.2.1).1) | _ => false)
      && (List.range (clN G.cl o.2.1).2.2).all (fun j => decide (defaultValue (G.ty0 o.2.1 j) = vp_V (dfl o.2.2.2.1) j))
  | .newarray .int => d && fall && decide (len = 2) && (match o.2.2.2.2 with | w :: _ => wat G.T0 w (.arrayClass .int) | _ => false)
  | .anewarray k => d && fall && decide (len = 3) && (match G.tyL[o.2.1]?, o.2.2.2.2 with | some (.object C), w :: x :: _ => wat G.T0 w (.classLink own k C) && xat G.xw x (.arrayOver (.object C)) | _, _ => false)
  | .multianewarray k n => d && fall && decide (len = 4) && decide (n = 2) && (match o.2.2.2.2 with | w :: x :: y :: _ => wat G.T0 w (.classLink own k "[[I") && xat G.xw x (.arrayOver (.array .int)) && wat G.T0 y (.arrayClass .int) | _ => false)
  | .invokestatic k => d && fall && decide (len = 3) && (match o.2.2.2.1, o.2.2.2.2 with
    | [(nst, c, mL)], w :: v :: _ => cleOk G c mL o.2.1 o.2.2.1 && wat G.T0 v (.static (G.M c).1) && (if nst = 0 then wat G.T0 w (.methodLink own k (G.M c).1) else xat G.xw w (.methodLinkNest own k (G.M c).1 "LetterChute"))
    | [], w :: v :: u :: t :: _ => (match o.2.1 with
      | 1 => wat G.T0 w (.methodLink own k Lib.Math.min.name) && wat G.T0 v (.static Lib.Math.min.name) && wat G.T0 u (.initialized "java/lang/Math") && wat G.T0 t (.code Lib.Math.min.name Lib.Math.min.code 2 (some .int))
      | 2 => wat G.T0 w (.methodLink own k Lib.Math.max.name) && wat G.T0 v (.static Lib.Math.max.name) && wat G.T0 u (.initialized "java/lang/Math") && wat G.T0 t (.code Lib.Math.max.name Lib.Math.max.code 2 (some .int))
      | 3 => wat G.T0 w (.methodLink own k Lib.MathLoose.max_long.x) && wat G.T0 v (.static Lib.MathLoose.max_long.x) && wat G.T0 u (.initialized "java/lang/Math") && wat G.T0 t (.code Lib.MathLoose.max_long.x Lib.MathLoose.max_long.code 4 (some .long))
      | 4 => wat G.T0 w (.methodLink own k arraycopyName) && wat G.T0 v (.static arraycopyName) && wat G.T0 u (.initialized "java/lang/System") && wat G.T0 t (.native arraycopyName)
      | _ => false)
    | _, _ => false)
  | .invokevirtual k => d && fall && decide (len = 3) && (match o.2.2.2.2 with
    | [w, v, u] => (match o.2.2.2.1 with
      | [(ci, c, mL)] => decide (ci < G.cl.length) && cleOk G c mL o.2.1 o.2.2.1 && decide ((G.M c).1.cls = (clN G.cl ci).1) && wat G.T0 w (.methodLink own k (G.M c).1) && wat G.T0 v (.instanceMethod (G.M c).1) && wat G.T0 u (.selects (clN G.cl ci).1 (G.M c).1 (G.M c).1)
      | _ => false)
    | w :: sm :: ix :: xm :: ws => decide (xm < G.nM) && decide ((parseMethodDescriptor (G.M xm).1.desc).map (fun d => d.parameters.length) = some o.2.1) && wat G.T0 w (.methodLink own k (G.M xm).1) && wat G.T0 sm (.sameMethod (G.M xm).1.cls (G.M xm).1.cls (G.M xm).1.name (G.M xm).1.desc) && wat G.T0 ix (.instanceMethod (G.M xm).1) && polyOk G xm o.2.1 o.2.2.1 o.2.2.2.1 ws
    | _ => false)
  | .invokespecial k => d && fall && decide (len = 3) && (match o.2.2.2.1, o.2.2.2.2 with
    | [(ks, c, mL)], w :: v :: ws => cleOk G c mL o.2.1 o.2.2.1 && wat G.T0 v (.instanceMethod (G.M c).1) && (match ks with
      | 0 => decide ((G.M c).1.name = "<init>") && decide ((G.M c).2.2.2.1 = none) && wat G.T0 w (.methodLink own k (G.M c).1)
      | 1 => decide ((G.M c).1.name = "<init>") && decide ((G.M c).2.2.2.1 = none) && xat G.xw w (.methodLinkNest own k (G.M c).1 "LetterChute")
      | _ => (match ws with | [a, b] => decide (¬ (G.M c).1.name = "<init>") && wat G.T0 w (.methodLink own k (G.M c).1) && wat G.T0 a (.sameMethod (G.M c).1.cls (G.M c).1.cls (G.M c).1.name (G.M c).1.desc) && wat G.T0 b (.superclass own (G.M c).1.cls) | _ => false))
    | [], w :: v :: u :: _ => decide (o.2.1 = 0) && wat G.T0 w (.methodLink own k Lib.objectInit) && wat G.T0 v (.instanceMethod Lib.objectInit) && wat G.T0 u (.code Lib.objectInit ⟨#[0xb1]⟩ 1 none)
    | _, _ => false)
  | .ireturn => d && decide (len = 1) && (match (G.M mi).2.2.2.1 with | some .int => decide (o.2.1 = 0) | some .boolean => decide (o.2.1 = 1) | _ => false)
  | .lreturn => d && decide (len = 1) && decide ((G.M mi).2.2.2.1 = some .long)
  | .areturn => d && decide (len = 1) && (match (G.M mi).2.2.2.1 with | some (.object _) => true | _ => false)
  | .return_ => d && decide (len = 1) && decide ((G.M mi).2.2.2.1 = none)
  | _ => false
def okL (G : PG) (mi : Nat) : List Ins → Bool
  | [] => true
  | (pc, len, i, o) :: is => okI G mi pc len i o (nxt is) && okL G mi is
/-- a method and all its blocks -/
def okM (G : PG) (mi : Nat) : Bool := (G.M mi).2.2.2.2.all (okL G mi)
/-- of a method that may be called: its words, its first block at its first byte -/
def okC (G : PG) (mi : Nat) (q : Nat × Nat) : Bool := wat G.T0 q.1 (.code (G.M mi).1 (G.M mi).2.1 (G.M mi).2.2.1 (G.M mi).2.2.2.1) && wat G.T0 q.2 (.initialized (G.M mi).1.cls) && plainName (G.M mi).1.cls && decide ((G.M mi).1.cls ≠ "java/lang/invoke/MethodHandle") && decide ((G.M mi).1.cls ≠ "java/lang/invoke/VarHandle") && decide (bpc G.M mi 0 = 0)
theorem okM_blk {G : PG} {mi : Nat} (h : okM G mi = true) (b : Nat) : okL G mi (PB G.M mi b) = true := by
  unfold PB
  by_cases hb : b < (G.M mi).2.2.2.2.length
  · have := List.all_eq_true.mp h ((G.M mi).2.2.2.2[b]) (List.getElem_mem hb)
    rw [List.getD_eq_getElem?_getD, List.getElem?_eq_getElem hb]
    exact this
  · rw [List.getD_eq_getElem?_getD, List.getElem?_eq_none (by omega)]
    rfl
