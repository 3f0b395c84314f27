/-! the abstract machine over this program -/
noncomputable def EX (sc : Nat × (Nat → Int32)) (d m b : Nat) (ls st : List Value) (h : AH) : Option Res := Exec (PB MT) sc d m b ls st h
theorem EX_eq (sc : Nat × (Nat → Int32)) (d m b : Nat) (ls st : List Value) (h : AH) : EX sc (d + 1) m b ls st h = runL sc true (fun c as h' => EX sc d c 0 as [] h') (fun b' ls' st' h' => EX sc (d + 1) m b' ls' st' h') (PB MT m b) ls st h := Exec_eqS (PB MT) sc d m b ls st h
