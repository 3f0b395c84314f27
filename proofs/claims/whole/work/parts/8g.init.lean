/-! constructors: the class's whole, the reference -/
def actF (b i : Nat) : Nat → Option Nat := fun j => if j < i then some (b + 11 * j) else none
theorem actF_s (b i : Nat) : va_up (actF b i) i (some (b + 11 * i)) = actF b (i + 1) := by
  funext j
  unfold va_up actF
  by_cases e : j = i
  · rw [if_pos e, if_pos (by omega), e]
  · rw [if_neg e]
    by_cases l : j < i
    · rw [if_pos l, if_pos (by omega)]
    · rw [if_neg l, if_neg (by omega)]
theorem actF_0 (b : Nat) : (fun _ => none) = actF b 0 := by
  funext j
  exact (if_neg (by omega)).symm
def cA (n : Nat) (fs : List Value) (i k : Nat) : Nat → va_E := va_up (va_up (va_up (cut n) 71 (RR 1 24 (actF 73 i))) 72 (RR 1 2 (actF 337 k))) 0 (O10 fs)
theorem cA_hou {n i k : Nat} {fs : List Value} (hn : isH n) (h : 72 < n) : hou (cA n fs i k) n = cA (n + 11) fs i k := by
  unfold cA
  rw [hou_up (by omega), hou_up (by omega), hou_up (by omega), hou_cut hn]
theorem cA_n {n i k : Nat} {fs : List Value} (hn : isH n) (h : 72 < n) : ∃ fs', cA (n + 11) fs i k n = .inr (2, fs') := by
  refine ⟨[.int 0, .int 0, .int 0, .int 0, .int 0, .ref (n + 1), .ref (n + 2), .ref (n + 3), .ref (n + 4), .ref (n + 5), .ref (n + 6), .ref (n + 7), .ref (n + 8), .ref (n + 9), .ref (n + 10)], ?_⟩
  have := isH_lt hn
  unfold cA
  rw [vup_ne (by omega), vup_ne (by omega), vup_ne (by omega), cut_at (by omega), cell_H0 hn, S00_0 (by omega) (by omega) (by omega)]
  rfl
theorem isH_a {i : Nat} (h : i < 26) : isH (73 + 11 * i) := by unfold isH; omega
abbrev fsC : List Value := [.ref 1, .ref 13, .ref 15, .ref 17, .ref 23, .ref 34, .ref 45, .ref 71, .ref 72, .int 0, .int 0, .int 0, .int 0]
theorem acts_loop (sc : Nat × (Nat → Int32)) (d : Nat) : ∀ n i, i + n = 24 → EX sc (d + 2) 80 1 [.ref 0, .int (nI i)] [] (73 + 11 * i, 977 + 107 * i, cA (73 + 11 * i) fsC i 0) = EX sc (d + 2) 80 2 [.ref 0, Jk] [] (337, 3545, cA 337 fsC 24 0) := by
  intro n
  induction n with
  | zero =>
    intro i hi
    rw [e80_1, if_pos (show (24 : Int32) ≤ nI i from nI_le (a := 24) (by omega) (by omega)), show i = 24 by omega]
  | succ n ih =>
    intro i hi
    obtain ⟨fs', hfs⟩ := cA_n (n := 73 + 11 * i) (i := i) (k := 0) (fs := fsC) (isH_a (by omega)) (by omega)
    rw [e80_1, if_neg (show ¬ (24 : Int32) ≤ nI i from nI_ge (b := 24) (by omega) (by omega)), gR_raw (x := 71) (fs := fsC) (by omega) (by exact vup_at _ _ _) rfl, oB_s, newH, cA_hou (isH_a (by omega)) (by omega)]
    show aaS (73 + 11 * i + 11, 977 + 107 * i + 107, cA (73 + 11 * i + 11) fsC i 0) 71 (nI i) (73 + 11 * i) 1 [(2, 0, 0)] _ = _
    rw [aaS_raw (r := actF 73 i) (m := 24) (c := 2) (q := (0, 0)) (by omega) (by omega) (by unfold cA; rw [vup_ne (by omega), vup_ne (by omega), vup_at]) hfs rfl (by omega) (by omega)]
    have e : va_up (cA (73 + 11 * i + 11) fsC i 0) 71 (RR 1 24 (va_up (actF 73 i) i (some (73 + 11 * i)))) = cA (73 + 11 * (i + 1)) fsC (i + 1) 0 := by
      unfold cA
      rw [actF_s, vup_comm (show (0 : Nat) ≠ 71 by omega), vup_comm (show (72 : Nat) ≠ 71 by omega), vup_vup, show 73 + 11 * (i + 1) = 73 + 11 * i + 11 by omega]
    rw [e, nI_1, show 73 + 11 * i + 11 = 73 + 11 * (i + 1) by omega, show 977 + 107 * i + 107 = 977 + 107 * (i + 1) by omega]
    exact ih (i + 1) (by omega)
theorem imgs_loop (sc : Nat × (Nat → Int32)) (d : Nat) : ∀ n i, i + n = 2 → EX sc (d + 2) 80 3 [.ref 0, .int (nI i)] [] (337 + 11 * i, 3545 + 107 * i, cA (337 + 11 * i) fsC 24 i) = some (none, (359, 3759, cut 359)) := by
  intro n
  induction n with
  | zero =>
    intro i hi
    rw [e80_3, if_pos (show (2 : Int32) ≤ nI i from nI_le (a := 2) (by omega) (by omega)), e80_4, show i = 2 by omega]
    have : cA (337 + 11 * 2) fsC 24 2 = cut 359 := by
      unfold cA
      rw [cut_back (show 71 < 337 + 11 * 2 by omega) (by rfl), cut_back (show 72 < 337 + 11 * 2 by omega) (by rfl), cut_back (show 0 < 337 + 11 * 2 by omega) (by rfl)]
    rw [this]
  | succ n ih =>
    intro i hi
    have hH : isH (337 + 11 * i) := by unfold isH; omega
    obtain ⟨fs', hfs⟩ := cA_n (n := 337 + 11 * i) (i := 24) (k := i) (fs := fsC) hH (by omega)
    rw [e80_3, if_neg (show ¬ (2 : Int32) ≤ nI i from nI_ge (b := 2) (by omega) (by omega)), gR_raw (x := 72) (fs := fsC) (by omega) (by exact vup_at _ _ _) rfl, oB_s, newH, cA_hou hH (by omega)]
    show aaS (337 + 11 * i + 11, 3545 + 107 * i + 107, cA (337 + 11 * i + 11) fsC 24 i) 72 (nI i) (337 + 11 * i) 1 [(2, 0, 0)] _ = _
    rw [aaS_raw (r := actF 337 i) (m := 2) (c := 2) (q := (0, 0)) (by omega) (by omega) (by unfold cA; rw [vup_ne (by omega), vup_at]) hfs rfl (by omega) (by omega)]
    have e : va_up (cA (337 + 11 * i + 11) fsC 24 i) 72 (RR 1 2 (va_up (actF 337 i) i (some (337 + 11 * i)))) = cA (337 + 11 * (i + 1)) fsC 24 (i + 1) := by
      unfold cA
      rw [actF_s, vup_comm (show (0 : Nat) ≠ 72 by omega), vup_vup, show 337 + 11 * (i + 1) = 337 + 11 * i + 11 by omega]
    rw [e, nI_1, show 337 + 11 * i + 11 = 337 + 11 * (i + 1) by omega, show 3545 + 107 * i + 107 = 3545 + 107 * (i + 1) by omega]
    exact ih (i + 1) (by omega)
abbrev L10 : List (Nat × Nat × Nat) := [(1, 0, 0), (1, 0, 0), (1, 0, 0), (1, 0, 0), (1, 0, 0), (1, 0, 0), (1, 0, 0), (1, 0, 0), (1, 0, 0), (0, 0, 0), (0, 0, 0), (0, 0, 0), (0, 0, 0)]
theorem isH_23' : isH 23 := by unfold isH; omega
theorem class_init (sc : Nat × (Nat → Int32)) : EX sc 39 80 0 [.ref 0, Jk] [] (newO h00 10 L10) = some (none, (359, 3759, cut 359)) := by
  have h0 : newO h00 10 L10 = cH 1 13 (cut 1) 0 10 (dfl L10) := by
    show ((1, 13, va_up (cut 0) 0 (.inr (10, dfl L10))) : AH) = (1, 13, va_up (cut 1) 0 (.inr (10, dfl L10)))
    rw [cut_over]
  have e5 : Int32.toNatClampNeg 5 = 5 := rfl
  have e24 : Int32.toNatClampNeg 24 = 24 := rfl
  have e2 : Int32.toNatClampNeg 2 = 2 := rfl
  rw [h0, e80_0, e5, e24, e2]
  -- the shelf
  generalize hf0 : dfl L10 = f0
  have s1 : newO (cH 1 13 (cut 1) 0 10 f0) 8 [(1, 0, 0), (1, 0, 0), (1, 0, 0)] = cH 2 16 (va_up (cut 1) 0 (O10 f0)) 1 8 (dfl [(1, 0, 0), (1, 0, 0), (1, 0, 0)]) := rfl
  have s2 : EX sc 38 69 0 [.ref (Prod.fst (cH 1 13 (cut 1) 0 10 f0)), Jk] [] (cH 2 16 (va_up (cut 1) 0 (O10 f0)) 1 8 (dfl [(1, 0, 0), (1, 0, 0), (1, 0, 0)])) = some (none, cH 13 360 (cut 13) 0 10 f0) := by
    have := shelf_init (va_up (cut 1) 0 (O10 f0)) 16 sc 37
    rw [shF_cut] at this
    exact this
  rw [s1, show clsOf (cH 2 16 (va_up (cut 1) 0 (O10 f0)) 1 8 (dfl [(1, 0, 0), (1, 0, 0), (1, 0, 0)])) (Prod.fst (cH 1 13 (cut 1) 0 10 f0)) = some 8 from rfl, oB_s, s2, cV_s, pv_o (by omega) (by rw [← hf0]; decide), oB_s]
  generalize hf1 : f0.set 0 (.ref (Prod.fst (cH 1 13 (cut 1) 0 10 f0))) = f1
  -- the reader
  have s3 : newO (cH 13 360 (cut 13) 0 10 f1) 6 [(1, 0, 0), (0, 0, 0), (0, 0, 0), (0, 0, 0), (0, 0, 0)] = cH 14 365 (va_up (cut 13) 0 (O10 f1)) 13 6 (dfl [(1, 0, 0), (0, 0, 0), (0, 0, 0), (0, 0, 0), (0, 0, 0)]) := rfl
  have s4 : EX sc 38 56 0 [.ref (Prod.fst (cH 13 360 (cut 13) 0 10 f1))] [] (cH 14 365 (va_up (cut 13) 0 (O10 f1)) 13 6 (dfl [(1, 0, 0), (0, 0, 0), (0, 0, 0), (0, 0, 0), (0, 0, 0)])) = some (none, cH 15 465 (cut 15) 0 10 f1) := reader_init 365 sc 37
  rw [s3, show clsOf (cH 14 365 (va_up (cut 13) 0 (O10 f1)) 13 6 (dfl [(1, 0, 0), (0, 0, 0), (0, 0, 0), (0, 0, 0), (0, 0, 0)])) (Prod.fst (cH 13 360 (cut 13) 0 10 f1)) = some 6 from rfl, oB_s, s4, cV_s, pv_o (by omega) (by rw [← hf1, ← hf0]; simp [dfl]), oB_s]
  generalize hf2 : f1.set 1 (.ref (Prod.fst (cH 13 360 (cut 13) 0 10 f1))) = f2
  -- what asks
  have s5 : newO (cH 15 465 (cut 15) 0 10 f2) 0 [(1, 0, 0), (0, 0, 0), (0, 0, 0), (0, 0, 0), (0, 0, 0)] = cH 16 470 (va_up (cut 15) 0 (O10 f2)) 15 0 (dfl [(1, 0, 0), (0, 0, 0), (0, 0, 0), (0, 0, 0), (0, 0, 0)]) := rfl
  have s6 : EX sc 38 0 0 [.ref (Prod.fst (cH 15 465 (cut 15) 0 10 f2))] [] (cH 16 470 (va_up (cut 15) 0 (O10 f2)) 15 0 (dfl [(1, 0, 0), (0, 0, 0), (0, 0, 0), (0, 0, 0), (0, 0, 0)])) = some (none, cH 17 486 (cut 17) 0 10 f2) := asking_init 470 sc 37
  rw [s5, show clsOf (cH 16 470 (va_up (cut 15) 0 (O10 f2)) 15 0 (dfl [(1, 0, 0), (0, 0, 0), (0, 0, 0), (0, 0, 0), (0, 0, 0)])) (Prod.fst (cH 15 465 (cut 15) 0 10 f2)) = some 0 from rfl, oB_s, s6, cV_s, pv_o (by omega) (by rw [← hf2, ← hf1, ← hf0]; simp [dfl]), oB_s, if_neg (by decide)]
  generalize hf3 : f2.set 2 (.ref (Prod.fst (cH 15 465 (cut 15) 0 10 f2))) = f3
  -- the kinds
  have s7 : newR (cH 17 486 (cut 17) 0 10 f3) 2 5 = (18, 491, c17 18 f3 (fun _ => none)) := by
    show ((18, 491, va_up (va_up (cut 17) 0 (O10 f3)) 17 (RR 2 5 (fun _ => none))) : AH) = _
    unfold c17
    rw [vup_comm (by omega), cut_over]
  rw [s7]
  rw [show (0 : Int32) = nI 0 from rfl]
  have p17 : Prod.fst (cH 17 486 (cut 17) 0 10 f3) = 17 := rfl
  rw [p17]
  rw [sort1 (n := 18) (c := 1) (cc := 3) (i := 0) (q := (22, 0)) (by omega) (by rfl) (fun h hc => ini3 hc sc 36) (by rfl) (by omega)]
  rw [show (1 : Int32) = nI 1 from rfl, sort1 (n := 18 + 1) (c := 9) (cc := 77) (i := 1) (q := (23, 0)) (by omega) (by rfl) (fun h hc => ini77 hc sc 35) (by rfl) (by omega)]
  rw [show (2 : Int32) = nI 2 from rfl, sort1 (n := 18 + 1 + 1) (c := 3) (cc := 29) (i := 2) (q := (24, 0)) (by omega) (by rfl) (fun h hc => ini29 hc sc 35) (by rfl) (by omega)]
  rw [show (3 : Int32) = nI 3 from rfl, sort1 (n := 18 + 1 + 1 + 1) (c := 5) (cc := 53) (i := 3) (q := (25, 0)) (by omega) (by rfl) (fun h hc => ini53 hc sc 36) (by rfl) (by omega)]
  rw [show (4 : Int32) = nI 4 from rfl, sort1 (n := 18 + 1 + 1 + 1 + 1) (c := 7) (cc := 67) (i := 4) (q := (26, 0)) (by omega) (by rfl) (fun h hc => ini67 hc sc 35) (by rfl) (by omega)]
  have s8 : ((18 + 1 + 1 + 1 + 1 + 1, 491, c17 (18 + 1 + 1 + 1 + 1 + 1) f3 (va_up (va_up (va_up (va_up (va_up (fun _ => none) 0 (some 18)) 1 (some (18 + 1))) 2 (some (18 + 1 + 1))) 3 (some (18 + 1 + 1 + 1))) 4 (some (18 + 1 + 1 + 1 + 1)))) : AH) = cH 23 491 (cut 23) 0 10 f3 := by
    have r : (va_up (va_up (va_up (va_up (va_up (fun _ => none) 0 (some 18)) 1 (some (18 + 1))) 2 (some (18 + 1 + 1))) 3 (some (18 + 1 + 1 + 1))) 4 (some (18 + 1 + 1 + 1 + 1))) = fun i : Nat => if i < 5 then some (18 + i) else none := by
      funext i
      by_cases c : i < 5
      · have e : i = 0 ∨ i = 1 ∨ i = 2 ∨ i = 3 ∨ i = 4 := by omega
        rcases e with rfl | rfl | rfl | rfl | rfl <;> rfl
      · rw [if_neg c, vup_ne (by omega), vup_ne (by omega), vup_ne (by omega), vup_ne (by omega), vup_ne (by omega)]
    rw [r]
    show ((23, 491, va_up (va_up (cut 23) 17 _) 0 (O10 f3)) : AH) = (23, 491, va_up (cut 23) 0 (O10 f3))
    rw [cut_back (show 17 < 23 by omega) (by rfl)]
  rw [s8, pv_o (by omega) (by rw [← hf3, ← hf2, ← hf1, ← hf0]; simp [dfl]), oB_s]
  generalize hf4 : f3.set 3 (.ref 17) = f4
  -- the houses
  rw [newH0 isH_23' (by omega), pv_o (by omega) (by rw [← hf4, ← hf3, ← hf2, ← hf1, ← hf0]; simp [dfl]), oB_s]
  generalize hf5 : f4.set 4 (.ref (Prod.fst (cH 23 491 (cut 23) 0 10 f4))) = f5
  rw [newH0 isH_34 (by omega), pv_o (by omega) (by rw [← hf5, ← hf4, ← hf3, ← hf2, ← hf1, ← hf0]; simp [dfl]), oB_s]
  generalize hf6 : f5.set 5 (.ref (Prod.fst (cH (23 + 11) (491 + 107) (cut (23 + 11)) 0 10 f5))) = f6
  -- the oracle
  have s9 : newO (cH (23 + 11 + 11) (491 + 107 + 107) (cut (23 + 11 + 11)) 0 10 f6) 4 [(1, 0, 0), (1, 0, 0), (1, 0, 0), (1, 0, 0), (0, 0, 0), (0, 0, 0), (1, 0, 0), (0, 0, 0)] = cH 46 713 (va_up (cut 46) 0 (O10 f6)) 45 4 (dfl [(1, 0, 0), (1, 0, 0), (1, 0, 0), (1, 0, 0), (0, 0, 0), (0, 0, 0), (1, 0, 0), (0, 0, 0)]) := by
    show ((46, 713, va_up (va_up (cut 45) 0 (O10 f6)) 45 _) : AH) = (46, 713, va_up (va_up (cut 46) 0 (O10 f6)) 45 _)
    rw [b0_over (by omega)]
  have s10 : EX sc 38 31 0 [.ref (Prod.fst (cH (23 + 11 + 11) (491 + 107 + 107) (cut (23 + 11 + 11)) 0 10 f6))] [] (cH 46 713 (va_up (cut 46) 0 (O10 f6)) 45 4 (dfl [(1, 0, 0), (1, 0, 0), (1, 0, 0), (1, 0, 0), (0, 0, 0), (0, 0, 0), (1, 0, 0), (0, 0, 0)])) = some (none, cH 71 951 (cut 71) 0 10 f6) := oracle_init 713 sc 36
  rw [s9, show clsOf (cH 46 713 (va_up (cut 46) 0 (O10 f6)) 45 4 (dfl [(1, 0, 0), (1, 0, 0), (1, 0, 0), (1, 0, 0), (0, 0, 0), (0, 0, 0), (1, 0, 0), (0, 0, 0)])) (Prod.fst (cH (23 + 11 + 11) (491 + 107 + 107) (cut (23 + 11 + 11)) 0 10 f6)) = some 4 from rfl, oB_s, s10, cV_s, pv_o (by omega) (by rw [← hf6, ← hf5, ← hf4, ← hf3, ← hf2, ← hf1, ← hf0]; simp [dfl]), oB_s]
  generalize hf7 : f6.set 6 (.ref (Prod.fst (cH (23 + 11 + 11) (491 + 107 + 107) (cut (23 + 11 + 11)) 0 10 f6))) = f7
  -- the acts and the images
  have s11 : newR (cH 71 951 (cut 71) 0 10 f7) 1 24 = cH 72 975 (va_up (cut 72) 71 (RR 1 24 (actF 73 0))) 0 10 f7 := by
    show ((72, 975, va_up (va_up (cut 71) 0 (O10 f7)) 71 (RR 1 24 (fun _ => none))) : AH) = (72, 975, va_up (va_up (cut 72) 71 (RR 1 24 (actF 73 0))) 0 (O10 f7))
    rw [actF_0 73, vup_comm (by omega), cut_over]
  rw [if_neg (by decide), s11, pv_o (by omega) (by rw [← hf7, ← hf6, ← hf5, ← hf4, ← hf3, ← hf2, ← hf1, ← hf0]; simp [dfl]), oB_s]
  generalize hf8 : f7.set 7 (.ref (Prod.fst (cH 71 951 (cut 71) 0 10 f7))) = f8
  have s12 : newR (cH 72 975 (va_up (cut 72) 71 (RR 1 24 (actF 73 0))) 0 10 f8) 1 2 = cH 73 977 (va_up (va_up (cut 73) 71 (RR 1 24 (actF 73 0))) 72 (RR 1 2 (actF 337 0))) 0 10 f8 := by
    show ((73, 977, va_up (va_up (va_up (cut 72) 71 (RR 1 24 (actF 73 0))) 0 (O10 f8)) 72 (RR 1 2 (fun _ => none))) : AH) = (73, 977, va_up (va_up (va_up (cut 73) 71 (RR 1 24 (actF 73 0))) 72 (RR 1 2 (actF 337 0))) 0 (O10 f8))
    rw [actF_0 337, vup_comm (show (0 : Nat) ≠ 72 by omega), b0_over (by omega)]
  rw [if_neg (by decide), s12, pv_o (by omega) (by rw [← hf8, ← hf7, ← hf6, ← hf5, ← hf4, ← hf3, ← hf2, ← hf1, ← hf0]; simp [dfl]), oB_s]
  have ff : (f8.set 8 (.ref (Prod.fst (cH 72 975 (va_up (cut 72) 71 (RR 1 24 (actF 73 0))) 0 10 f8)))) = fsC := by
    rw [← hf8, ← hf7, ← hf6, ← hf5, ← hf4, ← hf3, ← hf2, ← hf1, ← hf0]
    rfl
  rw [ff, pv_o (by omega) (by decide), oB_s, pv_o (by omega) (by decide), oB_s, pv_o (by omega) (by decide), oB_s, pv_o (by omega) (by decide), oB_s]
  have a := acts_loop sc 37 24 0 (by omega)
  have b := imgs_loop sc 37 2 0 (by omega)
  have c := a.trans ((e80_2 sc 38 (337, 3545, cA 337 fsC 24 0) 0).trans b)
  exact c
