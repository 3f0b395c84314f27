/-! constructors: the class -/
theorem gR_raw {n sl p c k x : Nat} {f : Nat → va_E} {fs : List Value} (hp : p < n) (hf : f p = .inr (c, fs)) (hk : fs[k]? = some (.ref x)) : gR (n, sl, f) p c k = some x := by
  unfold gR hcell
  rw [if_pos (show p < ((n, sl, f) : AH).1 from hp)]
  show (match (some (f p) : Option va_E) with | some (.inr (c', fs')) => if c' = c then (match fs'[k]? with | some (.ref x) => some x | _ => none) else none | _ => none) = some x
  rw [hf]
  show (if c = c then (match fs[k]? with | some (.ref x) => some x | _ => none) else none) = some x
  rw [if_pos rfl, hk]
theorem sI_raw {n sl p m i : Nat} {x : Int32} {f : Nat → va_E} {g : Nat → Int32} (hp : p < n) (hf : f p = .inl (0, m, .inl g)) (hi : i < m) (hm : m ≤ 1000) : sI (n, sl, f) p (nI i) x = some (n, sl, va_up f p (.inl (0, m, .inl (upd g i x)))) := by
  unfold sI hcell
  rw [if_pos (show p < ((n, sl, f) : AH).1 from hp)]
  show (match (some (f p) : Option va_E) with | some (.inl (t, n', .inl f')) => if t = 0 then (if nI i < 0 ∨ n' ≤ (nI i).toNatClampNeg then none else some (hset (n, sl, f) p (.inl (t, n', .inl (upd f' (nI i).toNatClampNeg x))))) else none | _ => none) = _
  rw [hf]
  show (if 0 = 0 then (if nI i < 0 ∨ m ≤ (nI i).toNatClampNeg then none else some (hset (n, sl, f) p (.inl (0, m, .inl (upd g (nI i).toNatClampNeg x))))) else none) = _
  have e : (nI i).toNatClampNeg = i := by
    rw [Int32.toNatClampNeg, nI_toInt (by omega)]
    exact Int.toNat_natCast _
  rw [if_pos rfl, e, if_neg (fun q => q.elim (nI_pos (by omega)) (by omega))]
  rfl
def RR (t m : Nat) (r : Nat → Option Nat) : va_E := .inl (t, m, .inr (.inr (.inr (.inr r))))
theorem aaS_raw {n sl p i x t m c : Nat} {f : Nat → va_E} {r : Nat → Option Nat} {L : List (Nat × Nat × Nat)} {q : Nat × Nat} {F : AH → Option Res} {fs : List Value} (hp : p < n) (hx : x < n) (hf : f p = RR t m r) (hc : f x = .inr (c, fs)) (hl : look L c = some q) (hi : i < m) (hm : m ≤ 1000) : aaS (n, sl, f) p (nI i) x t L F = F (n, sl, va_up f p (RR t m (va_up r i (some x)))) := by
  have e : (nI i).toNatClampNeg = i := by
    rw [Int32.toNatClampNeg, nI_toInt (by omega)]
    exact Int.toNat_natCast _
  have h1 : hcell (n, sl, f) p = some (RR t m r) := by
    unfold hcell
    rw [if_pos (show p < ((n, sl, f) : AH).1 from hp)]
    exact congrArg some hf
  have h2 : clsOf (n, sl, f) x = some c := by
    unfold clsOf hcell
    rw [if_pos (show x < ((n, sl, f) : AH).1 from hx)]
    show (match (some (f x) : Option va_E) with | some (.inr (c, _)) => some c | _ => none) = some c
    rw [hc]
  have h3 : sR (n, sl, f) p (nI i) x = some (n, sl, va_up f p (RR t m (va_up r i (some x)))) := by
    unfold sR
    rw [h1]
    show (if nI i < 0 ∨ m ≤ (nI i).toNatClampNeg then none else some (hset (n, sl, f) p (.inl (t, m, .inr (.inr (.inr (.inr (va_up r (nI i).toNatClampNeg (some x)))))))) ) = _
    rw [e, if_neg (fun q => q.elim (nI_pos (by omega)) (by omega))]
    rfl
  unfold aaS
  rw [h1]
  show (if t = t then oB (clsOf (n, sl, f) x) (fun c => oB (look L c) (fun _ => oB (sR (n, sl, f) p (nI i) x) (fun h' => F h'))) else none) = _
  rw [if_pos rfl, h2, oB_s, hl, oB_s, h3, oB_s]
def lnF (i : Nat) : Nat → Int32 := fun j => if j < i then -1 else 0
theorem lnF_s (i : Nat) : upd (lnF i) i (-1) = lnF (i + 1) := by
  funext j
  by_cases e : j = i
  · rw [e, pk_us]
    exact (if_pos (by omega)).symm
  · rw [pk_un e]
    unfold lnF
    by_cases l : j < i
    · rw [if_pos l, if_pos (by omega)]
    · rw [if_neg l, if_neg (by omega)]
def shF (g : Nat → va_E) (i : Nat) : Nat → va_E := fun k => if k = 2 then .inl (0, 8, .inl (lnF i)) else if k = 1 then .inr (8, [.ref 2, .ref 3, .ref 4]) else if k = 3 then Z 8 else if k = 4 then RR 3 8 (fun i => if i < 8 then some (5 + i) else none) else if 4 < k ∧ k ≤ 12 then Z 40 else g k
theorem shelf_init (g : Nat → va_E) (sl : Nat) (sc : Nat × (Nat → Int32)) (d : Nat) : EX sc (d + 1) 69 0 [.ref 1, Jk] [] (cH 2 sl g 1 8 (dfl [(1, 0, 0), (1, 0, 0), (1, 0, 0)])) = some (none, (13, sl + 344, shF g 8)) := by
  have e8 : Int32.toNatClampNeg 8 = 8 := rfl
  have e40 : Int32.toNatClampNeg 40 = 40 := rfl
  have loop : ∀ n i, i + n = 8 → EX sc (d + 1) 69 1 [.ref 1, .int (nI i)] [] (13, sl + 344, shF g i) = some (none, (13, sl + 344, shF g 8)) := by
    intro n
    induction n with
    | zero =>
      intro i hi
      rw [e69_1, if_pos (show (8 : Int32) ≤ nI i from nI_le (a := 8) (by omega) (by omega)), e69_2, show i = 8 by omega]
    | succ n ih =>
      intro i hi
      rw [e69_1, if_neg (show ¬ (8 : Int32) ≤ nI i from nI_ge (b := 8) (by omega) (by omega)), gR_raw (x := 2) (by omega) (show shF g i 1 = .inr (8, [.ref 2, .ref 3, .ref 4]) from rfl) rfl, oB_s, sI_raw (by omega) (show shF g i 2 = .inl (0, 8, .inl (lnF i)) from rfl) (by omega) (by omega), oB_s, nI_1, lnF_s]
      have : va_up (shF g i) 2 (.inl (0, 8, .inl (lnF (i + 1)))) = shF g (i + 1) := by
        funext k
        unfold va_up shF
        by_cases e : k = 2
        · rw [if_pos e, if_pos e]
        · rw [if_neg e, if_neg e, if_neg e]
      rw [this]
      exact ih (i + 1) (by omega)
  rw [e69_0, e8, e40, if_neg (by decide), pv_n (by omega) (by decide), oB_s, if_neg (by decide), pv_n (by omega) (by decide), oB_s, if_neg (by decide)]
  have hM : newM (cH (2 + 1 + 1) (sl + 8 + 8) (va_up (va_up g 2 (Z 8)) (2 + 1) (Z 8)) 1 8 [.ref 2, .ref 3, .null]) 8 40 = cH 13 (sl + 344) (shF g 0) 1 8 [.ref 2, .ref 3, .null] := by
    show ((13, sl + 8 + 8 + (8 + 8 * 40), _) : AH) = (13, sl + 344, _)
    rw [show sl + 8 + 8 + (8 + 8 * 40) = sl + 344 by omega]
    congr 2
    funext k
    show (if k = 4 then RR 3 8 (fun i => if i < 8 then some (4 + 1 + i) else none) else if 4 < k ∧ k ≤ 4 + 8 then Z 40 else va_up (va_up (va_up g 2 (Z 8)) 3 (Z 8)) 1 (.inr (8, [.ref 2, .ref 3, .null])) k) = va_up (shF g 0) 1 (.inr (8, [.ref 2, .ref 3, .null])) k
    unfold va_up shF
    by_cases c1 : k = 1
    · subst c1; rfl
    · by_cases c2 : k = 2
      · subst c2
        have : lnF 0 = fun _ => 0 := by funext j; exact if_neg (by omega)
        rw [this]
        rfl
      · by_cases c3 : k = 3
        · subst c3; rfl
        · rw [if_neg c1, if_neg c3, if_neg c2, if_neg c1, if_neg c2, if_neg c1, if_neg c3]
  have hP : pV (cH 13 (sl + 344) (shF g 0) 1 8 [.ref 2, .ref 3, .null]) 1 8 2 (.ref 4) = some (13, sl + 344, shF g 0) := by
    rw [pv_o (by omega) (by decide)]
    show some ((13, sl + 344, va_up (shF g 0) 1 (.inr (8, [.ref 2, .ref 3, .ref 4]))) : AH) = _
    congr 3
    funext k
    unfold va_up
    by_cases c1 : k = 1
    · rw [if_pos c1, c1]; rfl
    · rw [if_neg c1]
  show oB (pV (newM (cH (2 + 1 + 1) (sl + 8 + 8) (va_up (va_up g 2 (Z 8)) (2 + 1) (Z 8)) 1 8 [.ref 2, .ref 3, .null]) 8 40) 1 8 2 (.ref 4)) _ = _
  rw [hM, hP, oB_s]
  exact loop 8 0 (by omega)
theorem b0_s {n q : Nat} {O c : va_E} (h : q < n) (hc : cellG (S00 n) n = c) : va_up (va_up (cut n) q O) n c = va_up (cut (n + 1)) q O := by
  rw [vup_comm (by omega), cut_s hc]
theorem b0_over {n q : Nat} {O c : va_E} (h : q < n) : va_up (va_up (cut n) q O) n c = va_up (va_up (cut (n + 1)) q O) n c := by
  rw [vup_comm (by omega), cut_over, vup_comm (by omega)]
theorem b0_back {n q k : Nat} {O c : va_E} (h : k < n) (hq : q ≠ k) (hc : cellG (S00 k) k = c) : va_up (va_up (cut n) q O) k c = va_up (cut n) q O := by
  rw [vup_comm hq, cut_back h hc]
def O10 (fs : List Value) : va_E := .inr (10, fs)
theorem shF_cut {fs : List Value} : shF (va_up (cut 1) 0 (O10 fs)) 8 = va_up (cut 13) 0 (O10 fs) := by
  funext k
  by_cases c : k < 13
  · have e : k = 0 ∨ k = 1 ∨ k = 2 ∨ k = 3 ∨ k = 4 ∨ k = 5 ∨ k = 6 ∨ k = 7 ∨ k = 8 ∨ k = 9 ∨ k = 10 ∨ k = 11 ∨ k = 12 := by omega
    rcases e with rfl | rfl | rfl | rfl | rfl | rfl | rfl | rfl | rfl | rfl | rfl | rfl | rfl <;> rfl
  · unfold shF
    rw [if_neg (by omega), if_neg (by omega), if_neg (by omega), if_neg (by omega), if_neg (by omega), vup_ne (by omega), vup_ne (by omega)]
    unfold cut
    rw [if_neg (by omega), if_neg c]
theorem obj2 {n sl c m : Nat} {fs fs' : List Value} (hn : 0 < n) (h1 : cellG (S00 n) n = .inr (c, fs')) (h2 : cellG (S00 (n + 1)) (n + 1) = Z m) : cH (n + 1 + 1) sl (va_up (va_up (cut n) 0 (O10 fs)) (n + 1) (Z m)) n c fs' = cH (n + 2) sl (cut (n + 2)) 0 10 fs := by
  show ((n + 2, sl, va_up (va_up (va_up (cut n) 0 (O10 fs)) (n + 1) (Z m)) n (.inr (c, fs'))) : AH) = (n + 2, sl, va_up (cut (n + 2)) 0 (O10 fs))
  rw [vup_comm (by omega), b0_s hn h1, b0_s (by omega) h2]
theorem reader_init {fs : List Value} (sl : Nat) (sc : Nat × (Nat → Int32)) (d : Nat) : EX sc (d + 1) 56 0 [.ref 13] [] (cH 14 sl (va_up (cut 13) 0 (O10 fs)) 13 6 (dfl [(1, 0, 0), (0, 0, 0), (0, 0, 0), (0, 0, 0), (0, 0, 0)])) = some (none, cH 15 (sl + 100) (cut 15) 0 10 fs) := by
  have e : Int32.toNatClampNeg 100 = 100 := rfl
  rw [e56_0, e, if_neg (by decide), pv_n (by omega) (by decide), oB_s, pv_o (by omega) (by decide), oB_s, pv_o (by omega) (by decide), oB_s, pv_o (by omega) (by decide), oB_s, pv_o (by omega) (by decide), oB_s]
  exact congrArg (fun z => some ((none : Option Value), z)) (obj2 (n := 13) (c := 6) (m := 100) (by omega) rfl rfl)
theorem asking_init {fs : List Value} (sl : Nat) (sc : Nat × (Nat → Int32)) (d : Nat) : EX sc (d + 1) 0 0 [.ref 15] [] (cH 16 sl (va_up (cut 15) 0 (O10 fs)) 15 0 (dfl [(1, 0, 0), (0, 0, 0), (0, 0, 0), (0, 0, 0), (0, 0, 0)])) = some (none, cH 17 (sl + 16) (cut 17) 0 10 fs) := by
  have e : Int32.toNatClampNeg 16 = 16 := rfl
  rw [e0_0, e, if_neg (by decide), pv_n (by omega) (by decide), oB_s, pv_o (by omega) (by decide), oB_s, pv_o (by omega) (by decide), oB_s, pv_o (by omega) (by decide), oB_s, pv_o (by omega) (by decide), oB_s]
  exact congrArg (fun z => some ((none : Option Value), z)) (obj2 (n := 15) (c := 0) (m := 16) (by omega) rfl rfl)
def c17 (n : Nat) (fs : List Value) (r : Nat → Option Nat) : Nat → va_E := va_up (va_up (cut n) 17 (RR 2 5 r)) 0 (O10 fs)
theorem c17_s {n c : Nat} {fs : List Value} {r : Nat → Option Nat} (hn : 17 < n) (hc : cellG (S00 n) n = .inr (c, [])) : va_up (c17 n fs r) n (.inr (c, [])) = c17 (n + 1) fs r := by
  unfold c17
  rw [vup_comm (by omega), b0_s hn hc]
theorem sort1 {n c cc i sl : Nat} {fs : List Value} {r : Nat → Option Nat} {sc : Nat × (Nat → Int32)} {d : Nat} {q : Nat × Nat} {F : AH → Option Res} (hn : 17 < n) (hc : cellG (S00 n) n = .inr (c, [])) (hcc : ∀ h : AH, clsOf h n = some c → EX sc (d + 1) cc 0 [.ref n] [] h = some (none, h)) (hl : look [(1, 22, 0), (9, 23, 0), (3, 24, 0), (5, 25, 0), (7, 26, 0)] c = some q) (hi : i < 5) : (oB (clsOf (newO (n, sl, c17 n fs r) c []) (Prod.fst ((n, sl, c17 n fs r) : AH))) fun _ => cV (EX sc (d + 1) cc 0 [.ref (Prod.fst ((n, sl, c17 n fs r) : AH))] [] (newO (n, sl, c17 n fs r) c [])) fun h11 => aaS h11 17 (nI i) (Prod.fst ((n, sl, c17 n fs r) : AH)) 2 [(1, 22, 0), (9, 23, 0), (3, 24, 0), (5, 25, 0), (7, 26, 0)] F) = F (n + 1, sl, c17 (n + 1) fs (va_up r i (some n))) := by
  have e : newO (n, sl, c17 n fs r) c [] = (n + 1, sl, c17 (n + 1) fs r) := by
    show ((n + 1, sl + 0, va_up (c17 n fs r) n (.inr (c, []))) : AH) = _
    rw [c17_s hn hc]
    rfl
  have hcl : c17 (n + 1) fs r n = .inr (c, []) := by
    unfold c17
    rw [vup_ne (by omega), vup_ne (by omega), cut_at (by omega), hc]
  have h2 : clsOf (n + 1, sl, c17 (n + 1) fs r) n = some c := by
    unfold clsOf hcell
    rw [if_pos (show n < ((n + 1, sl, c17 (n + 1) fs r) : AH).1 from Nat.lt_succ_self n)]
    show (match (some (c17 (n + 1) fs r n) : Option va_E) with | some (.inr (c, _)) => some c | _ => none) = some c
    rw [hcl]
  show (oB (clsOf (newO (n, sl, c17 n fs r) c []) n) fun _ => cV (EX sc (d + 1) cc 0 [.ref n] [] (newO (n, sl, c17 n fs r) c [])) fun h11 => aaS h11 17 (nI i) n 2 [(1, 22, 0), (9, 23, 0), (3, 24, 0), (5, 25, 0), (7, 26, 0)] F) = _
  rw [e, h2, oB_s, hcc _ h2, cV_s, aaS_raw (r := r) (m := 5) (by omega) (by omega) (by unfold c17; rw [vup_ne (by omega), vup_at]) hcl hl hi (by omega)]
  congr 3
  unfold c17
  rw [vup_comm (by omega), vup_vup]
theorem ini26 (h : AH) (p : Nat) (sc : Nat × (Nat → Int32)) (d : Nat) : EX sc (d + 1) 26 0 [.ref p] [] h = some (none, h) := e26_0 sc d h p
theorem ini3 {h : AH} {p c : Nat} (hc : clsOf h p = some c) (sc : Nat × (Nat → Int32)) (d : Nat) : EX sc (d + 2) 3 0 [.ref p] [] h = some (none, h) := by
  rw [e3_0, hc, oB_s, ini26, cV_s]
theorem ini53 {h : AH} {p c : Nat} (hc : clsOf h p = some c) (sc : Nat × (Nat → Int32)) (d : Nat) : EX sc (d + 2) 53 0 [.ref p] [] h = some (none, h) := by
  rw [e53_0, hc, oB_s, ini26, cV_s]
theorem ini29 {h : AH} {p c : Nat} (hc : clsOf h p = some c) (sc : Nat × (Nat → Int32)) (d : Nat) : EX sc (d + 3) 29 0 [.ref p] [] h = some (none, h) := by
  rw [e29_0, hc, oB_s, ini3 hc, cV_s]
theorem ini77 {h : AH} {p c : Nat} (hc : clsOf h p = some c) (sc : Nat × (Nat → Int32)) (d : Nat) : EX sc (d + 3) 77 0 [.ref p] [] h = some (none, h) := by
  rw [e77_0, hc, oB_s, ini3 hc, cV_s]
theorem ini67 {h : AH} {p c : Nat} (hc : clsOf h p = some c) (sc : Nat × (Nat → Int32)) (d : Nat) : EX sc (d + 3) 67 0 [.ref p] [] h = some (none, h) := by
  rw [e67_0, hc, oB_s, ini53 hc, cV_s]
theorem newH0 {sc : Nat × (Nat → Int32)} {d n sl q c : Nat} {fs : List Value} {K : AH → Option Res} (hn : isH n) (hq : q < n) : (oB (clsOf (newO (cH n sl (cut n) q c fs) 2 L2) (Prod.fst (cH n sl (cut n) q c fs))) fun _ => cV (EX sc (d + 1) 6 0 [.ref (Prod.fst (cH n sl (cut n) q c fs))] [] (newO (cH n sl (cut n) q c fs) 2 L2)) K) = K (cH (n + 11) (sl + 107) (cut (n + 11)) q c fs) := by
  have := newH (sc := sc) (d := d) (n := n) (sl := sl) (f := va_up (cut n) q (.inr (c, fs))) (K := K)
  rw [hou_up hq, hou_cut hn] at this
  exact this
theorem newH2 {sc : Nat × (Nat → Int32)} {d n sl q c : Nat} {O : va_E} {fs : List Value} {K : AH → Option Res} (hn : isH n) (hq : q < n) (hn0 : 0 < n) : (oB (clsOf (newO (cH n sl (va_up (cut n) 0 O) q c fs) 2 L2) (Prod.fst (cH n sl (va_up (cut n) 0 O) q c fs))) fun _ => cV (EX sc (d + 1) 6 0 [.ref (Prod.fst (cH n sl (va_up (cut n) 0 O) q c fs))] [] (newO (cH n sl (va_up (cut n) 0 O) q c fs) 2 L2)) K) = K (cH (n + 11) (sl + 107) (va_up (cut (n + 11)) 0 O) q c fs) := by
  have := newH (sc := sc) (d := d) (n := n) (sl := sl) (f := va_up (va_up (cut n) 0 O) q (.inr (c, fs))) (K := K)
  rw [hou_up hq, hou_up hn0, hou_cut hn] at this
  exact this
theorem oracle_init {fs : List Value} (sl : Nat) (sc : Nat × (Nat → Int32)) (d : Nat) : EX sc (d + 2) 31 0 [.ref 45] [] (cH 46 sl (va_up (cut 46) 0 (O10 fs)) 45 4 (dfl [(1, 0, 0), (1, 0, 0), (1, 0, 0), (1, 0, 0), (0, 0, 0), (0, 0, 0), (1, 0, 0), (0, 0, 0)])) = some (none, cH 71 (sl + 238) (cut 71) 0 10 fs) := by
  have e6 : Int32.toNatClampNeg 6 = 6 := rfl
  have e12 : Int32.toNatClampNeg 12 = 12 := rfl
  rw [e31_0, e6, e12]
  rw [newH2 isH_46 (by omega) (by omega), pv_o (by omega) (by simp [dfl]), oB_s]
  rw [newH2 isH_57 (by omega) (by omega), pv_o (by omega) (by simp [dfl]), oB_s]
  rw [if_neg (by decide), pv_n (by omega) (by simp [dfl]), oB_s, b0_s (c := Z 6) (by omega) (by rfl), if_neg (by decide), pv_n (by omega) (by simp [dfl]), oB_s, b0_s (c := Z 6) (by omega) (by rfl), pv_o (by omega) (by simp [dfl]), oB_s, pv_o (by omega) (by simp [dfl]), oB_s, if_neg (by decide), pv_n (by omega) (by simp [dfl]), oB_s, b0_s (c := Z 12) (by omega) (by rfl), pv_o (by omega) (by simp [dfl]), oB_s]
  refine congrArg (fun z => some ((none : Option Value), z)) ?_
  show ((71, sl + 107 + 107 + 6 + 6 + 12, va_up (va_up (cut 71) 0 (O10 fs)) 45 (.inr (4, [.ref 46, .ref 57, .ref 68, .ref 69, .int 0, .int 0, .ref 70, .int 0]))) : AH) = (71, sl + 238, va_up (cut 71) 0 (O10 fs))
  rw [b0_back (by omega) (by omega) (by rfl), show sl + 107 + 107 + 6 + 6 + 12 = sl + 238 by omega]
