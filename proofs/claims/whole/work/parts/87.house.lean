/-! house: what is read, and the class -/
theorem M_sign {tp : Nat → Int32} {tl p : Nat} {S : Nat → Nat → Int32} (h : TM tp tl S) (hp : p ≤ tl) (h19 : S 359 19 = nI p) {c : Int32} (hc : tk1 c = c) (hcf : isF c = false) (hc1 : c ≠ -1) (hc0 : c ≠ 0) (sc : Nat × (Nat → Int32)) (d : Nat) : ∃ S', EX sc (d + 4) 148 0 [.ref 359, .int c] [] (mk S) = some (some (.int (if bt tp tl p = c then 0 else 1)), mk S') ∧ FX S S' ∧ S' 359 20 = nI p ∧ (bt tp tl p = c → S' 359 19 = nI (p + 1)) := by
  obtain ⟨S1, k1, k2, k3, k4, k5, k6⟩ := next_spec h hp h19 sc d
  have e : (S1 359 21 = c) ↔ bt tp tl p = c := by
    cases f : isF (bt tp tl p) with
    | false =>
      rw [(k4 f).1]
      constructor
      · intro q
        unfold tk1 at q
        split at q
        · exact q
        · exact absurd q.symm hc1
      · intro q; rw [q]; exact hc
    | true =>
      have n : bt tp tl p ≠ c := fun q => by rw [q, hcf] at f; cases f
      have := fg_le (tp := tp) (tl := tl) (p := p)
      by_cases g : fg tp tl p ≤ 2
      · rw [(k5 f g).1]
        exact ⟨fun q => absurd q.symm hc0, fun q => absurd q n⟩
      · rw [k6 (by omega)]
        exact ⟨fun q => absurd q.symm hc1, fun q => absurd q n⟩
  refine ⟨S1, ?_, k2, k3, fun q => ?_⟩
  · rw [e148_0]
    simp only [O359, if_true, k1, cV_s, oB_s]
    by_cases q : bt tp tl p = c
    · rw [if_pos (e.mpr q), if_pos q]
    · rw [if_neg (fun z => q (e.mp z)), if_neg q, e148_1]
  · have f : isF (bt tp tl p) = false := by rw [q]; exact hcf
    refine (k4 f).2 ?_
    by_cases z : p < tl
    · exact z
    · have : bt tp tl p = -1 := if_neg z
      exact absurd (q.symm.trans this) hc1
theorem M_num {tp : Nat → Int32} {tl p : Nat} {S : Nat → Nat → Int32} (h : TM tp tl S) (hp : p ≤ tl) (h19 : S 359 19 = nI p) {lo hi : Nat} (hlo : lo ≤ 100) (hhi : hi ≤ 100) (sc : Nat × (Nat → Int32)) (d : Nat) : ∃ S', EX sc (d + 4) 149 0 [.ref 359, .int (nI lo), .int (nI hi)] [] (mk S) = some (some (.int (nI (nres tp tl p lo hi))), mk S') ∧ FX S S' ∧ S' 359 20 = nI p ∧ (nres tp tl p lo hi = 0 → S' 359 19 = nI (p + fg tp tl p) ∧ S' 359 22 = nI (vl tp tl p)) := by
  obtain ⟨S1, k1, k2, k3, k4, k5, k6⟩ := next_spec h hp h19 sc d
  have bad : S1 359 21 ≠ 0 → (fg tp tl p = 0 ∨ fg tp tl p = 3) → ∃ S', EX sc (d + 4) 149 0 [.ref 359, .int (nI lo), .int (nI hi)] [] (mk S) = some (some (.int (nI (nres tp tl p lo hi))), mk S') ∧ FX S S' ∧ S' 359 20 = nI p ∧ (nres tp tl p lo hi = 0 → S' 359 19 = nI (p + fg tp tl p) ∧ S' 359 22 = nI (vl tp tl p)) := by
    intro q1 q2
    have hn : nres tp tl p lo hi = 1 := if_pos q2
    refine ⟨S1, ?_, k2, k3, fun q => by omega⟩
    rw [e149_0]
    simp only [O359, if_true, k1, cV_s, oB_s]
    rw [if_neg q1, hn]
    rfl
  cases f : isF (bt tp tl p) with
  | false =>
    refine bad ?_ (Or.inl (by unfold fg; rw [f, if_neg (by decide)]))
    rw [(k4 f).1]
    unfold tk1
    split
    · next c =>
      intro z
      rw [z] at c
      exact absurd c (by decide)
    · decide
  | true =>
    have hle := fg_le (tp := tp) (tl := tl) (p := p)
    by_cases g : fg tp tl p ≤ 2
    · have g1 : 1 ≤ fg tp tl p := by
        unfold fg
        rw [f, if_pos rfl]
        split
        · split <;> omega
        · omega
      obtain ⟨m1, m2, m3⟩ := k5 f g
      refine ⟨S1, ?_, k2, k3, fun _ => ⟨m2, m3⟩⟩
      have v99 := vl_le (tp := tp) (tl := tl) (p := p) (by omega)
      rw [e149_0]
      simp only [O359, if_true, k1, cV_s, oB_s]
      rw [if_pos m1, e149_1]
      simp only [O359, oB_s, m3, in_eq, cI_s, ii_0]
      have e : (nI lo ≤ nI (vl tp tl p) ∧ nI (vl tp tl p) ≤ nI hi) ↔ (lo ≤ vl tp tl p ∧ vl tp tl p ≤ hi) := by
        rw [Int32.le_iff_toInt_le, Int32.le_iff_toInt_le, nI_toInt (by omega), nI_toInt (by omega), nI_toInt (by omega)]
        omega
      unfold nres
      rw [if_neg (show ¬ (fg tp tl p = 0 ∨ fg tp tl p = 3) by omega)]
      by_cases c : lo ≤ vl tp tl p ∧ vl tp tl p ≤ hi
      · rw [if_pos (e.mpr c), if_pos c]
        rfl
      · rw [if_neg (fun q => c (e.mp q)), if_neg c, e149_2]
        rfl
    · refine bad ?_ (Or.inr (by omega))
      rw [k6 (by omega)]
      decide
abbrev Ot : Type := (Nat × Nat) ⊕ (Nat × List Nat)
def sgK (tp : Nat → Int32) (tl p : Nat) (c : Int32) (K : Nat → Ot) : Ot := if bt tp tl p = c then K (p + 1) else .inl (1, p)
def nmK (tp : Nat → Int32) (tl p lo hi : Nat) (K : Nat → Nat → Ot) : Ot := if nres tp tl p lo hi = 0 then K (p + fg tp tl p) (vl tp tl p) else .inl (nres tp tl p lo hi, p)
def kdN (x : Int32) : Nat := if x = 99 then 1 else if x = 115 then 2 else if x = 108 then 3 else if x = 112 then 4 else if x = 114 then 5 else 0
theorem kdN_le (x : Int32) : kdN x ≤ 5 := by
  unfold kdN
  split
  · omega
  · split
    · omega
    · split
      · omega
      · split
        · omega
        · split <;> omega
def lawO (tp : Nat → Int32) (tl : Nat) : Ot := sgK tp tl 0 104 fun p1 => nmK tp tl p1 3 9 fun p2 F => sgK tp tl p2 44 fun p3 => nmK tp tl p3 2 20 fun p4 W => sgK tp tl p4 59 fun p5 => .inr (p5, [F, W])
def letO (tp : Nat → Int32) (tl p F k : Nat) : Ot := if kdN (bt tp tl p) = 0 then .inl (1, p) else if k = 6 then .inl (3, p) else nmK tp tl (p + 1) 0 (F - 1) fun p2 fl => sgK tp tl p2 44 fun p3 => nmK tp tl p3 1 9 fun p4 th => sgK tp tl p4 44 fun p5 => nmK tp tl p5 0 20 fun p6 st => sgK tp tl p6 59 fun p7 => .inr (p7, [kdN (bt tp tl p), fl, th, st])
theorem isH_34 : isH 34 := by unfold isH; omega
def FR (S S' : Nat → Nat → Int32) : Prop := (∀ k, k ≠ 13 → ¬ (34 ≤ k ∧ k ≤ 44) → S' k = S k) ∧ S' 13 1 = S 13 1
theorem FR.rf (S : Nat → Nat → Int32) : FR S S := ⟨fun _ _ _ => rfl, rfl⟩
theorem FR.tr {S S' S'' : Nat → Nat → Int32} (h1 : FR S S') (h2 : FR S' S'') : FR S S'' := ⟨fun k a b => (h2.1 k a b).trans (h1.1 k a b), h2.2.trans h1.2⟩
theorem FR.up {S : Nat → Nat → Int32} {j : Nat} {x : Int32} (hj : j ≠ 1) : FR S (up S 13 j x) := ⟨fun _ h _ => up_row_ne h, up_ne (by omega)⟩
theorem Fr.r {S S' : Nat → Nat → Int32} (h : Fr 34 S S') : FR S S' := ⟨fun k _ b => h k (by omega), by rw [h 13 (by omega)]⟩
theorem CT.fr {tp : Nat → Int32} {tl : Nat} {S S' : Nat → Nat → Int32} (h : CT tp tl S) (hf : FR S S') : CT tp tl S' := ⟨h.1, hf.2.trans h.2.1, fun j hj => by rw [hf.1 14 (by omega) (by omega)]; exact h.2.2 j hj⟩
theorem HR34_up {S : Nat → Nat → Int32} {b : Hs} {j : Nat} {x : Int32} (h : HR S 34 b) : HR (up S 13 j x) 34 b := h.cg (fun k h1 h2 => up_row_ne (by omega))
def begA (b : Hs) (F W : Nat) : Hs := fun c j => if c = 0 then (if j = 0 then F else if j = 1 then W else 0) else b c j
theorem begin_spec {S : Nat → Nat → Int32} {b : Hs} (h : HR S 34 b) (F W : Nat) (sc : Nat × (Nat → Int32)) (d : Nat) : ∃ S', EX sc (d + 1) 7 0 [.ref 34, .int (nI F), .int (nI W), Jk] [] (mk S) = some (none, mk S') ∧ HR S' 34 (begA b F W) ∧ Fr 34 S S' := by
  obtain ⟨S1, hS1⟩ : ∃ S1, S1 = up (up (up (up (up S 34 0 (nI F)) 34 1 (nI W)) 34 2 0) 34 3 0) 34 4 0 := ⟨_, rfl⟩
  have n1 : ∀ k, k ≠ 34 → S1 k = S k := fun k hk => by rw [hS1, up_row_ne hk, up_row_ne hk, up_row_ne hk, up_row_ne hk, up_row_ne hk]
  have loop : ∀ n k T, k + n = 22 → (∀ q, q < k → T 43 q = 0 ∧ T 44 q = 0) → (∀ r, r ≠ 43 → r ≠ 44 → T r = S1 r) → ∃ T', EX sc (d + 1) 7 1 [.ref 34, Jk, Jk, .int (nI k)] [] (mk T) = some (none, mk T') ∧ (∀ q, q < 22 → T' 43 q = 0 ∧ T' 44 q = 0) ∧ (∀ r, r ≠ 43 → r ≠ 44 → T' r = S1 r) := by
    intro n
    induction n with
    | zero =>
      intro k T hk h1 h2
      refine ⟨T, ?_, fun q hq => h1 q (by omega), h2⟩
      rw [e7_1, if_pos (show (22 : Int32) ≤ nI k from nI_le (a := 22) (by omega) (by omega)), e7_2]
    | succ n ih =>
      intro k T hk h1 h2
      obtain ⟨T1, t1, t2, t3⟩ := ih (k + 1) (up (up T 43 k 0) 44 k 0) (by omega) (fun q hq => by
        rw [up_row_ne (show 43 ≠ 44 by omega), up_at, up_at, up_row_ne (show 44 ≠ 43 by omega)]
        by_cases e : q = k
        · rw [if_pos ⟨rfl, e⟩, if_pos ⟨rfl, e⟩]; exact ⟨rfl, rfl⟩
        · rw [if_neg (fun z => e z.2), if_neg (fun z => e z.2)]; exact h1 q (by omega)) (fun r a b => by rw [up_row_ne b, up_row_ne a]; exact h2 r a b)
      refine ⟨T1, ?_, t2, t3⟩
      have s9 : ∀ T : Nat → Nat → Int32, sI (mk T) 43 (nI k) 0 = some (mk (up T 43 k 0)) := fun T => (HS2 isH_34 T (show k < 22 by omega) 0).1
      have s10 : ∀ T : Nat → Nat → Int32, sI (mk T) 44 (nI k) 0 = some (mk (up T 44 k 0)) := fun T => (HS2 isH_34 T (show k < 22 by omega) 0).2
      rw [e7_1, if_neg (show ¬ (22 : Int32) ≤ nI k from nI_ge (b := 22) (by omega) (by omega))]
      simp only [Hg isH_34, oB_s, s9, s10, nI_1]
      exact t1
  obtain ⟨T, t1, t2, t3⟩ := loop 22 0 S1 (by omega) (fun q hq => by omega) (fun r _ _ => rfl)
  obtain ⟨g0, g1, g2, g3, g4⟩ := h
  refine ⟨T, ?_, ⟨g0, fun j hj => ?_, fun o j o1 o2 hj => ?_, fun q hq => ?_, fun q hq => ?_⟩, fun k hk => by rw [t3 k (by omega) (by omega), n1 k (by omega)]⟩
  · rw [e7_0]
    simp only [Hp isH_34, oB_s]
    rw [← hS1]
    exact t1
  · rw [t3 34 (by omega) (by omega), hS1]
    show _ = nI (if j = 0 then F else if j = 1 then W else 0)
    simp only [up_at, true_and]
    by_cases j0 : j = 0
    · subst j0; rfl
    · by_cases j1 : j = 1
      · subst j1; rfl
      · rw [if_neg j0, if_neg j1]
        have : j = 2 ∨ j = 3 ∨ j = 4 := by omega
        rcases this with rfl | rfl | rfl <;> rfl
  · rw [t3 (34 + o) (by omega) (by omega), n1 (34 + o) (by omega)]
    show _ = nI (if o = 0 then _ else b o j)
    rw [if_neg (by omega)]
    exact g2 o j o1 o2 hj
  · show T 43 q = nI (lyN _ q 0)
    rw [(t2 q hq).1]; rfl
  · show T 44 q = nI (ldN _ _ q 0)
    rw [(t2 q hq).2]; rfl
def addA (a : Hs) (kd fl th st : Nat) : Hs := fun c j => if c = 0 then (if j = 3 then a 0 3 + 1 else a 0 j) else if j = a 0 3 then (if c = 1 then kd else if c = 2 then fl else if c = 3 then th else if c = 4 then st else if c = 5 then 20 else if c = 6 then 0 else if c = 7 then 0 else if c = 8 then a 0 3 else a c j) else a c j
theorem addA_old {a : Hs} {kd fl th st c j : Nat} (hc : c ≠ 0) (hj : j ≠ a 0 3) : addA a kd fl th st c j = a c j := by
  unfold addA
  rw [if_neg hc, if_neg hj]
theorem addA_3 {a : Hs} {kd fl th st : Nat} : addA a kd fl th st 0 3 = a 0 3 + 1 := rfl
theorem addA_0 {a : Hs} {kd fl th st j : Nat} (h : j ≠ 3) : addA a kd fl th st 0 j = a 0 j := by
  unfold addA
  rw [if_pos rfl, if_neg h]
theorem addA_new {a : Hs} {kd fl th st : Nat} : addA a kd fl th st 1 (a 0 3) = kd ∧ addA a kd fl th st 2 (a 0 3) = fl ∧ addA a kd fl th st 3 (a 0 3) = th ∧ addA a kd fl th st 4 (a 0 3) = st ∧ addA a kd fl th st 5 (a 0 3) = 20 ∧ addA a kd fl th st 6 (a 0 3) = 0 ∧ addA a kd fl th st 7 (a 0 3) = 0 ∧ addA a kd fl th st 8 (a 0 3) = a 0 3 := by
  unfold addA
  simp
theorem lyN_cg {pl pl' : Nat → Nat} {q : Nat} : ∀ n, (∀ i, i < n → pl i = pl' i) → lyN pl q n = lyN pl' q n
  | 0, _ => rfl
  | n + 1, h => by
    show lyN pl q n + (if pl n = q then 2 ^ n else 0) = lyN pl' q n + (if pl' n = q then 2 ^ n else 0)
    rw [lyN_cg n (fun i hi => h i (by omega)), h n (by omega)]
theorem ldN_cg2 {pl pl' th th' : Nat → Nat} {q : Nat} : ∀ n, (∀ i, i < n → pl i = pl' i ∧ th i = th' i) → ldN pl th q n = ldN pl' th' q n
  | 0, _ => rfl
  | n + 1, h => by
    show ldN pl th q n + (if pl n = q then th n else 0) = ldN pl' th' q n + (if pl' n = q then th' n else 0)
    rw [ldN_cg2 n (fun i hi => h i (by omega)), (h n (by omega)).1, (h n (by omega)).2]
theorem ly_add {a : Hs} {kd fl th st q : Nat} : ly (addA a kd fl th st) q = ly a q + if 20 = q then 2 ^ (a 0 3) else 0 := by
  show lyN (addA a kd fl th st 5) q (a 0 3) + (if addA a kd fl th st 5 (a 0 3) = q then 2 ^ (a 0 3) else 0) = _
  rw [addA_new.2.2.2.2.1, lyN_cg (pl' := a 5) (a 0 3) (fun i hi => addA_old (by omega) (by omega))]
  rfl
theorem ld_add {a : Hs} {kd fl th st q : Nat} : ld (addA a kd fl th st) q = ld a q + if 20 = q then th else 0 := by
  show ldN (addA a kd fl th st 5) (addA a kd fl th st 3) q (a 0 3) + (if addA a kd fl th st 5 (a 0 3) = q then addA a kd fl th st 3 (a 0 3) else 0) = _
  rw [addA_new.2.2.2.2.1, addA_new.2.2.1, ldN_cg2 (pl' := a 5) (th' := a 3) (a 0 3) (fun i hi => ⟨addA_old (by omega) (by omega), addA_old (by omega) (by omega)⟩)]
  rfl
theorem add_spec {S : Nat → Nat → Int32} {a : Hs} (h : HR S 34 a) (h6 : a 0 3 < 6) (kd fl th st : Nat) (sc : Nat × (Nat → Int32)) (d : Nat) : ∃ S', EX sc (d + 1) 8 0 [.ref 34, .int (nI kd), .int (nI fl), .int (nI th), .int (nI st), Jk] [] (mk S) = some (none, mk S') ∧ HR S' 34 (addA a kd fl th st) ∧ Fr 34 S S' := by
  obtain ⟨g0, g1, g2, g3, g4⟩ := h
  obtain ⟨S8, hS8⟩ : ∃ S8, S8 = up (up (up (up (up (up (up (up S (34 + 1) (a 0 3) (nI kd)) (34 + 2) (a 0 3) (nI fl)) (34 + 3) (a 0 3) (nI th)) (34 + 4) (a 0 3) (nI st)) (34 + 5) (a 0 3) 20) (34 + 6) (a 0 3) 0) (34 + 7) (a 0 3) 0) (34 + 8) (a 0 3) (nI (a 0 3)) := ⟨_, rfl⟩
  have n8 : ∀ k, ¬ (35 ≤ k ∧ k ≤ 42) → S8 k = S k := fun k hk => by
    rw [hS8, up_row_ne (by omega), up_row_ne (by omega), up_row_ne (by omega), up_row_ne (by omega), up_row_ne (by omega), up_row_ne (by omega), up_row_ne (by omega), up_row_ne (by omega)]
  have r8 : ∀ o j, 1 ≤ o → o ≤ 8 → j < 6 → S8 (34 + o) j = nI (addA a kd fl th st o j) := by
    intro o j o1 o2 hj
    have base := g2 o j o1 o2 hj
    by_cases e : j = a 0 3
    · have e8 : o = 1 ∨ o = 2 ∨ o = 3 ∨ o = 4 ∨ o = 5 ∨ o = 6 ∨ o = 7 ∨ o = 8 := by omega
      rw [e, hS8]
      obtain ⟨w1, w2, w3, w4, w5, w6, w7, w8⟩ := addA_new (a := a) (kd := kd) (fl := fl) (th := th) (st := st)
      rcases e8 with rfl | rfl | rfl | rfl | rfl | rfl | rfl | rfl
      · rw [w1]; simp [up_at]
      · rw [w2]; simp [up_at]
      · rw [w3]; simp [up_at]
      · rw [w4]; simp [up_at]
      · rw [w5]; simp [up_at]; rfl
      · rw [w6]; simp [up_at]; rfl
      · rw [w7]; simp [up_at]; rfl
      · rw [w8]; simp [up_at]
    · rw [addA_old (by omega) e, hS8, up_ne (fun z => e z.2), up_ne (fun z => e z.2), up_ne (fun z => e z.2), up_ne (fun z => e z.2), up_ne (fun z => e z.2), up_ne (fun z => e z.2), up_ne (fun z => e z.2), up_ne (fun z => e z.2)]
      exact base
  have l64 : ly a 20 < 64 := ly_lt (by omega) 20
  have ly20 : S8 43 20 = nI (ly a 20) := by rw [n8 43 (by omega)]; exact g3 20 (by omega)
  have ld20 : ∀ x, up S8 43 20 x 44 20 = nI (ld a 20) := fun x => by rw [up_row_ne (by omega), n8 44 (by omega)]; exact g4 20 (by omega)
  have set : setB (ly a 20) (a 0 3) = ly a 20 + 2 ^ (a 0 3) := set_add (lyN_lt _ _ _)
  obtain ⟨S9, hS9⟩ : ∃ S9, S9 = up (up (up S8 43 20 (nI (setB (ly a 20) (a 0 3)))) 44 20 (nI (ld a 20 + th))) 34 3 (nI (a 0 3 + 1)) := ⟨_, rfl⟩
  refine ⟨S9, ?_, ⟨g0, fun j hj => ?_, fun o j o1 o2 hj => ?_, fun q hq => ?_, fun q hq => ?_⟩, fun k hk => ?_⟩
  · have s6 : ∀ (T : Nat → Nat → Int32) x, _ := fun T x => HS isH_34 T h6 x
    have s22 : ∀ (T : Nat → Nat → Int32) x, _ := fun T x => HS2 isH_34 T (show 20 < 22 by omega) x
    have a22 : ∀ (T : Nat → Nat → Int32), _ := fun T => HA2 isH_34 T (show 20 < 22 by omega)
    have z3 : ∀ x y, up (up S8 43 20 x) 44 20 y 34 3 = nI (a 0 3) := fun x y => by rw [up_row_ne (by omega), up_row_ne (by omega), n8 34 (by omega)]; exact g1 3 (by omega)
    rw [e8_0]
    simp only [Hg isH_34, oB_s, g1 3 (by omega), s6]
    rw [← hS8]
    simp only [Hg isH_34, oB_s, show (20 : Int32) = nI 20 from rfl, a22, s22]
    rw [show (34 + 9 : Nat) = 43 from rfl, show (34 + 10 : Nat) = 44 from rfl, ly20, set_I _ l64 _ h6, ld20, nI_add, z3, nI_1]
    simp only [Hp isH_34, oB_s]
    rw [hS9]
  · rw [hS9]
    by_cases e : j = 3
    · rw [e, up_same, addA_3]
    · rw [up_ne (fun z => e z.2), up_row_ne (by omega), up_row_ne (by omega), n8 34 (by omega), addA_0 e]
      exact g1 j hj
  · rw [hS9, up_row_ne (by omega), up_row_ne (by omega), up_row_ne (by omega)]
    exact r8 o j o1 o2 hj
  · rw [hS9, up_row_ne (by omega), up_row_ne (by omega), ly_add]
    by_cases e : q = 20
    · rw [e, if_pos rfl, ← set]
      exact up_same _ _ _ _
    · rw [if_neg (fun z => e z.symm), up_ne (fun z => e z.2), n8 (34 + 9) (by omega)]
      exact g3 q hq
  · rw [hS9, up_row_ne (by omega), ld_add]
    by_cases e : q = 20
    · rw [e, if_pos rfl]
      exact up_same _ _ _ _
    · rw [if_neg (fun z => e z.symm), up_ne (fun z => e z.2), up_row_ne (by omega), n8 (34 + 10) (by omega)]
      exact g4 q hq
  · rw [hS9, up_row_ne (by omega), up_row_ne (by omega), up_row_ne (by omega), n8 k (by omega)]
