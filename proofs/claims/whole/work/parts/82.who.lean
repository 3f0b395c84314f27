/-! who: what fits, and the class -/
def cntW (b : Hs) : Nat := bitN 6 (shfB b) + 10 * bitN 6 (ly b 21)
def fitN (tl : Nat → Int32) : Nat → Nat → Hs → Bool
  | 0, _, _ => true
  | k + 1, t, a => decide (nI (cntW (tickS a)) = tl t) && fitN tl k (t + 1) (tickS a)
def vry (w l v : Nat) (a : Hs) : Hs := if w = 0 then upA a 1 l v else if w = 1 then upA a 3 l v else if w = 2 then upA a 2 l v else upA a 0 1 v
def setN (P : Nat → Bool) (lo : Nat) : Nat → Nat
  | 0 => 0
  | k + 1 => if P (lo + k) = true then setN P lo k ||| 2 ^ (lo + k) else setN P lo k
theorem setN_lt {P : Nat → Bool} {lo N : Nat} : ∀ k, lo + k ≤ N → setN P lo k < 2 ^ N
  | 0, _ => by show 0 < 2 ^ N; exact Nat.pow_pos (by omega)
  | k + 1, h => by
    unfold setN
    have ih := setN_lt (P := P) (lo := lo) (N := N) k (by omega)
    split
    · exact Nat.or_lt_two_pow ih (Nat.pow_lt_pow_right (by omega) (by omega))
    · exact ih
theorem setN_bit {P : Nat → Bool} {lo : Nat} : ∀ k j, (setN P lo k).testBit j = true ↔ (lo ≤ j ∧ j < lo + k ∧ P j = true)
  | 0, j => by
    show (0 : Nat).testBit j = true ↔ _
    rw [Nat.zero_testBit]
    exact ⟨fun q => (by cases q), fun q => (by omega)⟩
  | k + 1, j => by
    unfold setN
    have ih := setN_bit (P := P) (lo := lo) k j
    by_cases c : P (lo + k) = true
    · rw [if_pos c, Nat.testBit_or, Bool.or_eq_true, ih, Nat.testBit_two_pow, decide_eq_true_iff]
      constructor
      · rintro (q | q)
        · exact ⟨q.1, by omega, q.2.2⟩
        · rw [← q]; exact ⟨by omega, by omega, c⟩
      · rintro ⟨q1, q2, q3⟩
        by_cases e : lo + k = j
        · exact Or.inr e
        · exact Or.inl ⟨q1, by omega, q3⟩
    · rw [if_neg c, ih]
      constructor
      · rintro ⟨q1, q2, q3⟩
        exact ⟨q1, by omega, q3⟩
      · rintro ⟨q1, q2, q3⟩
        refine ⟨q1, ?_, q3⟩
        by_cases e : lo + k = j
        · rw [e] at c; exact absurd q3 c
        · omega
theorem fits_loop {tl : Nat → Int32} {n : Nat} (hn : n ≤ 12) (sc : Nat × (Nat → Int32)) (d : Nat) : ∀ (k t : Nat) (S : Nat → Nat → Int32) (a : Hs), t + k = n → HR S 46 a → OkT k a → S 45 7 = nI n → (∀ j, j < n → S 70 j = tl j) → ∃ S', EX sc (d + 4) 45 1 [.ref 45, .int (nI t)] [] (mk S) = some (some (.int (if fitN tl k t a = true then 1 else 0)), mk S') ∧ Fr 46 S S' := by
  intro k
  induction k with
  | zero =>
    intro t S a ht h hw h7 h70
    refine ⟨S, ?_, fun _ _ => rfl⟩
    rw [e45_1]
    simp only [O45, oB_s, h7]
    rw [if_pos (nI_le (by omega) (by omega)), e45_3, bt1]
    rfl
  | succ k ih =>
    intro t S a ht h hw h7 h70
    obtain ⟨S1, k1, k2, k3⟩ := tickT h hw sc d
    have hw1 : OkT k (tickS a) := hw.tick
    have h6 := hw1.l6
    have o1 := lettersInShaft_eq k2 h6 sc d
    have o2 := bitCount_eq S1 (shfB_lt h6) sc (d + 2)
    have o3 := lettersBoxed_eq k2 h6 sc (d + 1)
    have e70 : S1 70 t = tl t := by rw [k3 70 (by omega)]; exact h70 t (by omega)
    have ec : nI (bitN 6 (shfB (tickS a))) + 10 * nI (bitN 6 (ly (tickS a) 21)) = nI (cntW (tickS a)) := by
      rw [show (10 : Int32) = nI 10 from rfl, pk_mul, nI_add]
      rfl
    have hst : fitN tl (k + 1) t a = (decide (nI (cntW (tickS a)) = tl t) && fitN tl k (t + 1) (tickS a)) := rfl
    rw [e45_1]
    simp only [O45, oB_s, h7]
    rw [if_neg (nI_ge (by omega) (by omega))]
    simp only [Hg isH_46, if_true, k1, cV_s, O45, oB_s, o1, cI_s, o2, o3, aI_at (S := S1) A70 (show t < 12 by omega) (by omega), e70, ec]
    by_cases c : nI (cntW (tickS a)) = tl t
    · rw [decide_eq_true c, Bool.true_and] at hst
      obtain ⟨S2, m1, m2⟩ := ih (t + 1) S1 (tickS a) (by omega) k2 hw1 (by rw [k3 45 (by omega)]; exact h7) (fun j hj => by rw [k3 70 (by omega)]; exact h70 j hj)
      rw [if_pos c, e45_2, nI_1, hst]
      exact ⟨S2, m1, fun q hq => (m2 q hq).trans (k3 q hq)⟩
    · rw [decide_eq_false c, Bool.false_and] at hst
      refine ⟨S1, ?_, k3⟩
      rw [if_neg c, hst]
      rfl
theorem ldN_th {pl th : Nat → Nat} {q l v : Nat} : ∀ n, ldN pl (fun j => if j = l then v else th j) q n + (if l < n ∧ pl l = q then th l else 0) = ldN pl th q n + (if l < n ∧ pl l = q then v else 0)
  | 0 => by
    rw [if_neg (fun z => by omega), if_neg (fun z => by omega)]
    rfl
  | n + 1 => by
    show ldN pl (fun j => if j = l then v else th j) q n + (if pl n = q then (if n = l then v else th n) else 0) + _ = ldN pl th q n + (if pl n = q then th n else 0) + _
    have ih := ldN_th (pl := pl) (th := th) (q := q) (l := l) (v := v) n
    by_cases e : n = l
    · subst e
      rw [if_neg (show ¬ (n < n ∧ pl n = q) from fun z => by omega), if_neg (show ¬ (n < n ∧ pl n = q) from fun z => by omega)] at ih
      by_cases c : pl n = q
      · rw [if_pos c, if_pos rfl, if_pos ⟨by omega, c⟩, if_pos c, if_pos ⟨by omega, c⟩]
        omega
      · rw [if_neg c, if_neg (fun z => c z.2), if_neg c, if_neg (fun z => c z.2)]
        omega
    · rw [if_neg e]
      by_cases c : l < n ∧ pl l = q
      · rw [if_pos c, if_pos c] at ih
        rw [if_pos (show l < n + 1 ∧ pl l = q from ⟨by omega, c.2⟩), if_pos (show l < n + 1 ∧ pl l = q from ⟨by omega, c.2⟩)]
        omega
      · rw [if_neg c, if_neg c] at ih
        rw [if_neg (show ¬ (l < n + 1 ∧ pl l = q) from fun z => c ⟨by omega, z.2⟩), if_neg (show ¬ (l < n + 1 ∧ pl l = q) from fun z => c ⟨by omega, z.2⟩)]
        omega
theorem ld_th {a : Hs} {l v q : Nat} (hl : l < a 0 3) : ld (upA a 3 l v) q + (if a 5 l = q then a 3 l else 0) = ld a q + (if a 5 l = q then v else 0) := by
  have := ldN_th (pl := a 5) (th := a 3) (q := q) (l := l) (v := v) (a 0 3)
  have e : upA a 3 l v 3 = fun j => if j = l then v else a 3 j := by
    funext j
    rw [upA_at]
    by_cases c : j = l
    · rw [if_pos ⟨rfl, c⟩, if_pos c]
    · rw [if_neg (fun z => c z.2), if_neg c]
  unfold ld
  rw [e, upA_c (show (5 : Nat) ≠ 3 by omega), upA_c (show (0 : Nat) ≠ 3 by omega)]
  by_cases c : a 5 l = q
  · rw [if_pos ⟨hl, c⟩, if_pos ⟨hl, c⟩] at this
    rw [if_pos c, if_pos c]; exact this
  · rw [if_neg (fun z => c z.2), if_neg (fun z => c z.2)] at this
    rw [if_neg c, if_neg c]; exact this
theorem nI_asub {x v t : Nat} (h : t ≤ x + v) : nI x + (nI v - nI t) = nI (x + v - t) := by
  rw [Int32.sub_eq_add_neg, ← Int32.add_assoc, ← Int32.sub_eq_add_neg, nI_add, pk_sub h]
theorem makeThick_spec {S : Nat → Nat → Int32} {p : Nat} {a : Hs} {B : Nat} (h : HR S p a) (hw : WFg B a) {l v : Nat} (hl : l < a 0 3) (sc : Nat × (Nat → Int32)) (d : Nat) : ∃ S', EX sc (d + 1) 17 0 [.ref p, .int (nI l), .int (nI v)] [] (mk S) = some (none, mk S') ∧ HR S' p (upA a 3 l v) ∧ Fr p S S' := by
  have h6 := hw.1
  have h22 := pl_22 hw hl
  obtain ⟨hp, g0, g1, g2, g3⟩ := h
  have p5 : S (p + 5) l = nI (a 5 l) := g1 5 l (by omega) (by omega) (by omega)
  have p3 : S (p + 3) l = nI (a 3 l) := g1 3 l (by omega) (by omega) (by omega)
  have pld : S (p + 10) (a 5 l) = nI (ld a (a 5 l)) := g3 _ h22
  have key := ld_th (a := a) (v := v) (q := a 5 l) hl
  rw [if_pos rfl, if_pos rfl] at key
  have e1 : nI (ld a (a 5 l)) + (nI v - nI (a 3 l)) = nI (ld (upA a 3 l v) (a 5 l)) := by
    rw [nI_asub (by omega)]
    congr 1
    omega
  refine ⟨up (up S (p + 10) (a 5 l) (nI (ld (upA a 3 l v) (a 5 l)))) (p + 3) l (nI v), ?_, ⟨hp, ?_, ?_, ?_, ?_⟩, ?_⟩
  · rw [e17_0]
    simp only [Hg hp, oB_s, fun S => HA hp S (show l < 6 by omega), p5, p3, fun S => HA2 hp S h22, pld, e1, fun S x => HS2 hp S h22 x, fun S x => HS hp S (show l < 6 by omega) x]
  · intro j hj
    rw [up_row_ne (by omega), up_row_ne (by omega), upA_c (by omega)]
    exact g0 j hj
  · intro o j o1 o2 hj
    by_cases e : o = 3
    · subst e
      by_cases e2 : j = l
      · rw [e2, up_same, upA_same]
      · rw [up_ne (by omega), up_row_ne (by omega), upA_ne (fun z => e2 z.2)]; exact g1 3 j o1 o2 hj
    · rw [up_row_ne (by omega), up_row_ne (by omega), upA_c e]; exact g1 o j o1 o2 hj
  · intro q hq
    rw [up_row_ne (by omega), up_row_ne (by omega)]
    have : ly (upA a 3 l v) q = ly a q := by
      unfold ly
      rw [upA_c (by omega), upA_c (by omega)]
    rw [this]; exact g2 q hq
  · intro q hq
    rw [up_row_ne (by omega)]
    by_cases e : q = a 5 l
    · rw [e, up_same]
    · have k2 := ld_th (a := a) (v := v) (q := q) hl
      rw [if_neg (fun z => e z.symm), if_neg (fun z => e z.symm)] at k2
      rw [up_ne (by omega), show ld (upA a 3 l v) q = ld a q by omega]
      exact g3 q hq
  · intro k hk
    rw [up_row_ne (by omega), up_row_ne (by omega)]
theorem vary_C {S : Nat → Nat → Int32} {a : Hs} {B : Nat} (h : HR S 46 a) (hw : WFg B a) {l v w : Nat} (hl : l < a 0 3) (hw4 : w < 4) (sc : Nat × (Nat → Int32)) (d : Nat) : ∃ S', EX sc (d + 2) 47 0 [.ref 45, .int (nI l), .int (nI w), .int (nI v)] [] (mk S) = some (none, mk S') ∧ HR S' 46 (vry w l v a) ∧ Fr 46 S S' := by
  have h6 := hw.1
  have t0 : ∀ k : Nat, ((nI w).toInt = (k : Int)) ↔ w = k := fun k => toInt_nI (by omega) k
  rw [e47_0]
  unfold vry
  by_cases c0 : w = 0
  · rw [if_pos ((t0 0).mpr c0), if_pos c0, e47_1]
    refine ⟨up S (46 + 1) l (nI v), ?_, HR_set h (by omega) (by omega) (by omega) (by omega), fun k hk => up_row_ne (by omega)⟩
    simp only [O45, oB_s, Hg isH_46]
    simp only [fun S x => HS isH_46 S (show l < 6 by omega) x, oB_s]
  · rw [if_neg (fun z => c0 ((t0 0).mp z)), if_neg c0]
    by_cases c1 : w = 1
    · rw [if_pos ((t0 1).mpr c1), if_pos c1, e47_2]
      obtain ⟨S1, k1, k2, k3⟩ := makeThick_spec (v := v) h hw hl sc d
      refine ⟨S1, ?_, k2, k3⟩
      simp only [O45, oB_s, Hg isH_46, if_true, k1, cV_s]
    · rw [if_neg (fun z => c1 ((t0 1).mp z)), if_neg c1]
      by_cases c2 : w = 2
      · rw [if_pos ((t0 2).mpr c2), if_pos c2, e47_3]
        refine ⟨up S (46 + 2) l (nI v), ?_, HR_set h (by omega) (by omega) (by omega) (by omega), fun k hk => up_row_ne (by omega)⟩
        simp only [O45, oB_s, Hg isH_46]
        simp only [fun S x => HS isH_46 S (show l < 6 by omega) x, oB_s]
      · rw [if_neg (fun z => c2 ((t0 2).mp z)), if_neg c2, e47_4]
        refine ⟨up S 46 1 (nI v), ?_, HR_sc h (by omega), fun k hk => up_row_ne (by omega)⟩
        simp only [O45, oB_s, Hp isH_46]
theorem fit_C {a : Hs} {tl : Nat → Int32} {n l w lo hi : Nat} (hw : OkT 100 a) (hn : n ≤ 12) (hl : l < a 0 3) (hw4 : w < 4) (hhi : hi ≤ 20) (hv : ∀ v, lo ≤ v → v ≤ hi → OkT 12 (vry w l v a)) (sc : Nat × (Nat → Int32)) (d : Nat) : ∀ (q k : Nat) (S : Nat → Nat → Int32), lo + k + q = hi + 1 → HR S 23 a → S 45 7 = nI n → (∀ j, j < n → S 70 j = tl j) → ∃ S', EX sc (d + 5) 46 1 [.ref 45, .ref 23, .int (nI l), .int (nI w), Jk, .int (nI hi), .int (nI (setN (fun v => fitN tl n 0 (vry w l v a)) lo k)), .int (nI (lo + k))] [] (mk S) = some (some (.int (nI (setN (fun v => fitN tl n 0 (vry w l v a)) lo (hi + 1 - lo)))), mk S') ∧ Fr 46 S S' := by
  obtain ⟨B, hB⟩ := hw.wf
  intro q
  induction q with
  | zero =>
    intro k S hq h h7 h70
    refine ⟨S, ?_, fun _ _ => rfl⟩
    rw [e46_1, if_pos ((nI_ltI (by omega) (by omega)).mpr (by omega)), e46_3, show hi + 1 - lo = k by omega]
  | succ q ih =>
    intro k S hq h h7 h70
    obtain ⟨S1, k1, k2, k3⟩ := copyFrom_spec h isH_46 (Or.inr (by omega)) sc (d + 3)
    obtain ⟨S2, m1, m2, m3⟩ := vary_C (v := lo + k) k2 hB hl hw4 sc (d + 2)
    have f2 : Fr 46 S S2 := fun z hz => (m3 z hz).trans (k3 z hz)
    obtain ⟨S3, n1, n2⟩ := fits_loop (tl := tl) hn sc d n 0 S2 (vry w l (lo + k) a) (by omega) m2 ((hv (lo + k) (by omega) (by omega)).le hn) (by rw [f2 45 (by omega)]; exact h7) (fun j hj => by rw [f2 70 (by omega)]; exact h70 j hj)
    have f3 : Fr 46 S S3 := fun z hz => (n2 z hz).trans (f2 z hz)
    obtain ⟨S4, p1, p2⟩ := ih (k + 1) S3 (by omega) (h.fr f3 (Or.inr (by omega))) (by rw [f3 45 (by omega)]; exact h7) (fun j hj => by rw [f3 70 (by omega)]; exact h70 j hj)
    refine ⟨S4, ?_, fun z hz => (p2 z hz).trans (f3 z hz)⟩
    rw [e46_1, if_neg (nI_nlt (by omega) (by omega))]
    simp only [O45, oB_s, Hg isH_46, if_true, k1, cV_s, m1, e45_0]
    rw [show (0 : Int32) = nI 0 from rfl, n1]
    simp only [cI_s, show nI 0 = (0 : Int32) from rfl, ii_0]
    have hst : setN (fun v => fitN tl n 0 (vry w l v a)) lo (k + 1) = if fitN tl n 0 (vry w l (lo + k) a) = true then setN (fun v => fitN tl n 0 (vry w l v a)) lo k ||| 2 ^ (lo + k) else setN (fun v => fitN tl n 0 (vry w l v a)) lo k := rfl
    by_cases c : fitN tl n 0 (vry w l (lo + k) a) = true
    · rw [if_pos c] at hst
      rw [if_pos c, (shk (lo + k) (by omega)).2, nI_or, ← hst, e46_2, nI_1]
      exact p1
    · rw [if_neg c] at hst
      rw [if_neg c, ← hst, e46_2, nI_1]
      exact p1
