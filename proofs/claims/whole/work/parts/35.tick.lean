/-! the class's House: a tick -/
/-- no letter from l on lies at the floor: nothing more falls there -/
theorem iter_none {lay : Nat → Nat} {f l : Nat} {b : Hs} : ∀ n, (∀ j, l ≤ j → j < l + n → lay j ≠ f) → iter (l + n) (stepF lay f) b = iter l (stepF lay f) b
  | 0, _ => rfl
  | n + 1, h => by
    show stepF lay f (l + n) (iter (l + n) (stepF lay f) b) = _
    rw [iter_none n (fun j h1 h2 => h j h1 (by omega))]
    unfold stepF
    rw [if_neg (h (l + n) (by omega) (by omega))]
theorem WFg.mono {B B' : Nat} {a : Hs} (h : WFg B a) (hB : B ≤ B') : WFg B' a := ⟨h.1, h.2.1, h.2.2.1, h.2.2.2.1, h.2.2.2.2.1, fun j hj => by have := h.2.2.2.2.2 j hj; exact ⟨this.1, this.2.1, this.2.2.1, this.2.2.2.1, this.2.2.2.2.1, this.2.2.2.2.2.1, Nat.le_trans this.2.2.2.2.2.2.1 hB, this.2.2.2.2.2.2.2⟩⟩
theorem WF_iter {lay : Nat → Nat} {f B : Nat} {b : Hs} (hw : WFg B b) (hok : LayOk lay f 0 b) (hf : f < b 0 0) : ∀ n, n ≤ b 0 3 → WFg (B + n) (iter n (stepF lay f) b)
  | 0, _ => hw
  | n + 1, hn => by
    have ih := WF_iter hw hok hf n (by omega)
    have h9 := hw.2.1
    have hl := LayOk.itr hok (by omega) n (by omega) n (by rw [iterF_c (by omega)]; omega)
    show WFg (B + n + 1) (stepF lay f n (iter n (stepF lay f) b))
    by_cases e : lay n = f
    · rw [show stepF lay f n (iter n (stepF lay f) b) = fallA (iter n (stepF lay f) b) n from if_pos e]
      rw [if_neg (by omega)] at hl
      exact WF_fall ih (by rw [iterF_c (by omega)]; omega) (by rw [hl, e, iterF_c (by omega)]; exact hf)
    · rw [show stepF lay f n (iter n (stepF lay f) b) = iter n (stepF lay f) b from if_neg e]
      exact ih.mono (by omega)
theorem inner_spec {p : Nat} {lay : Nat → Nat} {f B T : Nat} {b : Hs} (hw : WFg B b) (hB : B + 6 ≤ 1000000) (hok : LayOk lay f 0 b) (hf : f < b 0 0) (hT : T < 64) (hTb : ∀ j, T.testBit j = (decide (j < b 0 3) && decide (lay j = f))) (sc : Nat × (Nat → Int32)) (d : Nat) :
    ∀ (n l : Nat) (S : Nat → Nat → Int32), l + n = b 0 3 → HR S p (iter l (stepF lay f) b) → ∃ S', EX sc (d + 3) 10 2 [.ref p, .int (nI f), .int (nI T), .int (nI l)] [] (mk S) = EX sc (d + 3) 10 4 [.ref p, .int (nI f), Jk, Jk] [] (mk S') ∧ HR S' p (floorA lay f b) ∧ Fr p S S' := by
  have h6 := hw.1
  have h9 := hw.2.1
  intro n
  induction n with
  | zero =>
    intro l S hl h
    refine ⟨S, ?_, ?_, Fr.rf _ _⟩
    · rw [e10_2]
      simp only [Hg h.1, oB_s, h.2.1 3 (by omega)]
      rw [iterF_c (by omega), if_pos (by rw [show l = b 0 3 by omega]; exact nI_le (by omega) (by omega))]
    · rw [floorA_eq, show b 0 3 = l by omega]; exact h
  | succ n ih =>
    intro l S hl h
    have hp := h.1
    rw [e10_2]
    simp only [Hg hp, oB_s, h.2.1 3 (by omega)]
    rw [iterF_c (by omega), if_neg (nI_ge (by omega) (by omega))]
    rw [shr_I T hT l (by omega)]
    by_cases hz : T / 2 ^ l = 0
    · rw [if_pos (by rw [hz]; rfl)]
      refine ⟨S, rfl, ?_, Fr.rf _ _⟩
      rw [floorA_eq, ← hl, iter_none]
      · exact h
      · intro j h1 h2 e
        have hb : T.testBit j = true := by rw [hTb]; simp [e]; omega
        have : T < 2 ^ l := by
          rcases Nat.lt_or_ge T (2 ^ l) with q | q
          · exact q
          · have := Nat.div_pos q (Nat.two_pow_pos l); omega
        have hj : T < 2 ^ j := Nat.lt_of_lt_of_le this (Nat.pow_le_pow_right (by omega) h1)
        rw [Nat.testBit_lt_two_pow hj] at hb
        cases hb
    · have hdiv : T / 2 ^ l < 64 := Nat.lt_of_le_of_lt (Nat.div_le_self _ _) hT
      rw [if_neg (nI_ne0 (Nat.pos_of_ne_zero hz) (Nat.lt_trans hdiv (by omega))), ← shr_I T hT l (by omega), bit_I T hT l (by omega)]
      have hb := hTb l
      rw [show decide (l < b 0 3) = true by simp; omega, Bool.true_and] at hb
      by_cases e : lay l = f
      · rw [hb, decide_eq_true e, if_pos rfl, if_neg (show ¬ nI 1 = 0 by decide), if_pos trivial]
        have hwl := WF_iter hw hok hf l (by omega)
        have hlay := LayOk.itr hok (by omega) l (by omega) l (by rw [iterF_c (by omega)]; omega)
        rw [if_neg (by omega)] at hlay
        obtain ⟨S1, k1, k2, k3⟩ := letFall_spec h hwl (by omega) (i := l) (by rw [iterF_c (by omega)]; omega) (by rw [hlay, e, iterF_c (by omega)]; exact hf) sc d
        rw [k1, cV_s, e10_3, nI_1]
        have hs : iter (l + 1) (stepF lay f) b = fallA (iter l (stepF lay f) b) l := if_pos e
        obtain ⟨S2, m1, m2, m3⟩ := ih (l + 1) S1 (by omega) (by rw [hs]; exact k2)
        exact ⟨S2, m1, m2, k3.tr m3⟩
      · rw [hb, decide_eq_false e, if_pos (show nI (if false = true then 1 else 0) = 0 from rfl), e10_3, nI_1]
        have hs : iter (l + 1) (stepF lay f) b = iter l (stepF lay f) b := if_neg e
        exact ih (l + 1) S (by omega) (by rw [hs]; exact h)
theorem WF_floors {B : Nat} {a : Hs} (hw : WFg B a) : ∀ n, n ≤ a 0 0 → WFg (B + 6 * n) (iter n (floorA (a 5)) a)
  | 0, _ => hw
  | n + 1, hn => by
    have h6 := hw.1
    have h9 := hw.2.1
    have ih := WF_floors hw n (by omega)
    have hl := LayOk.floors (a := a) (by omega) n (by omega)
    have := WF_iter ih hl (by rw [iterG_c (by omega)]; omega) _ (Nat.le_refl _)
    rw [iterG_c (by omega)] at this
    show WFg (B + 6 * (n + 1)) (floorA (a 5) n (iter n (floorA (a 5)) a))
    rw [floorA_eq, iterG_c (by omega)]
    exact this.mono (by omega)
theorem outer_spec {p B : Nat} {a : Hs} (hw : WFg B a) (hB : B + 60 ≤ 1000000) (sc : Nat × (Nat → Int32)) (d : Nat) :
    ∀ (n f : Nat) (S : Nat → Nat → Int32), f + n = a 0 0 → HR S p (iter f (floorA (a 5)) a) → ∃ S', EX sc (d + 3) 10 1 [.ref p, .int (nI f), Jk, Jk] [] (mk S) = EX sc (d + 3) 10 5 [.ref p, Jk, Jk, Jk] [] (mk S') ∧ HR S' p (iter (a 0 0) (floorA (a 5)) a) ∧ Fr p S S' := by
  have h6 := hw.1
  have h9 := hw.2.1
  intro n
  induction n with
  | zero =>
    intro f S hf h
    refine ⟨S, ?_, ?_, Fr.rf _ _⟩
    · rw [e10_1]
      simp only [Hg h.1, oB_s, h.2.1 0 (by omega)]
      rw [iterG_c (by omega), if_pos (by rw [show f = a 0 0 by omega]; exact nI_le (by omega) (by omega))]
    · rw [show a 0 0 = f by omega]; exact h
  | succ n ih =>
    intro f S hf h
    have hp := h.1
    have hwf := WF_floors hw f (by omega)
    have hl := LayOk.floors (a := a) (by omega) f (by omega)
    rw [e10_1]
    simp only [Hg hp, oB_s, h.2.1 0 (by omega), fun S => HA2 hp S (show f < 22 by omega), h.2.2.2.1 f (by omega)]
    rw [iterG_c (by omega), if_neg (nI_ge (by omega) (by omega)), show (0 : Int32) = nI 0 from rfl]
    have hwf1 := hwf.1
    obtain ⟨S1, k1, k2, k3⟩ := inner_spec (p := p) hwf (by omega) hl (by rw [iterG_c (by omega)]; omega) (ly_lt hwf1 f) (fun j => by
      unfold ly
      rw [lyN_bit]
      by_cases hj : j < iter f (floorA (a 5)) a 0 3
      · simp only [hj, decide_true, Bool.true_and]
        exact decide_eq_decide.mpr (hl.at hj (by omega))
      · simp [hj]) sc d _ 0 S (Nat.zero_add _) h
    rw [k1, e10_4, nI_1]
    obtain ⟨S2, m1, m2, m3⟩ := ih (f + 1) S1 (by omega) k2
    exact ⟨S2, m1, m2, k3.tr m3⟩
/-- ranks are of different letters -/
def RkOk (a : Hs) : Prop := ∀ i j, i < a 0 3 → j < a 0 3 → a 8 i = a 8 j → i = j
theorem andn_I : ∀ x, x < 64 → ∀ y, y < 64 → nI x &&& (nI y ^^^ (-1)) = nI (x &&& (63 ^^^ y)) := by decide +kernel
theorem andn_bit {x y : Nat} (hx : x < 64) (j : Nat) : (x &&& (63 ^^^ y)).testBit j = (x.testBit j && !y.testBit j) := by
  rw [Nat.testBit_and, Nat.testBit_xor]
  by_cases hj : j < 6
  · have h63 : (63 : Nat).testBit j = true := by
      have : ∀ j, j < 6 → (63 : Nat).testBit j = true := by decide
      exact this j hj
    rw [h63]
    cases x.testBit j <;> cases y.testBit j <;> rfl
  · have : x.testBit j = false := Nat.testBit_lt_two_pow (Nat.lt_of_lt_of_le hx (by have : 2 ^ 6 ≤ 2 ^ j := Nat.pow_le_pow_right (by omega) (by omega); omega))
    simp [this]
theorem comeA_c {a : Hs} {k c : Nat} (h : c ≠ 5) : comeA k a c = a c := by
  unfold comeA
  split
  · exact upA_c h
  · rfl
theorem iterC_c {b : Hs} {c : Nat} (h : c ≠ 5) : ∀ n, iter n comeA b c = b c
  | 0 => rfl
  | n + 1 => by show comeA n _ c = _; rw [comeA_c h, iterC_c h n]
theorem iterC_5 {b : Hs} {j : Nat} : ∀ n, (∀ k, k < n → b 8 k ≠ j) → iter n comeA b 5 j = b 5 j
  | 0, _ => rfl
  | n + 1, h => by
    show comeA n (iter n comeA b) 5 j = _
    have key : ∀ X : Hs, X 8 = b 8 → comeA n X 5 j = X 5 j := by
      intro X hX
      unfold comeA
      split
      · rw [hX]; exact upA_ne (fun q => h n (by omega) q.2.symm)
      · rfl
    rw [key _ (iterC_c (by omega) n)]
    exact iterC_5 n (fun k hk => h k (by omega))
theorem WF_come {B : Nat} {a : Hs} (hw : WFg B a) {k : Nat} (hk : k < a 0 3) : WFg B (comeA k a) := by
  unfold comeA
  split
  · have h8 := (hw.2.2.2.2.2 k hk).2.2.2.2.2.2.2
    exact WF_mv hw (Or.inl (hw.2.2.2.2.2 _ h8).2.1)
  · exact hw
theorem WF_iterC {B : Nat} {a : Hs} (hw : WFg B a) : ∀ n, n ≤ a 0 3 → WFg B (iter n comeA a)
  | 0, _ => hw
  | n + 1, hn => WF_come (WF_iterC hw n (by omega)) (by rw [iterC_c (by omega)]; omega)
theorem come_none {b : Hs} (h : ∀ j, j < b 0 3 → ¬ (b 5 j = 20 ∧ (b 0 4).testBit j = false)) (hr : ∀ k, k < b 0 3 → b 8 k < b 0 3) : ∀ n, n ≤ b 0 3 → iter n comeA b = b
  | 0, _ => rfl
  | n + 1, hn => by
    show comeA n (iter n comeA b) = b
    rw [come_none h hr n (by omega)]
    unfold comeA
    rw [if_neg (fun q => h _ (hr n (by omega)) ⟨q.1, q.2.1⟩)]
theorem HR_sc {S : Nat → Nat → Int32} {p : Nat} {a : Hs} (h : HR S p a) {j v : Nat} (hj : j ≠ 3) : HR (up S p j (nI v)) p (upA a 0 j v) := by
  obtain ⟨hp, g0, g1, g2, g3⟩ := h
  refine ⟨hp, fun j' hj' => ?_, fun o' j' ho1 ho2 hj' => ?_, fun q hq => ?_, fun q hq => ?_⟩
  · rw [up_at, upA_at]
    by_cases e : j' = j
    · rw [if_pos ⟨rfl, e⟩, if_pos ⟨rfl, e⟩]
    · rw [if_neg (fun q => e q.2), if_neg (fun q => e q.2)]; exact g0 j' hj'
  · rw [up_row_ne (by omega), upA_c (by omega)]; exact g1 o' j' ho1 ho2 hj'
  · rw [up_row_ne (by omega), g2 q hq]
    unfold ly
    rw [upA_c (by omega), upA_ne (by omega)]
  · rw [up_row_ne (by omega), g3 q hq]
    unfold ld
    rw [upA_c (by omega), upA_c (by omega), upA_ne (by omega)]
theorem come_spec {p B C : Nat} {a : Hs} (hw : WFg B a) (hrk : RkOk a) (hC : C < 64) (hCb : ∀ j, j < a 0 3 → C.testBit j = (decide (a 5 j = 20) && !(a 0 4).testBit j)) (sc : Nat × (Nat → Int32)) (d : Nat) :
    ∀ (n k : Nat) (S : Nat → Nat → Int32), k + n = a 0 3 → HR S p (iter k comeA a) → ∃ S', EX sc (d + 2) 10 6 [.ref p, .int (nI C), .int (nI k), Jk] [] (mk S) = EX sc (d + 2) 10 8 [.ref p, Jk, Jk, Jk] [] (mk S') ∧ HR S' p (iter (a 0 3) comeA a) ∧ Fr p S S' := by
  have h6 := hw.1
  have h9 := hw.2.1
  have ht := hw.2.2.2.1
  intro n
  induction n with
  | zero =>
    intro k S hk h
    refine ⟨S, ?_, ?_, Fr.rf _ _⟩
    · rw [e10_6]
      simp only [Hg h.1, oB_s, h.2.1 3 (by omega)]
      rw [iterC_c (by omega), if_pos (by rw [show k = a 0 3 by omega]; exact nI_le (by omega) (by omega))]
    · rw [show a 0 3 = k by omega]; exact h
  | succ n ih =>
    intro k S hk h
    have hp := h.1
    have hwk := WF_iterC hw k (by omega)
    have c0 : ∀ j, (iter k comeA a) 0 j = a 0 j := fun j => by rw [iterC_c (by omega)]
    have c2 : (iter k comeA a) 2 = a 2 := iterC_c (by omega) k
    have c4 : (iter k comeA a) 4 = a 4 := iterC_c (by omega) k
    have c8 : (iter k comeA a) 8 = a 8 := iterC_c (by omega) k
    have hi : a 8 k < a 0 3 := (hw.2.2.2.2.2 k (by omega)).2.2.2.2.2.2.2
    obtain ⟨i, hie⟩ : ∃ i, i = a 8 k := ⟨_, rfl⟩
    rw [← hie] at hi
    obtain ⟨w1, w2, w3, w4, w5, w6, w7, w8⟩ := hw.2.2.2.2.2 i hi
    have h5 : (iter k comeA a) 5 i = a 5 i := iterC_5 k (fun j hj e => by have := hrk j k (by omega) (by omega) (e.trans hie); omega)
    have hcome : iter (k + 1) comeA a = if a 5 i = 20 ∧ (a 0 4).testBit i = false ∧ a 4 i ≤ a 0 2 ∧ roomS (iter k comeA a) i (a 2 i) = true then upA (iter k comeA a) 5 i (a 2 i) else iter k comeA a := by
      show comeA k (iter k comeA a) = _
      have key : ∀ X : Hs, X 8 = a 8 → X 5 i = a 5 i → (∀ j, X 0 j = a 0 j) → X 4 = a 4 → X 2 = a 2 → comeA k X = if a 5 i = 20 ∧ (a 0 4).testBit i = false ∧ a 4 i ≤ a 0 2 ∧ roomS X i (a 2 i) = true then upA X 5 i (a 2 i) else X := by
        intro X x8 x5 x0 x4 x2
        unfold comeA
        rw [x8, ← hie, x5, x0 4, x0 2, x4, x2]
      exact key _ c8 h5 c0 c4 c2
    rw [e10_6]
    simp only [Hg hp, oB_s, h.2.1 3 (by omega), c0]
    rw [if_neg (nI_ge (by omega) (by omega))]
    by_cases hz : C = 0
    · rw [if_pos (by rw [hz]; rfl)]
      refine ⟨S, rfl, ?_, Fr.rf _ _⟩
      have hn : ∀ m, m ≤ a 0 3 → iter m comeA a = a := come_none (fun j hj q => by
        have := hCb j hj
        rw [hz, Nat.zero_testBit, q.1, q.2] at this
        simp at this) (fun m hm => (hw.2.2.2.2.2 m hm).2.2.2.2.2.2.2)
      rw [hn _ (Nat.le_refl _), ← hn k (by omega)]
      exact h
    · rw [if_neg (nI_ne0 (Nat.pos_of_ne_zero hz) (by omega))]
      simp only [oB_s, fun S => HA hp S (show k < 6 by omega), pl_I h (show 1 ≤ 8 by omega) (show 8 ≤ 8 by omega) (show k < 6 by omega), c8, ← hie, bit_I C hC i (by omega)]
      have next : ∀ S1, HR S1 p (iter (k + 1) comeA a) → Fr p S S1 → ∃ S', EX sc (d + 2) 10 7 [.ref p, .int (nI C), .int (nI k), Jk] [] (mk S1) = EX sc (d + 2) 10 8 [.ref p, Jk, Jk, Jk] [] (mk S') ∧ HR S' p (iter (a 0 3) comeA a) ∧ Fr p S S' := by
        intro S1 hS1 hf1
        rw [e10_7, nI_1]
        obtain ⟨S2, m1, m2, m3⟩ := ih (k + 1) S1 (by omega) hS1
        exact ⟨S2, m1, m2, hf1.tr m3⟩
      by_cases hb : a 5 i = 20 ∧ (a 0 4).testBit i = false
      · have hbit : C.testBit i = true := by rw [hCb i hi, hb.1, hb.2]; rfl
        rw [hbit, if_pos rfl, if_neg (show ¬ nI 1 = 0 by decide)]
        simp only [oB_s, fun S => HA hp S (show i < 6 by omega), pl_I h (show 1 ≤ 4 by omega) (show 4 ≤ 8 by omega) (show i < 6 by omega), pl_I h (show 1 ≤ 2 by omega) (show 2 ≤ 8 by omega) (show i < 6 by omega), c4, c2, h.2.1 2 (by omega), c0]
        have est : (nI (a 0 2) < nI (a 4 i)) ↔ a 0 2 < a 4 i := nI_ltI (by omega) (by omega)
        by_cases hst : a 4 i ≤ a 0 2
        · rw [if_neg (fun q => by have := est.mp q; omega), if_pos trivial]
          have hrm := hasRoom_eq h hwk (i := i) (q := a 2 i) (by rw [c0]; exact hi) (by omega) (by rw [h5]; omega) sc d
          rw [hrm, cI_s]
          by_cases hr : roomS (iter k comeA a) i (a 2 i) = true
          · rw [if_pos (Or.inr hr), if_neg (show ¬ (1 : Int32) = 0 by decide)]
            obtain ⟨S1, k1, k2, k3⟩ := moveTo_spec h hwk (i := i) (q := a 2 i) (by rw [c0]; exact hi) (by omega) sc d
            simp only [Hg hp, oB_s, fun S => HA hp S (show i < 6 by omega), pl_I h (show 1 ≤ 2 by omega) (show 2 ≤ 8 by omega) (show i < 6 by omega), c2, if_true, k1, cV_s]
            exact next S1 (by rw [hcome, if_pos ⟨hb.1, hb.2, hst, hr⟩]; exact k2) k3
          · have hn : ¬ (a 2 i = 21 ∨ roomS (iter k comeA a) i (a 2 i) = true) := by
              rintro (q | q)
              · omega
              · exact hr q
            rw [if_neg hn, if_pos rfl]
            exact next S (by rw [hcome, if_neg (fun q => hr q.2.2.2)]; exact h) (Fr.rf _ _)
        · rw [if_pos (est.mpr (by omega))]
          exact next S (by rw [hcome, if_neg (fun q => hst q.2.2.1)]; exact h) (Fr.rf _ _)
      · have hbit : C.testBit i = false := by
          rw [hCb i hi]
          by_cases q : a 5 i = 20
          · have : (a 0 4).testBit i = true := by
              cases hq : (a 0 4).testBit i with
              | true => rfl
              | false => exact absurd ⟨q, hq⟩ hb
            simp [this]
          · simp [q]
        rw [hbit, if_pos (show nI (if false = true then 1 else 0) = 0 from rfl)]
        exact next S (by rw [hcome, if_neg (fun q => hb ⟨q.1, q.2.1⟩)]; exact h) (Fr.rf _ _)
theorem tickOnce_spec {S : Nat → Nat → Int32} {p : Nat} {a : Hs} {B : Nat} (h : HR S p a) (hw : WFg B a) (hB : B + 60 ≤ 1000000) (hrk : RkOk a) (sc : Nat × (Nat → Int32)) (d : Nat) : ∃ S', EX sc (d + 3) 10 0 [.ref p, Jk, Jk, Jk] [] (mk S) = some (none, mk S') ∧ HR S' p (tickS a) ∧ Fr p S S' := by
  have h6 := hw.1
  have h9 := hw.2.1
  have hp := h.1
  rw [e10_0, show (0 : Int32) = nI 0 from rfl]
  obtain ⟨S1, k1, k2, k3⟩ := outer_spec hw hB sc d (a 0 0) 0 S (Nat.zero_add _) h
  rw [k1]
  have hw1 := WF_floors hw (a 0 0) (Nat.le_refl _)
  have c : ∀ c, c ≠ 5 ∧ c ≠ 6 ∧ c ≠ 7 → (iter (a 0 0) (floorA (a 5)) a) c = a c := fun c hc => iterG_c hc _
  have hly := ly_lt hw1.1 20
  have hnv := hw.2.2.2.2.1
  rw [e10_5]
  simp only [Hg hp, oB_s, show (20 : Int32) = nI 20 from rfl, fun S => HA2 hp S (show 20 < 22 by omega), k2.2.2.2.1 20 (by omega), k2.2.1 4 (by omega), c 0 (by omega), andn_I _ hly _ hnv]
  rw [show (0 : Int32) = nI 0 from rfl]
  have hrk1 : RkOk (iter (a 0 0) (floorA (a 5)) a) := by
    unfold RkOk
    rw [c 0 (by omega), c 8 (by omega)]
    exact hrk
  obtain ⟨S2, m1, m2, m3⟩ := come_spec (p := p) (C := ly (iter (a 0 0) (floorA (a 5)) a) 20 &&& (63 ^^^ a 0 4)) hw1 hrk1 (Nat.lt_of_le_of_lt Nat.and_le_left hly) (fun j hj => by
    rw [andn_bit hly, c 0 (by omega)]
    congr 1
    unfold ly
    rw [lyN_bit]
    simp [hj]) sc (d + 1) _ 0 S1 (Nat.zero_add _) k2
  rw [m1, e10_8]
  have ct : (iter (iter (a 0 0) (floorA (a 5)) a 0 3) comeA (iter (a 0 0) (floorA (a 5)) a)) 0 2 = a 0 2 := by rw [iterC_c (by omega), c 0 (by omega)]
  simp only [Hg hp, oB_s, m2.2.1 2 (by omega), ct, nI_1, Hp hp]
  refine ⟨_, rfl, ?_, k3.tr (m3.tr (fun k hk => up_row_ne (by omega)))⟩
  have := HR_sc m2 (j := 2) (v := a 0 2 + 1) (by omega)
  rw [c 0 (by omega)] at this
  exact this
theorem WF_tick {B : Nat} {a : Hs} (hw : WFg B a) (ht : a 0 2 < 5000) : WFg (B + 54) (tickS a) := by
  have h9 := hw.2.1
  have hw1 := WF_floors hw (a 0 0) (Nat.le_refl _)
  have c : ∀ c, c ≠ 5 ∧ c ≠ 6 ∧ c ≠ 7 → (iter (a 0 0) (floorA (a 5)) a) c = a c := fun c hc => iterG_c hc _
  have hw2 := WF_iterC hw1 (a 0 3) (by rw [c 0 (by omega)]; exact Nat.le_refl _)
  obtain ⟨g1, g2, g3, g4, g5, g6⟩ := hw2.mono (show B + 6 * a 0 0 ≤ B + 54 by omega)
  exact ⟨g1, g2, g3, by show a 0 2 + 1 ≤ 5000; omega, g5, g6⟩
theorem Rk_tick {a : Hs} (h : RkOk a) : RkOk (tickS a) := by
  have c : ∀ c, c ≠ 5 ∧ c ≠ 6 ∧ c ≠ 7 → (iter (a 0 0) (floorA (a 5)) a) c = a c := fun c hc => iterG_c hc _
  have h8 : (tickS a) 8 = a 8 := by
    show upA (iter (a 0 3) comeA (iter (a 0 0) (floorA (a 5)) a)) 0 2 _ 8 = _
    rw [upA_c (by omega), iterC_c (by omega), c 8 (by omega)]
  have h3 : (tickS a) 0 3 = a 0 3 := by
    show upA (iter (a 0 3) comeA (iter (a 0 0) (floorA (a 5)) a)) 0 2 _ 0 3 = _
    rw [upA_ne (by omega), iterC_c (by omega), c 0 (by omega)]
  unfold RkOk
  rw [h8, h3]
  exact h
