/-! the class's House: the rest -/
theorem vup_ne {α : Type} {f : Nat → α} {k j : Nat} {v : α} (h : j ≠ k) : va_up f k v j = f j := by
  unfold va_up
  rw [if_neg h]
/-- a row of a house copied -/
def cpRow (p q o N : Nat) (T : Nat → Nat → Int32) : Nat → Nat → Int32 := va_up T (p + o) (va_cpy (T (q + o)) (T (p + o)) 0 0 N)
theorem cpRow_ne {p q o N k : Nat} {T : Nat → Nat → Int32} (h : k ≠ p + o) : cpRow p q o N T k = T k := vup_ne h
theorem cpRow_at {p q o N j : Nat} {T : Nat → Nat → Int32} (h : j < N) : cpRow p q o N T (p + o) j = T (q + o) j := by
  unfold cpRow
  rw [vup_at, pk_cpy_in (by omega) (by omega)]
  congr 1
  omega
theorem cp_6 {S : Nat → Nat → Int32} {p q o : Nat} (hp : isH p) (hq : isH q) (h1 : 1 ≤ o) (h2 : o ≤ 8) : cpA (mk S) (q + o) 0 (p + o) 0 6 = some (mk (cpRow p q o 6 S)) := cp_at (AL_6 hq h1 h2) (AL_6 hp h1 h2) (a := 0) (b := 0) (n := 6) (by omega) (by omega) (by omega) (by omega)
theorem cp_22 {S : Nat → Nat → Int32} {p q o : Nat} (hp : isH p) (hq : isH q) (h1 : 9 ≤ o) (h2 : o ≤ 10) : cpA (mk S) (q + o) 0 (p + o) 0 22 = some (mk (cpRow p q o 22 S)) := cp_at (AL_22 hq h1 h2) (AL_22 hp h1 h2) (a := 0) (b := 0) (n := 22) (by omega) (by omega) (by omega) (by omega)
theorem copyFrom_eq {S : Nat → Nat → Int32} {p q : Nat} (hp : isH p) (hq : isH q) (hne : p + 10 < q ∨ q + 10 < p) (sc : Nat × (Nat → Int32)) (d : Nat) : ∃ S', EX sc (d + 1) 9 0 [.ref p, .ref q] [] (mk S) = some (none, mk S') ∧ Fr p S S' ∧ (∀ j, j < 5 → S' p j = S q j) ∧ (∀ o j, 1 ≤ o → o ≤ 8 → j < 6 → S' (p + o) j = S (q + o) j) ∧ (∀ o j, 9 ≤ o → o ≤ 10 → j < 22 → S' (p + o) j = S (q + o) j) := by
  rw [e9_0]
  simp (disch := omega) only [Hg hp, Hg hq, oB_s, fun S x => Hp hp S x, fun S => @cp_6 S p q 1 hp hq, fun S => @cp_6 S p q 2 hp hq, fun S => @cp_6 S p q 3 hp hq, fun S => @cp_6 S p q 4 hp hq, fun S => @cp_6 S p q 5 hp hq, fun S => @cp_6 S p q 6 hp hq, fun S => @cp_6 S p q 7 hp hq, fun S => @cp_6 S p q 8 hp hq, fun S => @cp_22 S p q 9 hp hq, fun S => @cp_22 S p q 10 hp hq]
  refine ⟨_, rfl, fun k hk => ?_, fun j hj => ?_, fun o j h1 h2 hj => ?_, fun o j h1 h2 hj => ?_⟩
  · simp (disch := omega) only [cpRow_ne, up_row_ne]
  · simp (disch := omega) only [cpRow_ne, up_at, true_and, show ¬ q = p by omega, false_and, if_false]
    match j, hj with
    | 0, _ => rfl
    | 1, _ => rfl
    | 2, _ => rfl
    | 3, _ => rfl
    | 4, _ => rfl
  · have oc : o = 1 ∨ o = 2 ∨ o = 3 ∨ o = 4 ∨ o = 5 ∨ o = 6 ∨ o = 7 ∨ o = 8 := by omega
    rcases oc with e | e | e | e | e | e | e | e <;> subst e
    all_goals simp (disch := omega) only [cpRow_ne, cpRow_at, up_row_ne]
  · have oc : o = 9 ∨ o = 10 := by omega
    rcases oc with e | e <;> subst e
    all_goals simp (disch := omega) only [cpRow_ne, cpRow_at, up_row_ne]
theorem copyFrom_spec {S : Nat → Nat → Int32} {p q : Nat} {a : Hs} (h : HR S q a) (hp : isH p) (hne : p + 10 < q ∨ q + 10 < p) (sc : Nat × (Nat → Int32)) (d : Nat) : ∃ S', EX sc (d + 1) 9 0 [.ref p, .ref q] [] (mk S) = some (none, mk S') ∧ HR S' p a ∧ Fr p S S' := by
  obtain ⟨S', k1, k2, k3, k4, k5⟩ := copyFrom_eq (S := S) hp h.1 hne sc d
  obtain ⟨hq, g0, g1, g2, g3⟩ := h
  exact ⟨S', k1, ⟨hp, fun j hj => by rw [k3 j hj, g0 j hj], fun o j h1 h2 hj => by rw [k4 o j h1 h2 hj, g1 o j h1 h2 hj], fun r hr => by rw [k5 9 r (by omega) (by omega) hr, g2 r hr], fun r hr => by rw [k5 10 r (by omega) (by omega) hr, g3 r hr]⟩, k2⟩
/-- another's house stays as it is -/
theorem HR.fr {S S' : Nat → Nat → Int32} {p q : Nat} {a : Hs} (h : HR S q a) (hf : Fr p S S') (hne : p + 10 < q ∨ q + 10 < p) : HR S' q a := by
  obtain ⟨hq, g0, g1, g2, g3⟩ := h
  have e : ∀ o, o ≤ 10 → S' (q + o) = S (q + o) := fun o ho => hf _ (by omega)
  have e0 : S' q = S q := e 0 (by omega)
  exact ⟨hq, fun j hj => by rw [e0]; exact g0 j hj, fun o j h1 h2 hj => by rw [e o (by omega)]; exact g1 o j h1 h2 hj, fun r hr => by rw [e 9 (by omega)]; exact g2 r hr, fun r hr => by rw [e 10 (by omega)]; exact g3 r hr⟩
theorem isInShaft_eq {S : Nat → Nat → Int32} {p : Nat} {a : Hs} {B : Nat} (h : HR S p a) (hw : WFg B a) {i : Nat} (hi : i < a 0 3) (sc : Nat × (Nat → Int32)) (d : Nat) : EX sc (d + 1) 19 0 [.ref p, .int (nI i)] [] (mk S) = some (some (.int (if a 5 i < 20 then 1 else 0)), mk S) := by
  have h6 := hw.1
  have h22 := pl_22 hw hi
  have h9 := hw.2.1
  have hpl := (hw.2.2.2.2.2 i hi).2.2.2.2.1
  rw [e19_0, e19_1]
  simp only [Hg h.1, oB_s, fun S => HA h.1 S (show i < 6 by omega), pl_I h (show 1 ≤ 5 by omega) (show 5 ≤ 8 by omega) (show i < 6 by omega), or_true, true_or, if_true]
  have e20 : (nI (a 5 i) = 20) ↔ a 5 i = 20 := nI_eq (b := 20) (by omega) (by omega)
  have e21 : (nI (a 5 i) = 21) ↔ a 5 i = 21 := nI_eq (b := 21) (by omega) (by omega)
  simp only [e20, e21]
  by_cases c : a 5 i < 20
  · rw [if_neg (by omega), if_neg (by omega), if_pos c]
  · by_cases c2 : a 5 i = 20
    · rw [if_pos c2, if_neg c]
    · rw [if_neg c2, if_pos (by omega), if_neg c]
theorem all_I : ∀ n, n ≤ 6 → ((1 : Int32) <<< (nI n &&& 31)) - 1 = nI (2 ^ n - 1) := by decide +kernel
/-- the letters outside the box, those in the shaft -/
def outB (a : Hs) : Nat := (2 ^ (a 0 3) - 1) &&& (63 ^^^ ly a 21)
def shfB (a : Hs) : Nat := outB a &&& (63 ^^^ ly a 20)
theorem two63 {n : Nat} (h : n ≤ 6) : 2 ^ n - 1 < 64 := by
  have : 2 ^ n ≤ 2 ^ 6 := Nat.pow_le_pow_right (by omega) h
  omega
theorem outB_lt {a : Hs} (h6 : a 0 3 ≤ 6) : outB a < 64 := Nat.lt_of_le_of_lt Nat.and_le_left (two63 h6)
theorem shfB_lt {a : Hs} (h6 : a 0 3 ≤ 6) : shfB a < 64 := Nat.lt_of_le_of_lt Nat.and_le_left (outB_lt h6)
theorem outB_bit {a : Hs} (h6 : a 0 3 ≤ 6) (j : Nat) : (outB a).testBit j = (decide (j < a 0 3) && !decide (a 5 j = 21)) := by
  unfold outB
  rw [andn_bit (two63 h6), Nat.testBit_two_pow_sub_one]
  unfold ly
  rw [lyN_bit]
  cases decide (j < a 0 3) <;> simp
theorem shfB_bit {a : Hs} (h6 : a 0 3 ≤ 6) (j : Nat) : (shfB a).testBit j = (decide (j < a 0 3) && !decide (a 5 j = 21) && !decide (a 5 j = 20)) := by
  unfold shfB
  rw [andn_bit (outB_lt h6), outB_bit h6]
  unfold ly
  rw [lyN_bit]
  cases decide (j < a 0 3) <;> simp
theorem ly_bit (a : Hs) (q j : Nat) : (ly a q).testBit j = (decide (j < a 0 3) && decide (a 5 j = q)) := lyN_bit _ _ _ _
theorem allLetters_eq {S : Nat → Nat → Int32} {p : Nat} {a : Hs} (h : HR S p a) (h6 : a 0 3 ≤ 6) (sc : Nat × (Nat → Int32)) (d : Nat) : EX sc (d + 1) 20 0 [.ref p] [] (mk S) = some (some (.int (nI (2 ^ (a 0 3) - 1))), mk S) := by
  rw [e20_0]
  simp only [Hg h.1, oB_s, h.2.1 3 (by omega), all_I _ h6]
theorem lettersOutside_eq {S : Nat → Nat → Int32} {p : Nat} {a : Hs} (h : HR S p a) (h6 : a 0 3 ≤ 6) (sc : Nat × (Nat → Int32)) (d : Nat) : EX sc (d + 2) 21 0 [.ref p] [] (mk S) = some (some (.int (nI (outB a))), mk S) := by
  rw [e21_0]
  simp only [Hg h.1, oB_s, if_true, allLetters_eq h h6, cI_s, show (21 : Int32) = nI 21 from rfl, fun S => HA2 h.1 S (show 21 < 22 by omega), h.2.2.2.1 21 (by omega), andn_I _ (two63 h6) _ (ly_lt h6 21)]
  rfl
theorem lettersInShaft_eq {S : Nat → Nat → Int32} {p : Nat} {a : Hs} (h : HR S p a) (h6 : a 0 3 ≤ 6) (sc : Nat × (Nat → Int32)) (d : Nat) : EX sc (d + 3) 22 0 [.ref p] [] (mk S) = some (some (.int (nI (shfB a))), mk S) := by
  rw [e22_0]
  simp only [Hg h.1, oB_s, if_true, lettersOutside_eq h h6, cI_s, show (20 : Int32) = nI 20 from rfl, fun S => HA2 h.1 S (show 20 < 22 by omega), h.2.2.2.1 20 (by omega), andn_I _ (outB_lt h6) _ (ly_lt h6 20)]
  rfl
/-- how many bits of n -/
def bitN : Nat → Nat → Nat
  | 0, _ => 0
  | n + 1, x => x % 2 + bitN n (x / 2)
theorem bitN_le : ∀ n x, bitN n x ≤ n
  | 0, _ => by simp [bitN]
  | n + 1, x => by
    have := bitN_le n (x / 2)
    unfold bitN
    omega
theorem bitCount_eq (S : Nat → Nat → Int32) {x : Nat} (hx : x < 64) (sc : Nat × (Nat → Int32)) (d : Nat) : EX sc (d + 1) 228 0 [.int (nI x)] [] (mk S) = some (some (.int (nI (bitN 6 x))), mk S) := by
  rw [e228_0]
  refine congrArg (fun r => some (some (Value.int r), mk S)) ?_
  revert x
  decide +kernel
theorem lettersBoxed_eq {S : Nat → Nat → Int32} {p : Nat} {a : Hs} (h : HR S p a) (h6 : a 0 3 ≤ 6) (sc : Nat × (Nat → Int32)) (d : Nat) : EX sc (d + 2) 23 0 [.ref p] [] (mk S) = some (some (.int (nI (bitN 6 (ly a 21)))), mk S) := by
  rw [e23_0]
  simp only [Hg h.1, oB_s, show (21 : Int32) = nI 21 from rfl, fun S => HA2 h.1 S (show 21 < 22 by omega), h.2.2.2.1 21 (by omega), bitCount_eq S (ly_lt h6 21), cI_s]
/-- sums over the letters -/
def sumN (f : Nat → Nat) : Nat → Nat
  | 0 => 0
  | n + 1 => sumN f n + f n
theorem sumN_le {f : Nat → Nat} {B : Nat} : ∀ n, (∀ i, i < n → f i ≤ B) → sumN f n ≤ n * B
  | 0, _ => by simp [sumN]
  | n + 1, h => by
    have := sumN_le n (fun i hi => h i (by omega))
    have := h n (by omega)
    unfold sumN
    rw [Nat.succ_mul]
    omega
theorem sumN_congr {f g : Nat → Nat} : ∀ n, (∀ i, i < n → f i = g i) → sumN f n = sumN g n
  | 0, _ => rfl
  | n + 1, h => by
    unfold sumN
    rw [sumN_congr n (fun i hi => h i (by omega)), h n (by omega)]
theorem stuckTogether_eq {S : Nat → Nat → Int32} {p : Nat} {a : Hs} (h : HR S p a) (h6 : a 0 3 ≤ 6) (sc : Nat × (Nat → Int32)) (d : Nat) : EX sc (d + 1) 24 0 [.ref p, Jk, Jk] [] (mk S) = some (some (.int (nI (sumN (a 6) (a 0 3)))), mk S) := by
  have loop : ∀ n i, i + n = a 0 3 → EX sc (d + 1) 24 1 [.ref p, .int (nI (sumN (a 6) i)), .int (nI i)] [] (mk S) = some (some (.int (nI (sumN (a 6) (a 0 3)))), mk S) := by
    intro n
    induction n with
    | zero =>
      intro i hi
      rw [e24_1, e24_2]
      simp only [Hg h.1, oB_s, h.2.1 3 (by omega)]
      rw [if_pos (nI_le (by omega) (by omega)), show i = a 0 3 by omega]
    | succ n ih =>
      intro i hi
      rw [e24_1]
      simp only [Hg h.1, oB_s, h.2.1 3 (by omega), fun S => HA h.1 S (show i < 6 by omega), pl_I h (show 1 ≤ 6 by omega) (show 6 ≤ 8 by omega) (show i < 6 by omega), nI_add, nI_1]
      rw [if_neg (nI_ge (by omega) (by omega))]
      exact ih (i + 1) (by omega)
  rw [e24_0]
  exact loop (a 0 3) 0 (by omega)
def thkB (a : Hs) (x i : Nat) : Nat := if x.testBit i then a 3 i else 0
theorem thickTogether_eq {S : Nat → Nat → Int32} {p : Nat} {a : Hs} (h : HR S p a) (h6 : a 0 3 ≤ 6) {x : Nat} (hx : x < 64) (sc : Nat × (Nat → Int32)) (d : Nat) : EX sc (d + 1) 25 0 [.ref p, .int (nI x), Jk, Jk] [] (mk S) = some (some (.int (nI (sumN (thkB a x) (a 0 3)))), mk S) := by
  have loop : ∀ n i, i + n = a 0 3 → EX sc (d + 1) 25 1 [.ref p, .int (nI x), .int (nI (sumN (thkB a x) i)), .int (nI i)] [] (mk S) = some (some (.int (nI (sumN (thkB a x) (a 0 3)))), mk S) := by
    intro n
    induction n with
    | zero =>
      intro i hi
      rw [e25_1, e25_3]
      simp only [Hg h.1, oB_s, h.2.1 3 (by omega)]
      rw [if_pos (nI_le (by omega) (by omega)), show i = a 0 3 by omega]
    | succ n ih =>
      intro i hi
      have hn := ih (i + 1) (by omega)
      rw [e25_1, e25_2]
      simp only [Hg h.1, oB_s, h.2.1 3 (by omega), fun S => HA h.1 S (show i < 6 by omega), pl_I h (show 1 ≤ 3 by omega) (show 3 ≤ 8 by omega) (show i < 6 by omega), nI_add, nI_1, bit_I x hx i (by omega)]
      rw [if_neg (nI_ge (by omega) (by omega))]
      cases hb : x.testBit i with
      | true =>
        rw [if_pos rfl, if_neg (by decide), e25_2, nI_1]
        rw [show sumN (thkB a x) (i + 1) = sumN (thkB a x) i + a 3 i from by show _ + thkB a x i = _; unfold thkB; rw [hb]; rfl] at hn
        exact hn
      | false =>
        rw [if_pos (show nI (if false = true then 1 else 0) = 0 from rfl)]
        rw [show sumN (thkB a x) (i + 1) = sumN (thkB a x) i from by show _ + thkB a x i = _; unfold thkB; rw [hb]; rfl] at hn
        exact hn
  rw [e25_0]
  exact loop (a 0 3) 0 (by omega)
/-! ticks one after another -/
def OkT (n : Nat) (a : Hs) : Prop := ∃ B, WFg B a ∧ B + 54 * n + 60 ≤ 1000000 ∧ a 0 2 + n ≤ 5000 ∧ RkOk a
theorem tickS_t (a : Hs) : (tickS a) 0 2 = a 0 2 + 1 := upA_same _ _ _ _
theorem tickS_c {a : Hs} {c : Nat} (h : c ≠ 0 ∧ c ≠ 5 ∧ c ≠ 6 ∧ c ≠ 7) : (tickS a) c = a c := by
  show upA (iter (a 0 3) comeA (iter (a 0 0) (floorA (a 5)) a)) 0 2 _ c = _
  rw [upA_c (by omega), iterC_c (by omega), iterG_c (by omega)]
theorem tickS_0 {a : Hs} {j : Nat} (h : j ≠ 2) : (tickS a) 0 j = a 0 j := by
  show upA (iter (a 0 3) comeA (iter (a 0 0) (floorA (a 5)) a)) 0 2 _ 0 j = _
  rw [upA_ne (by omega), iterC_c (by omega), iterG_c (by omega)]
theorem OkT.tick {n : Nat} {a : Hs} (h : OkT (n + 1) a) : OkT n (tickS a) := by
  obtain ⟨B, h1, h2, h3, h4⟩ := h
  refine ⟨B + 54, WF_tick h1 (by omega), by omega, ?_, Rk_tick h4⟩
  rw [tickS_t]
  omega
theorem OkT.le {n m : Nat} {a : Hs} (h : OkT n a) (hm : m ≤ n) : OkT m a := by
  obtain ⟨B, h1, h2, h3, h4⟩ := h
  exact ⟨B, h1, by omega, by omega, h4⟩
theorem OkT.l6 {n : Nat} {a : Hs} (h : OkT n a) : a 0 3 ≤ 6 := by
  obtain ⟨B, h1, h2, h3, h4⟩ := h
  exact h1.1
theorem tickT {S : Nat → Nat → Int32} {p n : Nat} {a : Hs} (h : HR S p a) (hw : OkT n a) (sc : Nat × (Nat → Int32)) (d : Nat) : ∃ S', EX sc (d + 3) 10 0 [.ref p, Jk, Jk, Jk] [] (mk S) = some (none, mk S') ∧ HR S' p (tickS a) ∧ Fr p S S' := by
  obtain ⟨B, h1, h2, h3, h4⟩ := hw
  exact tickOnce_spec h h1 (by omega) h4 sc d
theorem goTickT {S : Nat → Nat → Int32} {n : Nat} {a : Hs} (h : MR S a) (hw : OkT n a) (sc : Nat × (Nat → Int32)) (d : Nat) : ∃ S', EX sc (d + 5) 166 0 [.ref 359, Jk, Jk, Jk] [] (mk S) = some (none, mk S') ∧ MR S' (tickS a) ∧ FT S S' := by
  obtain ⟨B, h1, h2, h3, h4⟩ := hw
  exact goTick_spec h h1 (by omega) sc d
def tk : Nat → Hs → Hs
  | 0, a => a
  | n + 1, a => tk n (tickS a)
/-- as the class passes ticks: none when all are in the box -/
def ptk : Nat → Hs → Hs
  | 0, a => a
  | n + 1, a => if outB a = 0 then a else ptk n (tickS a)
theorem pass_spec {p : Nat} (N : Nat) (hN : N < 10000) (sc : Nat × (Nat → Int32)) (d : Nat) : ∀ (n k : Nat) (S : Nat → Nat → Int32) (a : Hs), k + n = N → HR S p a → OkT n a → ∃ S', EX sc (d + 4) 11 1 [.ref p, .int (nI N), .int (nI k)] [] (mk S) = some (none, mk S') ∧ HR S' p (ptk n a) ∧ Fr p S S' := by
  intro n
  induction n with
  | zero =>
    intro k S a hk h hw
    refine ⟨S, ?_, h, Fr.rf _ _⟩
    rw [e11_1, e11_2, if_pos (nI_le (by omega) (by omega))]
  | succ n ih =>
    intro k S a hk h hw
    rw [e11_1, e11_2, if_neg (nI_ge (by omega) (by omega))]
    simp only [Hg h.1, if_true, lettersOutside_eq h hw.l6, cI_s]
    unfold ptk
    have hlt := outB_lt hw.l6
    by_cases c : outB a = 0
    · rw [if_pos (by rw [c]; rfl), if_pos c, e11_2]
      exact ⟨S, rfl, h, Fr.rf _ _⟩
    · rw [if_neg (nI_ne0 (by omega) (by omega)), if_neg c]
      obtain ⟨S1, k1, k2, k3⟩ := tickT h hw sc d
      rw [k1, cV_s, nI_1]
      obtain ⟨S2, m1, m2, m3⟩ := ih (k + 1) S1 (tickS a) (by omega) k2 hw.tick
      exact ⟨S2, m1, m2, k3.tr m3⟩
theorem pass_eq {S : Nat → Nat → Int32} {p n : Nat} {a : Hs} (h : HR S p a) (hw : OkT n a) (hn : n < 10000) (sc : Nat × (Nat → Int32)) (d : Nat) : ∃ S', EX sc (d + 4) 11 0 [.ref p, .int (nI n), Jk] [] (mk S) = some (none, mk S') ∧ HR S' p (ptk n a) ∧ Fr p S S' := by
  rw [e11_0]
  exact pass_spec n hn sc d n 0 S a (by omega) h hw
