/-! a house in plain numbers: a 0 = (floors, width, tick, letters, never posted), a 1 kinds, a 2 posted at, a 3 thick, a 4 start, a 5 place (20 waits, 21 box), a 6 stuck, a 7 run, a 8 rank -/
abbrev Hs : Type := Nat → Nat → Nat
def upA (a : Hs) (c j v : Nat) : Hs := fun c' j' => if c' = c ∧ j' = j then v else a c' j'
theorem upA_at (a : Hs) (c j v c' j' : Nat) : upA a c j v c' j' = if c' = c ∧ j' = j then v else a c' j' := rfl
theorem upA_same (a : Hs) (c j v : Nat) : upA a c j v c j = v := by rw [upA_at, if_pos ⟨rfl, rfl⟩]
theorem upA_c {a : Hs} {c j v c' : Nat} (h : c' ≠ c) : upA a c j v c' = a c' := funext fun j' => by rw [upA_at, if_neg (fun q => h q.1)]
theorem upA_ne {a : Hs} {c j v c' j' : Nat} (h : ¬ (c' = c ∧ j' = j)) : upA a c j v c' j' = a c' j' := by rw [upA_at, if_neg h]
def iter {α : Type} : Nat → (Nat → α → α) → α → α
  | 0, _, a => a
  | n + 1, g, a => g n (iter n g a)
/-- the letters at a place, as bits; how thick they are together -/
def lyN (pl : Nat → Nat) (q : Nat) : Nat → Nat
  | 0 => 0
  | n + 1 => lyN pl q n + if pl n = q then 2 ^ n else 0
def ldN (pl th : Nat → Nat) (q : Nat) : Nat → Nat
  | 0 => 0
  | n + 1 => ldN pl th q n + if pl n = q then th n else 0
def ly (a : Hs) (q : Nat) : Nat := lyN (a 5) q (a 0 3)
def ld (a : Hs) (q : Nat) : Nat := ldN (a 5) (a 3) q (a 0 3)
theorem lyN_lt (pl : Nat → Nat) (q : Nat) : ∀ n, lyN pl q n < 2 ^ n
  | 0 => by simp [lyN]
  | n + 1 => by
    have := lyN_lt pl q n
    unfold lyN
    rw [Nat.pow_succ]
    split <;> omega
theorem lyN_bit (pl : Nat → Nat) (q : Nat) : ∀ n i, (lyN pl q n).testBit i = (decide (i < n) && decide (pl i = q))
  | 0, i => by simp [lyN]
  | n + 1, i => by
    have hlt := lyN_lt pl q n
    have ih := lyN_bit pl q n i
    unfold lyN
    split
    · next h =>
      rw [Nat.add_comm]
      by_cases hi : i = n
      · subst hi
        rw [Nat.testBit_two_pow_add_eq, ih]
        simp [h]
      · by_cases h2 : i < n
        · rw [Nat.testBit_two_pow_add_gt h2, ih]
          simp [h2, Nat.lt_succ_of_lt h2]
        · have h3 : n < i := by omega
          have h4 : 2 ^ n + lyN pl q n < 2 ^ i := by
            have : 2 ^ (n + 1) ≤ 2 ^ i := Nat.pow_le_pow_right (by omega) h3
            rw [Nat.pow_succ] at this
            omega
          rw [Nat.testBit_lt_two_pow h4]
          simp [show ¬ i < n + 1 by omega]
    · next h =>
      rw [Nat.add_zero, ih]
      by_cases hi : i = n
      · subst hi; simp [h]
      · have : (i < n + 1) ↔ i < n := by omega
        simp [this]
theorem lyN_64 {pl : Nat → Nat} {q n : Nat} (h : n ≤ 6) : lyN pl q n < 64 := Nat.lt_of_lt_of_le (lyN_lt pl q n) (by have : 2 ^ n ≤ 2 ^ 6 := Nat.pow_le_pow_right (by omega) h; omega)
theorem ldN_le {pl th : Nat → Nat} {q B : Nat} : ∀ n, (∀ i, i < n → th i ≤ B) → ldN pl th q n ≤ n * B
  | 0, _ => by simp [ldN]
  | n + 1, h => by
    have ih := ldN_le (pl := pl) (q := q) n (fun i hi => h i (by omega))
    have := h n (by omega)
    unfold ldN
    rw [Nat.succ_mul]
    split <;> omega
/-- one bit cleared, one set: six bits -/
def clrB (b i : Nat) : Nat := b &&& (63 ^^^ 2 ^ i)
def setB (b i : Nat) : Nat := b ||| 2 ^ i
theorem clr_I : ∀ b, b < 64 → ∀ i, i < 6 → nI b &&& ((1 <<< (nI i &&& 31)) ^^^ (-1)) = nI (clrB b i) := by decide +kernel
theorem set_I : ∀ b, b < 64 → ∀ i, i < 6 → nI b ||| (1 <<< (nI i &&& 31)) = nI (setB b i) := by decide +kernel
theorem bit_I : ∀ b, b < 64 → ∀ i, i < 6 → (nI b >>> (nI i &&& 31)) &&& 1 = nI (if b.testBit i then 1 else 0) := by decide +kernel
theorem shr_I : ∀ b, b < 64 → ∀ i, i < 6 → nI b >>> (nI i &&& 31) = nI (b / 2 ^ i) := by decide +kernel
theorem one_I : ∀ i, i < 6 → (1 : Int32) <<< (nI i &&& 31) = nI (2 ^ i) := by decide +kernel
theorem clr_bit (b i j : Nat) (hb : b < 64) : (clrB b i).testBit j = (b.testBit j && !decide (j = i)) := by
  unfold clrB
  rw [Nat.testBit_and, Nat.testBit_xor]
  by_cases hj : j < 6
  · have h63 : (63 : Nat).testBit j = true := by
      have : ∀ j, j < 6 → (63 : Nat).testBit j = true := by decide
      exact this j hj
    rw [h63, Nat.testBit_two_pow]
    by_cases e : i = j
    · subst e; simp
    · have e' : ¬ j = i := fun q => e q.symm
      simp [e, e']
  · have : b.testBit j = false := Nat.testBit_lt_two_pow (Nat.lt_of_lt_of_le hb (by have : 2 ^ 6 ≤ 2 ^ j := Nat.pow_le_pow_right (by omega) (by omega); omega))
    simp [this]
theorem set_bit (b i j : Nat) : (setB b i).testBit j = (b.testBit j || decide (j = i)) := by
  unfold setB
  rw [Nat.testBit_or, Nat.testBit_two_pow]
  by_cases e : i = j
  · subst e; simp
  · have e' : ¬ j = i := fun q => e q.symm
    simp [e, e']
theorem clr_64 {b i : Nat} (hb : b < 64) : clrB b i < 64 := Nat.lt_of_le_of_lt Nat.and_le_left hb
theorem set_64 {b i : Nat} (hb : b < 64) (hi : i < 6) : setB b i < 64 := Nat.or_lt_two_pow (n := 6) hb (Nat.pow_lt_pow_right (by omega) hi)
/-- a letter moved: the bits of the places -/
theorem ly_move {a : Hs} {i q : Nat} (hi : i < a 0 3) (hL : a 0 3 ≤ 6) (q' : Nat) : ly (upA a 5 i q) q' = if q' = q then setB (if q' = a 5 i then clrB (ly a q') i else ly a q') i else if q' = a 5 i then clrB (ly a q') i else ly a q' := by
  have hb : ly a q' < 64 := lyN_64 hL
  apply Nat.eq_of_testBit_eq
  intro j
  have e1 : (ly (upA a 5 i q) q').testBit j = (decide (j < a 0 3) && decide ((if j = i then q else a 5 j) = q')) := by
    unfold ly
    rw [upA_ne (c' := 0) (by omega), lyN_bit]
    congr 2
    rw [upA_at]
    by_cases h : j = i <;> simp [h]
  have e2 : (ly a q').testBit j = (decide (j < a 0 3) && decide (a 5 j = q')) := lyN_bit _ _ _ _
  rw [e1]
  by_cases hj : j = i
  · subst hj
    by_cases h1 : q' = q
    · subst h1
      rw [if_pos rfl, if_pos rfl, set_bit]
      simp [hi]
    · have h1' : ¬ q = q' := fun e => h1 e.symm
      rw [if_neg h1]
      by_cases h2 : q' = a 5 j
      · rw [if_pos h2, clr_bit _ _ _ hb]; simp [h1']
      · have h2' : ¬ a 5 j = q' := fun e => h2 e.symm
        rw [if_neg h2, e2]; simp [h1', h2']
  · rw [if_neg hj]
    by_cases h1 : q' = q
    · rw [if_pos h1, set_bit]
      by_cases h2 : q' = a 5 i
      · rw [if_pos h2, clr_bit _ _ _ hb, e2]; simp [hj]
      · rw [if_neg h2, e2]; simp [hj]
    · rw [if_neg h1]
      by_cases h2 : q' = a 5 i
      · rw [if_pos h2, clr_bit _ _ _ hb, e2]; simp [hj]
      · rw [if_neg h2, e2]
theorem ldN_move (pl th : Nat → Nat) (i q q' : Nat) : ∀ n, ldN (fun j => if j = i then q else pl j) th q' n + (if i < n ∧ pl i = q' then th i else 0) = ldN pl th q' n + (if i < n ∧ q = q' then th i else 0)
  | 0 => by simp [ldN]
  | n + 1 => by
    have ih := ldN_move pl th i q q' n
    unfold ldN
    by_cases h : n = i
    · subst h
      have e1 : ¬ n < n := by omega
      simp only [e1, false_and, if_false, Nat.add_zero] at ih
      simp only [if_true, Nat.lt_succ_self, true_and]
      rw [ih]
      omega
    · have e2 : (i < n + 1) ↔ i < n := by omega
      simp only [if_neg h, e2]
      omega
theorem ldN_congr {pl pl' th th' : Nat → Nat} {q : Nat} : ∀ n, (∀ i, i < n → pl i = pl' i ∧ th i = th' i) → ldN pl th q n = ldN pl' th' q n
  | 0, _ => rfl
  | n + 1, h => by
    unfold ldN
    rw [ldN_congr n (fun i hi => h i (by omega)), (h n (by omega)).1, (h n (by omega)).2]
theorem lyN_congr {pl pl' : Nat → Nat} {q : Nat} : ∀ n, (∀ i, i < n → pl i = pl' i) → lyN pl q n = lyN pl' q n
  | 0, _ => rfl
  | n + 1, h => by
    unfold lyN
    rw [lyN_congr n (fun i hi => h i (by omega)), h n (by omega)]
theorem ld_move {a : Hs} {i q : Nat} (hi : i < a 0 3) (q' : Nat) : ld (upA a 5 i q) q' + (if a 5 i = q' then a 3 i else 0) = ld a q' + (if q = q' then a 3 i else 0) := by
  have := ldN_move (a 5) (a 3) i q q' (a 0 3)
  simp only [hi, true_and] at this
  unfold ld
  rw [upA_ne (c' := 0) (by omega), upA_c (c' := 3) (by omega)]
  rw [← this]
  congr 1
  exact ldN_congr _ fun j _ => ⟨by rw [upA_at]; by_cases h : j = i <;> simp [h], rfl⟩
theorem ld_ge {a : Hs} {i : Nat} (hi : i < a 0 3) : a 3 i ≤ ld a (a 5 i) := by
  have h : ∀ n, i < n → a 3 i ≤ ldN (a 5) (a 3) (a 5 i) n := by
    intro n
    induction n with
    | zero => intro h; omega
    | succ n ih =>
      intro h
      unfold ldN
      by_cases e : i = n
      · subst e; simp
      · have := ih (by omega)
        omega
  exact h _ hi
