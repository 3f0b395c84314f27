/-! lost: powers, the greatest divisor -/
theorem power_eq (S : Nat → Nat → Int32) {b e : Nat} (hb : b ≤ 10) (he : e ≤ 6) (sc : Nat × (Nat → Int32)) (d : Nat) : EX sc (d + 1) 50 0 [.int (nI b), .int (nI e), Jk, Jk, Jk] [] (mk S) = some (some (.long (lN (b ^ e))), mk S) := by
  have loop : ∀ n k, k + n = e → EX sc (d + 1) 50 1 [.int (nI b), .int (nI e), .long (lN (b ^ k)), Jk, .int (nI k)] [] (mk S) = some (some (.long (lN (b ^ e))), mk S) := by
    intro n
    induction n with
    | zero =>
      intro k hk
      rw [e50_1, e50_2, if_pos (nI_le (by omega) (by omega)), show k = e by omega]
    | succ n ih =>
      intro k hk
      rw [e50_1, if_neg (nI_ge (by omega) (by omega)), nI_l (by omega), lN_mul, nI_1, ← Nat.pow_succ]
      exact ih (k + 1) (by omega)
  rw [e50_0]
  exact loop e 0 (by omega)
theorem mod_half {r m : Nat} (hm : 0 < m) (h : m < r) : 2 * (r % m) < r := by
  have h1 : r % m < m := Nat.mod_lt _ hm
  by_cases c : 2 * m ≤ r
  · omega
  · have : r % m = r - m := by
      rw [Nat.mod_eq_sub_mod (by omega), Nat.mod_eq_of_lt (by omega)]
    omega
theorem gcdC (S : Nat → Nat → Int32) (sc : Nat × (Nat → Int32)) (d : Nat) : ∀ (k t g r : Nat), r < 2 ^ k → k ≤ 40 → t + 2 * k ≤ 200 → g < 2 ^ 40 → EX sc (d + 1) 51 1 [Jk, Jk, Jk, Jk, .long (lN g), Jk, .long (lN r), Jk, .int (nI t), Jk, Jk] [] (mk S) = EX sc (d + 1) 51 2 [Jk, Jk, Jk, Jk, .long (lN (Nat.gcd g r)), Jk, Jk, Jk, Jk, Jk, Jk] [] (mk S) := by
  have fin : ∀ t g, EX sc (d + 1) 51 1 [Jk, Jk, Jk, Jk, .long (lN g), Jk, .long (lN 0), Jk, .int (nI t), Jk, Jk] [] (mk S) = EX sc (d + 1) 51 2 [Jk, Jk, Jk, Jk, .long (lN g), Jk, Jk, Jk, Jk, Jk, Jk] [] (mk S) := by
    intro t g
    rw [e51_1, if_pos (show lg_cmp (lN 0) 0 ≤ 0 by decide)]
    split <;> rfl
  have step : ∀ t g r, 0 < r → t < 200 → g < 2 ^ 40 → r < 2 ^ 40 → EX sc (d + 1) 51 1 [Jk, Jk, Jk, Jk, .long (lN g), Jk, .long (lN r), Jk, .int (nI t), Jk, Jk] [] (mk S) = EX sc (d + 1) 51 1 [Jk, Jk, Jk, Jk, .long (lN r), Jk, .long (lN (g % r)), Jk, .int (nI (t + 1)), Jk, Jk] [] (mk S) := by
    intro t g r hr ht hg hr2
    have n1 : ¬ lg_cmp (lN r) 0 ≤ 0 := fun q => by
      have := (pk_lLE (a := r) (b := 0) (by omega) (by omega)).mp ((lg_cmp_le _ _).mp q)
      omega
    have n2 : ¬ lN r = 0 := fun q => by
      have := (pk_lEQ (a := r) (b := 0) (by omega) (by omega)).mp q
      omega
    rw [e51_1, if_neg (show ¬ (200 : Int32) ≤ nI t from nI_ge (b := 200) ht (by omega)), if_neg n1, if_neg n2, pk_lRem (by omega) hr (by omega), nI_1]
  intro k
  induction k with
  | zero =>
    intro t g r hr _ ht hg
    rw [show r = 0 by omega, Nat.gcd_zero_right]
    exact fin t g
  | succ k ih =>
    intro t g r hr hk ht hg
    by_cases c : r = 0
    · rw [c, Nat.gcd_zero_right]; exact fin t g
    · have hp : 2 ^ (k + 1) ≤ 2 ^ 40 := Nat.pow_le_pow_right (by omega) (by omega)
      have hm : g % r < r := Nat.mod_lt _ (by omega)
      have e1 : Nat.gcd g r = Nat.gcd r (g % r) := by rw [Nat.gcd_comm g r, Nat.gcd_rec r g, Nat.gcd_comm]
      rw [step t g r (by omega) (by omega) hg (by omega), e1]
      by_cases c2 : g % r = 0
      · rw [c2, Nat.gcd_zero_right]; exact fin (t + 1) r
      · have hh := mod_half (show 0 < g % r by omega) hm
        have e2 : Nat.gcd r (g % r) = Nat.gcd (g % r) (r % (g % r)) := by rw [Nat.gcd_comm r (g % r), Nat.gcd_rec (g % r) r, Nat.gcd_comm]
        rw [step (t + 1) r (g % r) (by omega) (by omega) (by omega) (by omega), e2]
        exact ih (t + 1 + 1) (g % r) (r % (g % r)) (by rw [Nat.pow_succ] at hr; omega) (by omega) (by omega) (by omega)
