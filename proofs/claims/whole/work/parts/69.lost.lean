/-! lost: the chances -/
def chN (o s p : Nat) : Nat → Nat
  | 0 => 1
  | n + 1 => chN o s p n * (if o.testBit n then (if s.testBit n then p else 10 - p) else 1)
def chS (o p : Nat) : Nat → Nat
  | 0 => 0
  | n + 1 => chS o p n + if n &&& (63 ^^^ o) = 0 then chN o n p 6 else 0
theorem ch_pow : ∀ o, o < 64 → ∀ s, s < 64 → s &&& (63 ^^^ o) = 0 → ∀ p, p < 11 → chN o s p 6 = p ^ (bitN 6 s) * (10 - p) ^ (bitN 6 o - bitN 6 s) := by decide +kernel
theorem ch_sum : ∀ o, o < 64 → ∀ p, p < 11 → chS o p 64 = 10 ^ (bitN 6 o) := by decide +kernel
theorem ch_ext {o s p L : Nat} (h : o < 2 ^ L) : ∀ n, L ≤ n → chN o s p n = chN o s p L := by
  intro n
  induction n with
  | zero => intro hn; rw [show L = 0 by omega]
  | succ n ih =>
    intro hn
    by_cases e : L = n + 1
    · rw [e]
    · have hb : o.testBit n = false := Nat.testBit_lt_two_pow (Nat.lt_of_lt_of_le h (Nat.pow_le_pow_right (by omega) (by omega)))
      show chN o s p n * (if o.testBit n then (if s.testBit n then p else 10 - p) else 1) = _
      rw [hb, ih (by omega)]
      simp
