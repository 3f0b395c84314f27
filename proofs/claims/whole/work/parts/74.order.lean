/-! order: codes of orders -/
def cdN (L : Nat) (r : Nat → Nat) : Nat → Nat
  | 0 => 0
  | n + 1 => cdN L r n * L + r n
theorem cd_congr {L : Nat} {r r' : Nat → Nat} : ∀ n, (∀ j, j < n → r j = r' j) → cdN L r n = cdN L r' n
  | 0, _ => rfl
  | n + 1, h => by
    show cdN L r n * L + r n = cdN L r' n * L + r' n
    rw [h n (by omega), cd_congr n (fun j hj => h j (by omega))]
theorem cd_div {L : Nat} {r : Nat → Nat} (m : Nat) : ∀ n, (∀ j, j < m + n → r j < L) → cdN L r (m + n) / L ^ n = cdN L r m
  | 0, _ => by rw [Nat.pow_zero, Nat.div_one]; rfl
  | n + 1, h => by
    have hd := h (m + n) (by omega)
    show (cdN L r (m + n) * L + r (m + n)) / L ^ (n + 1) = _
    rw [Nat.pow_succ, Nat.mul_comm (L ^ n) L, ← Nat.div_div_eq_div_mul, Nat.mul_comm _ L, Nat.mul_add_div (by omega), Nat.div_eq_of_lt hd, Nat.add_zero, cd_div m n (fun j hj => h j (by omega))]
theorem pre_dig {L p : Nat} {t : Nat → Nat} {c j : Nat} (hp : p ≤ L) (ht : ∀ j, j < p → t j < L) (hc : c / L ^ (L - p) = cdN L t p) (hj : j < p) : dig L c j = t j := by
  unfold dig
  rw [show L - 1 - j = (L - p) + (p - 1 - j) by omega, Nat.pow_add, ← Nat.div_div_eq_div_mul, hc]
  have := cd_div (L := L) (r := t) (j + 1) (p - 1 - j) (fun i hi => ht i (by omega))
  rw [show j + 1 + (p - 1 - j) = p by omega] at this
  rw [this]
  show (cdN L t j * L + t j) % L = t j
  rw [Nat.mul_comm, Nat.mul_add_mod, Nat.mod_eq_of_lt (ht j hj)]
theorem dig_cd {L : Nat} {r : Nat → Nat} (h : ∀ j, j < L → r j < L) {k : Nat} (hk : k < L) : dig L (cdN L r L) k = r k :=
  pre_dig (Nat.le_refl _) h (by rw [Nat.sub_self, Nat.pow_zero, Nat.div_one]) hk
theorem dig_lt {L c k : Nat} (h : 0 < L) : dig L c k < L := Nat.mod_lt _ h
theorem cd_dig {L c : Nat} (hL : 0 < L) (hc : c < L ^ L) : ∀ m, m ≤ L → cdN L (dig L c) m = c / L ^ (L - m)
  | 0, _ => by
    rw [Nat.sub_zero, Nat.div_eq_of_lt hc]; rfl
  | m + 1, h => by
    show cdN L (dig L c) m * L + dig L c m = _
    rw [cd_dig hL hc m (by omega)]
    unfold dig
    rw [show L - m = (L - 1 - m) + 1 by omega, Nat.pow_succ, ← Nat.div_div_eq_div_mul, show L - (m + 1) = L - 1 - m by omega, Nat.mul_comm]
    exact Nat.div_add_mod _ _
theorem cd_dig' {L c : Nat} (hL : 0 < L) (hc : c < L ^ L) : cdN L (dig L c) L = c := by
  rw [cd_dig hL hc L (Nat.le_refl _), Nat.sub_self, Nat.pow_zero, Nat.div_one]
theorem cd_lt {L : Nat} {r r' : Nat → Nat} {k : Nat} (h1 : ∀ j, j < k → r' j = r j) (h2 : r' k < r k) : ∀ m, (∀ j, j < k + 1 + m → r' j < L) → cdN L r' (k + 1 + m) < cdN L r (k + 1 + m)
  | 0, _ => by
    show cdN L r' k * L + r' k < cdN L r k * L + r k
    rw [cd_congr k h1]
    omega
  | m + 1, h => by
    show cdN L r' (k + 1 + m) * L + r' (k + 1 + m) < cdN L r (k + 1 + m) * L + r (k + 1 + m)
    have ih := cd_lt h1 h2 m (fun j hj => h j (by omega))
    have hd := h (k + 1 + m) (by omega)
    have := Nat.mul_le_mul_right L (show cdN L r' (k + 1 + m) + 1 ≤ cdN L r (k + 1 + m) from ih)
    rw [Nat.add_mul, Nat.one_mul] at this
    omega
theorem cd_up {L : Nat} {r : Nat → Nat} (hL : 0 < L) : ∀ m, (∀ j, j < m → r j < L) → cdN L r m < L ^ m
  | 0, _ => by show 0 < L ^ 0; rw [Nat.pow_zero]; omega
  | m + 1, h => by
    show cdN L r m * L + r m < L ^ (m + 1)
    have ih := cd_up hL m (fun j hj => h j (by omega))
    have hd := h m (by omega)
    have := Nat.mul_le_mul_right L (show cdN L r m + 1 ≤ L ^ m from ih)
    rw [Nat.add_mul, Nat.one_mul] at this
    rw [Nat.pow_succ]
    omega
def Pm (L c : Nat) : Prop := hadN L c L = 2 ^ L - 1
theorem had_bit {L c b : Nat} : ∀ n, (hadN L c n).testBit b = true ↔ ∃ m, m < n ∧ dig L c (L - 1 - m) = b
  | 0 => by
    show (0 : Nat).testBit b = true ↔ _
    rw [Nat.zero_testBit]
    exact ⟨fun q => (by cases q), fun ⟨m, hm, _⟩ => (by omega)⟩
  | n + 1 => by
    show (hadN L c n ||| 2 ^ dig L c (L - 1 - n)).testBit b = true ↔ _
    rw [Nat.testBit_or, Bool.or_eq_true, had_bit n, Nat.testBit_two_pow, decide_eq_true_iff]
    constructor
    · rintro (⟨m, h1, h2⟩ | h)
      · exact ⟨m, by omega, h2⟩
      · exact ⟨n, by omega, h⟩
    · rintro ⟨m, h1, h2⟩
      by_cases e : m = n
      · rw [e] at h2; exact Or.inr h2
      · exact Or.inl ⟨m, by omega, h2⟩
theorem Pm_iff {L c : Nat} (hL : 0 < L) : Pm L c ↔ ∀ b, b < L → ∃ j, j < L ∧ dig L c j = b := by
  unfold Pm
  constructor
  · intro h b hb
    have : (hadN L c L).testBit b = true := by rw [h, Nat.testBit_two_pow_sub_one]; exact decide_eq_true hb
    obtain ⟨m, h1, h2⟩ := (had_bit L).mp this
    exact ⟨L - 1 - m, by omega, h2⟩
  · intro h
    apply Nat.eq_of_testBit_eq
    intro b
    rw [Nat.testBit_two_pow_sub_one]
    by_cases hb : b < L
    · rw [decide_eq_true hb]
      obtain ⟨j, h1, h2⟩ := h b hb
      exact (had_bit L).mpr ⟨L - 1 - j, by omega, by rw [show L - 1 - (L - 1 - j) = j by omega]; exact h2⟩
    · rw [decide_eq_false hb]
      cases e : (hadN L c L).testBit b with
      | false => rfl
      | true =>
        obtain ⟨m, h1, h2⟩ := (had_bit L).mp e
        have := dig_lt (L := L) (c := c) (k := L - 1 - m) hL
        omega
theorem bitN_or : ∀ x, x < 64 → ∀ d, d < 6 → bitN 6 (x ||| 2 ^ d) = bitN 6 x + if x.testBit d then 0 else 1 := by decide +kernel
theorem bitN_full : ∀ L, L < 7 → bitN 6 (2 ^ L - 1) = L := by decide +kernel
theorem bitN_all : ∀ x, x < 64 → ∀ L, L < 7 → x < 2 ^ L → bitN 6 x = L → x = 2 ^ L - 1 := by decide +kernel
theorem had_lt {L c : Nat} (hL : 0 < L) (h6 : L ≤ 6) : ∀ n, hadN L c n < 64
  | 0 => by show 0 < 64; omega
  | n + 1 => by
    show hadN L c n ||| 2 ^ dig L c (L - 1 - n) < 64
    have h1 := had_lt (c := c) hL h6 n
    have h2 : 2 ^ dig L c (L - 1 - n) < 2 ^ 6 := Nat.pow_lt_pow_right (by omega) (Nat.lt_of_lt_of_le (dig_lt hL) h6)
    exact Nat.or_lt_two_pow (n := 6) h1 h2
theorem had_le {L c : Nat} (hL : 0 < L) (h6 : L ≤ 6) : ∀ n, bitN 6 (hadN L c n) ≤ n
  | 0 => by show bitN 6 0 ≤ 0; decide
  | n + 1 => by
    show bitN 6 (hadN L c n ||| 2 ^ dig L c (L - 1 - n)) ≤ n + 1
    rw [bitN_or _ (had_lt hL h6 n) _ (Nat.lt_of_lt_of_le (dig_lt hL) h6)]
    have := had_le (c := c) hL h6 n
    split <;> omega
theorem had_dup {L c : Nat} (hL : 0 < L) (h6 : L ≤ 6) {m1 m2 : Nat} (h12 : m1 < m2) (he : dig L c (L - 1 - m1) = dig L c (L - 1 - m2)) : ∀ n, m2 < n → bitN 6 (hadN L c n) < n
  | 0, h => by omega
  | n + 1, h => by
    show bitN 6 (hadN L c n ||| 2 ^ dig L c (L - 1 - n)) < n + 1
    rw [bitN_or _ (had_lt hL h6 n) _ (Nat.lt_of_lt_of_le (dig_lt hL) h6)]
    by_cases e : m2 = n
    · have := had_le (c := c) hL h6 n
      rw [if_pos ((had_bit n).mpr ⟨m1, by omega, by rw [he, e]⟩)]
      omega
    · have := had_dup (c := c) hL h6 h12 he n (by omega)
      split <;> omega
theorem Pm_dup {L c : Nat} (hL : 0 < L) (h6 : L ≤ 6) {i j : Nat} (hij : i < j) (hj : j < L) (he : dig L c i = dig L c j) : ¬ Pm L c := by
  intro h
  have := had_dup (c := c) hL h6 (m1 := L - 1 - j) (m2 := L - 1 - i) (by omega) (by rw [show L - 1 - (L - 1 - j) = j by omega, show L - 1 - (L - 1 - i) = i by omega]; exact he.symm) L (by omega)
  unfold Pm at h
  rw [h, bitN_full L (by omega)] at this
  omega
theorem best_step {a : Hs} {n m : Nat} : bestO a n (m + 1) = if hadN (a 0 3) m (a 0 3) = 2 ^ (a 0 3) - 1 then (match bestO a n m with | none => some (osum n (rkd a m), m) | some (v, c) => if osum n (rkd a m) < v then some (osum n (rkd a m), m) else some (v, c)) else bestO a n m := rfl
theorem best_min {a : Hs} {n : Nat} : ∀ m c', c' < m → Pm (a 0 3) c' → ∃ v c, bestO a n m = some (v, c) ∧ v ≤ osum n (rkd a c')
  | 0, c', h, _ => by omega
  | m + 1, c', h, hp => by
    rw [best_step]
    by_cases e : c' = m
    · rw [if_pos (by rw [← e]; exact hp)]
      cases hb : bestO a n m with
      | none => exact ⟨_, _, rfl, by rw [e]; exact Nat.le_refl _⟩
      | some w =>
        obtain ⟨v, c⟩ := w
        show ∃ v' c'', (if osum n (rkd a m) < v then some (osum n (rkd a m), m) else some (v, c)) = some (v', c'') ∧ _
        by_cases q : osum n (rkd a m) < v
        · rw [if_pos q]; exact ⟨_, _, rfl, by rw [e]; exact Nat.le_refl _⟩
        · rw [if_neg q]; exact ⟨_, _, rfl, by rw [e]; omega⟩
    · obtain ⟨v, c, h1, h2⟩ := best_min (a := a) (n := n) m c' (by omega) hp
      rw [h1]
      split
      · show ∃ v' c'', (if osum n (rkd a m) < v then some (osum n (rkd a m), m) else some (v, c)) = some (v', c'') ∧ _
        by_cases q : osum n (rkd a m) < v
        · rw [if_pos q]; exact ⟨_, _, rfl, by omega⟩
        · rw [if_neg q]; exact ⟨_, _, rfl, h2⟩
      · exact ⟨v, c, rfl, h2⟩
/-- an order that needs no look -/
def Skp (a : Hs) (n c : Nat) : Prop := ¬ Pm (a 0 3) c ∨ ∃ c', c' < c ∧ Pm (a 0 3) c' ∧ osum n (rkd a c') = osum n (rkd a c)
theorem best_skip1 {a : Hs} {n m : Nat} (h : Skp a n m) : bestO a n (m + 1) = bestO a n m := by
  rw [best_step]
  rcases h with h | ⟨c', h1, h2, h3⟩
  · exact if_neg h
  · split
    · obtain ⟨v, c, h4, h5⟩ := best_min (a := a) (n := n) m c' h1 h2
      rw [h4]
      show (if osum n (rkd a m) < v then some (osum n (rkd a m), m) else some (v, c)) = _
      rw [if_neg (by omega)]
    · rfl
theorem best_skip {a : Hs} {n lo : Nat} : ∀ k, (∀ c, lo ≤ c → c < lo + k → Skp a n c) → bestO a n (lo + k) = bestO a n lo
  | 0, _ => rfl
  | k + 1, h => by
    show bestO a n (lo + k + 1) = _
    rw [best_skip1 (h (lo + k) (by omega) (by omega)), best_skip k (fun c h1 h2 => h c h1 (by omega))]
theorem prune {a : Hs} {n c i k : Nat} (hL : 0 < a 0 3) (hc : c < a 0 3 ^ a 0 3) (hi : i < a 0 3) (hk : k < i) (hlt : dig (a 0 3) c i < dig (a 0 3) c k) (hInd : ∀ j, k ≤ j → j < i → Ind a (dig (a 0 3) c j) (dig (a 0 3) c i)) : Skp a n c := by
  by_cases hp : Pm (a 0 3) c
  · refine Or.inr ⟨cdN (a 0 3) (mv (dig (a 0 3) c) k i) (a 0 3), ?_, ?_, ?_⟩
    · have hm : ∀ j, mv (dig (a 0 3) c) k i j < a 0 3 := fun j => by
        unfold mv
        split
        · exact dig_lt hL
        · split
          · exact dig_lt hL
          · split <;> exact dig_lt hL
      have := cd_lt (L := a 0 3) (r := dig (a 0 3) c) (r' := mv (dig (a 0 3) c) k i) (k := k) (fun j hj => by unfold mv; rw [if_pos hj]) (by unfold mv; rw [if_neg (by omega), if_pos rfl]; exact hlt) (a 0 3 - (k + 1)) (fun j _ => hm j)
      rw [show k + 1 + (a 0 3 - (k + 1)) = a 0 3 by omega, cd_dig' hL hc] at this
      exact this
    · rw [Pm_iff hL] at hp ⊢
      intro b hb
      obtain ⟨j, h1, h2⟩ := hp b hb
      have hm : ∀ j, j < a 0 3 → mv (dig (a 0 3) c) k i j < a 0 3 := fun j _ => by
        unfold mv
        split
        · exact dig_lt hL
        · split
          · exact dig_lt hL
          · split <;> exact dig_lt hL
      by_cases e1 : j < k
      · exact ⟨j, h1, by rw [dig_cd hm h1]; unfold mv; rw [if_pos e1]; exact h2⟩
      · by_cases e2 : j = i
        · exact ⟨k, by omega, by rw [dig_cd hm (by omega)]; unfold mv; rw [if_neg (by omega), if_pos rfl, ← e2]; exact h2⟩
        · by_cases e3 : j < i
          · exact ⟨j + 1, by omega, by rw [dig_cd hm (by omega)]; unfold mv; rw [if_neg (by omega), if_neg (by omega), if_pos (by omega)]; exact h2⟩
          · exact ⟨j, h1, by rw [dig_cd hm h1]; unfold mv; rw [if_neg (by omega), if_neg (by omega), if_neg (by omega)]; exact h2⟩
    · have hm : ∀ j, j < a 0 3 → mv (dig (a 0 3) c) k i j < a 0 3 := fun j _ => by
        unfold mv
        split
        · exact dig_lt hL
        · split
          · exact dig_lt hL
          · split <;> exact dig_lt hL
      have e1 : osum n (rkd a (cdN (a 0 3) (mv (dig (a 0 3) c) k i) (a 0 3))) = osum n (w8 a (mv (dig (a 0 3) c) k i)) := osum_congr (fun j hj => dig_cd hm hj)
      rw [e1]
      exact osum_mv hi (i - k) k (by omega) hInd
  · exact Or.inl hp
