/-! who: bits of a set of 21 -/
def q1B (b : Nat) : Nat := b - ((b / 2) &&& 85)
def q2B (c : Nat) : Nat := (c &&& 51) + ((c / 4) &&& 51)
def q3B (d : Nat) : Nat := (d + d / 16) % 16
theorem byteB : ∀ b, b < 256 → ((b / 2) &&& 85) ≤ b ∧ q3B (q2B (q1B b)) = bitN 8 b ∧ q2B (q1B b) ≤ 68 ∧ q2B (q1B b) % 16 ≤ 4 := by decide +kernel
theorem byteC : ∀ b, b < 32 → q3B (q2B (q1B b)) = bitN 5 b ∧ (b / 2) &&& 21845 = (b / 2) &&& 85 ∧ q1B b < 32 := by decide +kernel
theorem byteD : ∀ b, b < 32 → b &&& 13107 = b &&& 51 ∧ (b / 4) &&& 13107 = (b / 4) &&& 51 := by decide +kernel
theorem byteE : ∀ b, b < 256 → b &&& 3855 = b % 16 ∧ b &&& 15 = b % 16 := by decide +kernel
theorem kB1 : ∀ a, a < 256 → ∀ e, e < 2 → (a / 2 + 128 * e) &&& 85 = (a / 2) &&& 85 := by decide +kernel
theorem kB2 : ∀ a, a < 256 → ∀ e, e < 4 → (a / 4 + 64 * e) &&& 51 = (a / 4) &&& 51 := by decide +kernel
theorem and_sp {a b m k : Nat} (ha : a < 256) (hm : m < 256) : (a + 256 * b) &&& (m + 256 * k) = (a &&& m) + 256 * (b &&& k) := by
  have h1 := Nat.div_add_mod ((a + 256 * b) &&& (m + 256 * k)) (2 ^ 8)
  rw [Nat.and_div_two_pow, Nat.and_mod_two_pow] at h1
  rw [show (a + 256 * b) / 2 ^ 8 = b by omega, show (m + 256 * k) / 2 ^ 8 = k by omega, show (a + 256 * b) % 2 ^ 8 = a by omega, show (m + 256 * k) % 2 ^ 8 = m by omega] at h1
  omega
theorem bitN_add : ∀ m n x, bitN (m + n) x = bitN m x + bitN n (x / 2 ^ m)
  | 0, n, x => by
    rw [Nat.zero_add, Nat.pow_zero, Nat.div_one]
    show _ = 0 + _
    omega
  | m + 1, n, x => by
    rw [show m + 1 + n = (m + n) + 1 by omega]
    show x % 2 + bitN (m + n) (x / 2) = x % 2 + bitN m (x / 2) + bitN n (x / 2 ^ (m + 1))
    rw [bitN_add m n (x / 2), Nat.div_div_eq_div_mul, Nat.pow_succ, Nat.mul_comm 2]
    omega
theorem bitN_mod : ∀ m x y, bitN m (x + 2 ^ m * y) = bitN m x
  | 0, _, _ => rfl
  | m + 1, x, y => by
    show (x + 2 ^ (m + 1) * y) % 2 + bitN m ((x + 2 ^ (m + 1) * y) / 2) = x % 2 + bitN m (x / 2)
    have e : 2 ^ (m + 1) * y = 2 * (2 ^ m * y) := by rw [Nat.pow_succ, Nat.mul_comm (2 ^ m) 2, Nat.mul_assoc]
    rw [e, show (x + 2 * (2 ^ m * y)) % 2 = x % 2 by omega, show (x + 2 * (2 ^ m * y)) / 2 = x / 2 + 2 ^ m * y by omega, bitN_mod m]
theorem fin5 {u v w : Nat} (hu : u < 16) (hv : v < 16) (hw : w < 16) : (u + 256 * (v + 256 * w) + (u + 256 * (v + 256 * w)) / 256 + (u + 256 * (v + 256 * w) + (u + 256 * (v + 256 * w)) / 256) / 65536) % 64 = u + (v + w) := by
  rw [show (u + 256 * (v + 256 * w)) / 256 = v + 256 * w by omega, show (u + 256 * (v + 256 * w) + (v + 256 * w)) / 65536 = w by omega]
  omega
theorem bc21 (S : Nat → Nat → Int32) {x : Nat} (hx : x < 2 ^ 21) (sc : Nat × (Nat → Int32)) (d : Nat) : EX sc (d + 1) 228 0 [.int (nI x)] [] (mk S) = some (some (.int (nI (bitN 21 x))), mk S) := by
  obtain ⟨a, b, c, ha, hb, hc, hxe⟩ : ∃ a b c, a < 256 ∧ b < 256 ∧ c < 32 ∧ x = a + 256 * (b + 256 * c) := ⟨x % 256, x / 256 % 256, x / 65536, by omega, by omega, by omega, by omega⟩
  have A := byteB a ha
  have Bq := byteB b hb
  have C := byteC c hc
  have Cq := byteB c (by omega)
  have f1 : (x / 2 &&& 1431655765) = ((a / 2) &&& 85) + 256 * (((b / 2) &&& 85) + 256 * ((c / 2) &&& 85)) := by
    rw [show x / 2 = (a / 2 + 128 * (b % 2)) + 256 * ((b / 2 + 128 * (c % 2)) + 256 * (c / 2)) by omega, show (1431655765 : Nat) = 85 + 256 * (85 + 256 * 21845) from rfl, and_sp (by omega) (by omega), and_sp (by omega) (by omega), kB1 a ha _ (by omega), kB1 b hb _ (by omega), C.2.1]
  have y1 : x - (x / 2 &&& 1431655765) = q1B a + 256 * (q1B b + 256 * q1B c) := by
    rw [f1]
    unfold q1B
    omega
  obtain ⟨y, hy⟩ : ∃ y, y = x - (x / 2 &&& 1431655765) := ⟨_, rfl⟩
  have a1 : q1B a < 256 := by unfold q1B; omega
  have b1 : q1B b < 256 := by unfold q1B; omega
  have c1 := C.2.2
  have g1 : (y &&& 858993459) = (q1B a &&& 51) + 256 * ((q1B b &&& 51) + 256 * (q1B c &&& 51)) := by
    rw [hy, y1, show (858993459 : Nat) = 51 + 256 * (51 + 256 * 13107) from rfl, and_sp a1 (by omega), and_sp b1 (by omega), (byteD _ c1).1]
  have g2 : (y / 4 &&& 858993459) = ((q1B a / 4) &&& 51) + 256 * (((q1B b / 4) &&& 51) + 256 * ((q1B c / 4) &&& 51)) := by
    rw [hy, y1, show (q1B a + 256 * (q1B b + 256 * q1B c)) / 4 = (q1B a / 4 + 64 * (q1B b % 4)) + 256 * ((q1B b / 4 + 64 * (q1B c % 4)) + 256 * (q1B c / 4)) by omega, show (858993459 : Nat) = 51 + 256 * (51 + 256 * 13107) from rfl, and_sp (by omega) (by omega), and_sp (by omega) (by omega), kB2 _ a1 _ (by omega), kB2 _ b1 _ (by omega), (byteD _ c1).2]
  have z1 : (y &&& 858993459) + (y / 4 &&& 858993459) = q2B (q1B a) + 256 * (q2B (q1B b) + 256 * q2B (q1B c)) := by
    rw [g1, g2]
    unfold q2B
    omega
  obtain ⟨z, hz⟩ : ∃ z, z = (y &&& 858993459) + (y / 4 &&& 858993459) := ⟨_, rfl⟩
  obtain ⟨p, hp⟩ : ∃ p, p = q2B (q1B a) := ⟨_, rfl⟩
  obtain ⟨q, hq⟩ : ∃ q, q = q2B (q1B b) := ⟨_, rfl⟩
  obtain ⟨r, hr⟩ : ∃ r, r = q2B (q1B c) := ⟨_, rfl⟩
  have A3 := A.2.2
  have B3 := Bq.2.2
  have C3 := Cq.2.2
  rw [← hp] at A3
  rw [← hq] at B3
  rw [← hr] at C3
  have z2 : z = p + 256 * (q + 256 * r) := by rw [hz, z1, hp, hq, hr]
  have w1 : (z + z / 16) &&& 252645135 = q3B p + 256 * (q3B q + 256 * q3B r) := by
    rw [z2, show p + 256 * (q + 256 * r) + (p + 256 * (q + 256 * r)) / 16 = (p + p / 16 + 16 * (q % 16)) + 256 * ((q + q / 16 + 16 * (r % 16)) + 256 * (r + r / 16)) by omega, show (252645135 : Nat) = 15 + 256 * (15 + 256 * 3855) from rfl, and_sp (by omega) (by omega), and_sp (by omega) (by omega), (byteE _ (show p + p / 16 + 16 * (q % 16) < 256 by omega)).2, (byteE _ (show q + q / 16 + 16 * (r % 16) < 256 by omega)).2, (byteE _ (show r + r / 16 < 256 by omega)).1]
    unfold q3B
    omega
  obtain ⟨w, hw⟩ : ∃ w, w = (z + z / 16) &&& 252645135 := ⟨_, rfl⟩
  have e1 : q3B p < 16 := Nat.mod_lt _ (by omega)
  have e2 : q3B q < 16 := Nat.mod_lt _ (by omega)
  have e3 : q3B r < 16 := Nat.mod_lt _ (by omega)
  have w2 : w = q3B p + 256 * (q3B q + 256 * q3B r) := hw.trans w1
  have fin : (w + w / 256 + (w + w / 256) / 65536) &&& 63 = bitN 21 x := by
    have m63 : ∀ n : Nat, n &&& 63 = n % 64 := fun n => Nat.and_two_pow_sub_one_eq_mod n 6
    have bx : bitN 21 x = bitN 8 a + (bitN 8 b + bitN 5 c) := by
      rw [show 21 = 8 + (8 + 5) from rfl, bitN_add, bitN_add, hxe, show (a + 256 * (b + 256 * c)) / 2 ^ 8 = b + 2 ^ 8 * c by omega, show (b + 2 ^ 8 * c) / 2 ^ 8 = c by omega, show a + 256 * (b + 256 * c) = a + 2 ^ 8 * (b + 256 * c) from rfl, bitN_mod, bitN_mod]
    rw [m63, bx, ← A.2.1, ← Bq.2.1, ← C.1, ← hp, ← hq, ← hr]
    rw [w2]
    exact fin5 e1 e2 e3
  have s1 : nI x - ((Int32.toUInt32 (nI x) >>> (Int32.toUInt32 1 &&& Int32.toUInt32 31)).toInt32 &&& 1431655765) = nI y := by
    rw [pk_ushrN (by omega) 1 1 rfl, show (1431655765 : Int32) = nI 1431655765 from rfl, nI_and, pk_sub (by show (x / 2 &&& _) ≤ _; rw [f1]; omega), hy]
  have yb : y < 2 ^ 21 := by rw [hy]; omega
  have s2 : (nI y &&& 858993459) + ((Int32.toUInt32 (nI y) >>> (Int32.toUInt32 2 &&& Int32.toUInt32 31)).toInt32 &&& 858993459) = nI z := by
    rw [pk_ushrN (by omega) 2 2 rfl, show (858993459 : Int32) = nI 858993459 from rfl, nI_and, nI_and, nI_add, hz]
  have zb : z < 2 ^ 24 := by omega
  have s3 : (nI z + (Int32.toUInt32 (nI z) >>> (Int32.toUInt32 4 &&& Int32.toUInt32 31)).toInt32) &&& 252645135 = nI w := by
    rw [pk_ushrN (by omega) 4 4 rfl, show (252645135 : Int32) = nI 252645135 from rfl, nI_add, nI_and, hw]
  have wb : w < 2 ^ 24 := by omega
  have s4 : nI w + (Int32.toUInt32 (nI w) >>> (Int32.toUInt32 8 &&& Int32.toUInt32 31)).toInt32 = nI (w + w / 256) := by
    rw [pk_ushrN (by omega) 8 8 rfl, nI_add]
  have s5 : (nI (w + w / 256) + (Int32.toUInt32 (nI (w + w / 256)) >>> (Int32.toUInt32 16 &&& Int32.toUInt32 31)).toInt32) &&& 63 = nI (bitN 21 x) := by
    rw [pk_ushrN (by omega) 16 16 rfl, nI_add, show (63 : Int32) = nI 63 from rfl, nI_and, ← fin]
  rw [e228_0, s1, s2, s3, s4, s5]
/-- the lowest bit -/
theorem lowB : ∀ n w U, 0 < U → U < 2 ^ n → n ≤ w → ∃ t, t < n ∧ (2 ^ w - 1 - U) &&& (U - 1) = 2 ^ t - 1 ∧ U.testBit t = true ∧ ∀ j, j < t → U.testBit j = false
  | 0, _, U, h1, h2, _ => by
    rw [Nat.pow_zero] at h2
    omega
  | n + 1, w, U, h1, h2, hw => by
    obtain ⟨w', rfl⟩ : ∃ w', w = w' + 1 := ⟨w - 1, by omega⟩
    have hpp : 2 ^ (w' + 1) = 2 * 2 ^ w' := by rw [Nat.pow_succ, Nat.mul_comm]
    have hpn : 2 ^ (n + 1) = 2 * 2 ^ n := by rw [Nat.pow_succ, Nat.mul_comm]
    have hle : 2 ^ n ≤ 2 ^ w' := Nat.pow_le_pow_right (by omega) (by omega)
    by_cases c : U % 2 = 1
    · refine ⟨0, by omega, ?_, ?_, fun j hj => by omega⟩
      · apply Nat.eq_of_testBit_eq
        intro i
        rw [Nat.testBit_and, show 2 ^ 0 - 1 = 0 from rfl, Nat.zero_testBit]
        cases i with
        | zero =>
          have : (U - 1).testBit 0 = false := by
            rw [Nat.testBit_zero]
            exact decide_eq_false (by omega)
          rw [this, Bool.and_false]
        | succ i =>
          have e1 : (U - 1).testBit (i + 1) = U.testBit (i + 1) := by
            rw [Nat.testBit_succ, Nat.testBit_succ, show (U - 1) / 2 = U / 2 by omega]
          rw [e1, show 2 ^ (w' + 1) - 1 - U = 2 ^ (w' + 1) - (U + 1) by omega, Nat.testBit_two_pow_sub_succ (by omega)]
          cases U.testBit (i + 1) <;> simp
      · rw [Nat.testBit_zero]
        exact decide_eq_true c
    · obtain ⟨t, t1, t2, t3, t4⟩ := lowB n w' (U / 2) (by omega) (by omega) (by omega)
      refine ⟨t + 1, by omega, ?_, ?_, fun j hj => ?_⟩
      · have h3 := Nat.div_add_mod ((2 ^ (w' + 1) - 1 - U) &&& (U - 1)) 2
        have hd : ((2 ^ (w' + 1) - 1 - U) &&& (U - 1)) / 2 = 2 ^ t - 1 := by
          rw [Nat.and_div_two, show (2 ^ (w' + 1) - 1 - U) / 2 = 2 ^ w' - 1 - U / 2 by omega, show (U - 1) / 2 = U / 2 - 1 by omega]
          exact t2
        have hm : ((2 ^ (w' + 1) - 1 - U) &&& (U - 1)) % 2 = 1 := by
          rw [Nat.and_mod_two_eq_one]
          omega
        have ht : 1 ≤ 2 ^ t := Nat.one_le_two_pow
        rw [hd, hm] at h3
        rw [show 2 ^ (t + 1) = 2 * 2 ^ t by rw [Nat.pow_succ, Nat.mul_comm]]
        omega
      · rw [Nat.testBit_succ]; exact t3
      · cases j with
        | zero =>
          rw [Nat.testBit_zero]
          exact decide_eq_false (by omega)
        | succ j => rw [Nat.testBit_succ]; exact t4 j (by omega)
def tzF (x : Int32) : Int32 :=
  let p0 : Int32 × Int32 := if x ≤ 65536 then (x, 1) else ((Int32.toUInt32 x >>> (Int32.toUInt32 16 &&& Int32.toUInt32 31)).toInt32, 1 + 16)
  let p1 : Int32 × Int32 := if p0.1 ≤ 256 then (p0.1, p0.2) else ((Int32.toUInt32 p0.1 >>> (Int32.toUInt32 8 &&& Int32.toUInt32 31)).toInt32, p0.2 + 8)
  let p2 : Int32 × Int32 := if p1.1 ≤ 16 then (p1.1, p1.2) else ((Int32.toUInt32 p1.1 >>> (Int32.toUInt32 4 &&& Int32.toUInt32 31)).toInt32, p1.2 + 4)
  let p3 : Int32 × Int32 := if p2.1 ≤ 4 then (p2.1, p2.2) else ((Int32.toUInt32 p2.1 >>> (Int32.toUInt32 2 &&& Int32.toUInt32 31)).toInt32, p2.2 + 2)
  p3.2 + (Int32.toUInt32 p3.1 >>> (Int32.toUInt32 1 &&& Int32.toUInt32 31)).toInt32
theorem tzF_eq (S : Nat → Nat → Int32) (x : Int32) (sc : Nat × (Nat → Int32)) (d : Nat) : EX sc (d + 1) 227 1 [.int x, Jk] [] (mk S) = some (some (.int (tzF x)), mk S) := by
  have r5 : ∀ a b : Int32, EX sc (d + 1) 227 5 [.int a, .int b] [] (mk S) = some (some (.int (b + (Int32.toUInt32 a >>> (Int32.toUInt32 1 &&& Int32.toUInt32 31)).toInt32)), mk S) := fun a b => by rw [e227_5]
  unfold tzF
  rw [e227_1]
  by_cases c0 : x ≤ 65536
  · simp only [if_pos c0, e227_2, e227_3, e227_4, r5]
    split <;> split <;> split <;> rfl
  · simp only [if_neg c0, e227_2, e227_3, e227_4, r5]
    split <;> split <;> split <;> rfl
theorem tzF_val : ∀ t, t < 21 → 0 < t → tzF (nI (2 ^ t - 1)) = nI t ∧ (0 : Int32) < nI (2 ^ t - 1) := by decide +kernel
theorem tz21 (S : Nat → Nat → Int32) {U : Nat} (h0 : 0 < U) (hU : U < 2 ^ 21) (sc : Nat × (Nat → Int32)) (d : Nat) : ∃ t, t < 21 ∧ EX sc (d + 1) 227 0 [.int (nI U), Jk] [] (mk S) = some (some (.int (nI t)), mk S) ∧ U.testBit t = true ∧ ∀ j, j < t → U.testBit j = false := by
  obtain ⟨t, t1, t2, t3, t4⟩ := lowB 21 32 U h0 hU (by omega)
  refine ⟨t, t1, ?_, t3, t4⟩
  have e : (nI U ^^^ (-1)) &&& (nI U - 1) = nI (2 ^ t - 1) := by
    rw [← t2]
    apply Int32.toBitVec_inj.mp
    show (BitVec.ofNat 32 U ^^^ (-1#32)) &&& (BitVec.ofNat 32 U - 1#32) = BitVec.ofNat 32 ((2 ^ 32 - 1 - U) &&& (U - 1))
    apply BitVec.eq_of_toNat_eq
    rw [BitVec.toNat_and, BitVec.toNat_xor, BitVec.toNat_sub, BitVec.toNat_ofNat, BitVec.toNat_ofNat, Nat.mod_eq_of_lt (show U < 2 ^ 32 by omega)]
    rw [show (-1#32).toNat = 2 ^ 32 - 1 from rfl, show (2 ^ 32 - 1 % 2 ^ 32 + U) % 2 ^ 32 = U - 1 by omega, BitVec.toNat_ofNat]
    have hl : ((2 ^ 32 - 1 - U) &&& (U - 1)) < 2 ^ 32 := Nat.lt_of_le_of_lt Nat.and_le_right (by omega)
    rw [Nat.mod_eq_of_lt hl]
    congr 1
    apply Nat.eq_of_testBit_eq
    intro i
    rw [Nat.testBit_xor, Nat.testBit_two_pow_sub_one, show 2 ^ 32 - 1 - U = 2 ^ 32 - (U + 1) by omega, Nat.testBit_two_pow_sub_succ (by omega)]
    by_cases c : i < 32
    · rw [decide_eq_true c]
      cases U.testBit i <;> rfl
    · rw [decide_eq_false c, Nat.testBit_lt_two_pow (Nat.lt_of_lt_of_le (show U < 2 ^ 32 by omega) (Nat.pow_le_pow_right (by omega) (by omega)))]
      rfl
  rw [e227_0, e]
  by_cases c : t = 0
  · rw [c, if_neg (by decide)]
    rfl
  · obtain ⟨v1, v2⟩ := tzF_val t t1 (by omega)
    rw [if_pos v2, tzF_eq, v1]
theorem shk : ∀ i, i < 31 → ((nI i &&& 31).toBitVec.smod 32).toNat = i ∧ (1 : Int32) <<< (nI i &&& 31) = nI (2 ^ i) := by decide +kernel
theorem has21 (S : Nat → Nat → Int32) {U i : Nat} (hU : U < 2 ^ 21) (hi : i < 31) (sc : Nat × (Nat → Int32)) (d : Nat) : EX sc (d + 1) 135 0 [.int (nI U), .int (nI i)] [] (mk S) = some (some (.int (if U.testBit i = true then 1 else 0)), mk S) := by
  have e : (nI U >>> (nI i &&& 31)) &&& 1 = nI (U / 2 ^ i % 2) := by
    rw [pk_shrN (by omega) _ i (shk i hi).1, show (1 : Int32) = nI 1 from rfl, nI_and, Nat.and_one_is_mod]
  have hb : U.testBit i = decide (U / 2 ^ i % 2 = 1) := Nat.testBit_eq_decide_div_mod_eq
  rw [e135_0, e, hb]
  by_cases c : U / 2 ^ i % 2 = 1
  · rw [c, if_pos (show nI 1 = 1 from rfl), bt1]
    rfl
  · rw [show U / 2 ^ i % 2 = 0 by omega, if_neg (by decide), e135_1, bt0]
    rfl
