/-! lost: the call -/
def wBb (a : Hs) (l n s : Nat) : Bool := !s.testBit l && decide ((tk n (upA a 0 4 s)) 5 l = 21)
theorem wBb_iff {a : Hs} {l n s : Nat} : wBb a l n s = true ↔ wB a l n s := by
  unfold wBb wB
  rw [Bool.and_eq_true, Bool.not_eq_true', decide_eq_true_iff]
def uS (a : Hs) (l n p o : Nat) : Nat → Nat
  | 0 => 0
  | k + 1 => uS a l n p o k + if k &&& (63 ^^^ o) = 0 ∧ wBb a l n k = true then chN o k p 6 else 0
theorem sub_le64 : ∀ o, o < 64 → ∀ s, s < 64 → s &&& (63 ^^^ o) = 0 → s ≤ o := by decide +kernel
theorem sub_bits : ∀ o, o < 64 → ∀ s, s < 64 → s &&& (63 ^^^ o) = 0 → bitN 6 s ≤ bitN 6 o := by decide +kernel
theorem uS_end {a : Hs} {l n p o : Nat} (ho : o < 64) : ∀ m, o + 1 + m ≤ 64 → uS a l n p o (o + 1 + m) = uS a l n p o (o + 1)
  | 0, _ => rfl
  | m + 1, h => by
    show uS a l n p o (o + 1 + m) + (if (o + 1 + m) &&& (63 ^^^ o) = 0 ∧ wBb a l n (o + 1 + m) = true then chN o (o + 1 + m) p 6 else 0) = _
    rw [if_neg (fun q => by have := sub_le64 o ho (o + 1 + m) (by omega) q.1; omega), uS_end ho m (by omega)]; rfl
theorem uS_le {a : Hs} {l n p o : Nat} : ∀ k, uS a l n p o k ≤ chS o p k
  | 0 => Nat.le_refl _
  | k + 1 => by
    show uS a l n p o k + (if k &&& (63 ^^^ o) = 0 ∧ wBb a l n k = true then chN o k p 6 else 0) ≤ chS o p k + (if k &&& (63 ^^^ o) = 0 then chN o k p 6 else 0)
    refine Nat.add_le_add (uS_le k) ?_
    by_cases c : k &&& (63 ^^^ o) = 0
    · rw [if_pos c]; split <;> omega
    · rw [if_neg c, if_neg (fun q => c q.1)]; omega
theorem p10_le {b : Nat} (h : b ≤ 6) : 1 ≤ 10 ^ b ∧ 10 ^ b ≤ 1000000 := ⟨Nat.pow_pos (by omega), by
  have : 10 ^ b ≤ 10 ^ 6 := Nat.pow_le_pow_right (by omega) h
  omega⟩
theorem loop48 {a : Hs} {l n p o : Nat} (hw : OkT 100 a) (hn : n ≤ 60) (hl : l < a 0 3) (hp : p ≤ 10) (ho : o < 64) (v : Int32) (sc : Nat × (Nat → Int32)) (d : Nat) : ∀ (m s : Nat) (S : Nat → Nat → Int32), s + m = o + 1 → HR S 23 a → ∃ S', EX sc (d + 5) 48 1 [.ref 45, .ref 23, .int (nI l), .int (nI n), .int (nI p), .int v, .int (nI o), .long (lN (uS a l n p o s)), Jk, .int (nI s), Jk, Jk, Jk] [] (mk S) = EX sc (d + 5) 48 3 [Jk, Jk, Jk, Jk, Jk, .int v, .int (nI o), .long (lN (uS a l n p o (o + 1))), Jk, Jk, Jk, Jk, Jk] [] (mk S') ∧ FS S S' := by
  intro m
  induction m with
  | zero =>
    intro s S hs h
    refine ⟨S, ?_, FS.rf _⟩
    rw [e48_1, if_pos ((nI_ltI (by omega) (by omega)).mpr (by omega)), show s = o + 1 by omega]
  | succ m ih =>
    intro s S hs h
    have hs6 : s < 64 := by omega
    rw [e48_1, if_neg (nI_nlt (by omega) (by omega)), andn_I s hs6 o ho]
    by_cases c : s &&& (63 ^^^ o) = 0
    · have q1 : (10 : Int32) - nI p = nI (10 - p) := pk_sub (a := 10) hp
      have q2 : nI (bitN 6 o) - nI (bitN 6 s) = nI (bitN 6 o - bitN 6 s) := pk_sub (sub_bits o ho s hs6 c)
      have b1 := bitN_le 6 o
      have b2 := bitN_le 6 s
      have w1 := power_eq S hp b2 sc (d + 3)
      have w2 := power_eq S (b := 10 - p) (e := bitN 6 o - bitN 6 s) (by omega) (by omega) sc (d + 3)
      rw [if_pos (by rw [c]; rfl)]
      simp only [bitCount_eq S hs6, bitCount_eq S ho, cI_s, w1, cL_s, q1, q2, w2, lN_mul]
      rw [← ch_pow o ho s hs6 c p (by omega)]
      have hb : chN o s p 6 ≤ 1000000 := by
        rw [ch_pow o ho s hs6 c p (by omega)]
        have r1 : p ^ bitN 6 s ≤ 10 ^ bitN 6 s := Nat.pow_le_pow_left hp _
        have r2 : (10 - p) ^ (bitN 6 o - bitN 6 s) ≤ 10 ^ (bitN 6 o - bitN 6 s) := Nat.pow_le_pow_left (by omega) _
        have r3 := Nat.mul_le_mul r1 r2
        rw [← Nat.pow_add, show bitN 6 s + (bitN 6 o - bitN 6 s) = bitN 6 o by have := sub_bits o ho s hs6 c; omega] at r3
        have := (p10_le b1).2
        omega
      have ec : (lg_cmp (lN (chN o s p 6)) 0 ≤ 0) ↔ chN o s p 6 = 0 := by
        rw [lg_cmp_le]
        have := pk_lLE (a := chN o s p 6) (b := 0) (by omega) (by omega)
        exact this.trans (by omega)
      have ust : uS a l n p o (s + 1) = uS a l n p o s + if wBb a l n s = true then chN o s p 6 else 0 := by
        show uS a l n p o s + (if s &&& (63 ^^^ o) = 0 ∧ wBb a l n s = true then chN o s p 6 else 0) = _
        by_cases cw : wBb a l n s = true
        · rw [if_pos ⟨c, cw⟩, if_pos cw]
        · rw [if_neg (fun q => cw q.2), if_neg cw]
      by_cases cz : chN o s p 6 = 0
      · rw [if_pos (ec.mpr cz), e48_2, nI_1]
        have : uS a l n p o (s + 1) = uS a l n p o s := by rw [ust, cz]; split <;> rfl
        rw [← this]
        exact ih (s + 1) S (by omega) h
      · rw [if_neg (fun q => cz (ec.mp q))]
        obtain ⟨S1, r, k1, k2, k3⟩ := without_spec h hw hn hl hs6 sc d
        have h23 : HR S1 23 a := h.cg (fun k a b => k3.1 k (by omega) (by omega) (by omega))
        simp only [O45, if_true, k1, cI_s]
        rcases k2 with ⟨rfl, k2⟩ | ⟨rfl, k2⟩
        · rw [if_neg i10, e48_2, nI_1, lN_add]
          have : uS a l n p o (s + 1) = uS a l n p o s + chN o s p 6 := by rw [ust, if_pos (wBb_iff.mpr k2)]
          rw [← this]
          obtain ⟨S2, t1, t2⟩ := ih (s + 1) S1 (by omega) h23
          exact ⟨S2, t1, k3.tr t2⟩
        · rw [if_pos rfl, e48_2, nI_1]
          have : uS a l n p o (s + 1) = uS a l n p o s := by rw [ust, if_neg (fun q => k2 (wBb_iff.mp q))]; rfl
          rw [← this]
          obtain ⟨S2, t1, t2⟩ := ih (s + 1) S1 (by omega) h23
          exact ⟨S2, t1, k3.tr t2⟩
    · rw [if_neg (nI_ne0 (Nat.pos_of_ne_zero c) (Nat.lt_of_le_of_lt Nat.and_le_left (by omega))), e48_2, nI_1]
      have : uS a l n p o (s + 1) = uS a l n p o s := by
        show uS a l n p o s + (if s &&& (63 ^^^ o) = 0 ∧ wBb a l n s = true then chN o s p 6 else 0) = _
        rw [if_neg (fun q => c q.1)]; rfl
      rw [← this]
      exact ih (s + 1) S (by omega) h
def losR (u e : Nat) (v : Int32) : Int64 := if v = 0 then lN (u / Nat.gcd e u) else lN (e / Nat.gcd e u)
theorem lost_C {a : Hs} {l n p : Nat} (hw : OkT 100 a) (hn : n ≤ 60) (hl : l < a 0 3) (hp : p ≤ 10) (v : Int32) (sc : Nat × (Nat → Int32)) (d : Nat) (S : Nat → Nat → Int32) (h : HR S 23 a) : ∃ S', EX sc (d + 5) 48 0 [.ref 45, .ref 23, .int (nI l), .int (nI n), .int (nI p), .int v, Jk, Jk, Jk, Jk, Jk, Jk, Jk] [] (mk S) = some (some (.long (losR (uS a l n p (ly a 20) 64) (10 ^ (bitN 6 (ly a 20))) v)), mk S') ∧ FS S S' := by
  have h6 := hw.l6
  have ho : ly a 20 < 64 := ly_lt h6 20
  generalize hoo : ly a 20 = o at ho ⊢
  obtain ⟨S1, k1, k2⟩ := loop48 hw hn hl hp ho v sc d (o + 1) 0 S (by omega) h
  have hb := bitN_le 6 o
  have hp10 := p10_le hb
  have u1 : uS a l n p o (o + 1) = uS a l n p o 64 := by
    have := uS_end (a := a) (l := l) (n := n) (p := p) ho (63 - o) (by omega)
    rw [show o + 1 + (63 - o) = 64 by omega] at this
    exact this.symm
  have u2 : uS a l n p o 64 ≤ 10 ^ bitN 6 o := by
    rw [← ch_sum o ho p (by omega)]
    exact uS_le 64
  have e20 : S (23 + 9) 20 = nI o := by rw [h.2.2.2.1 20 (by omega)]; rw [hoo]
  have w1 := power_eq S1 (b := 10) (e := bitN 6 o) (by omega) hb sc (d + 3)
  have g1 := gcdC S1 sc (d + 3) 20 0 (10 ^ bitN 6 o) (uS a l n p o 64) (by omega) (by omega) (by omega) (by omega)
  have gp : 0 < Nat.gcd (10 ^ bitN 6 o) (uS a l n p o 64) := Nat.gcd_pos_of_pos_left _ (by omega)
  have gl : Nat.gcd (10 ^ bitN 6 o) (uS a l n p o 64) ≤ 10 ^ bitN 6 o := Nat.gcd_le_left _ (by omega)
  refine ⟨S1, ?_, k2⟩
  rw [e48_0]
  simp only [Hg isH_23, oB_s, show (20 : Int32) = nI 20 from rfl, fun S => HA2 isH_23 S (show 20 < 22 by omega), e20]
  rw [show (0 : Int64) = lN (uS a l n p o 0) from rfl, show (0 : Int32) = nI 0 from rfl, k1, u1, e48_3]
  simp only [bitCount_eq S1 ho, cI_s, show (10 : Int32) = nI 10 from rfl, w1, cL_s, e51_0, show (0 : Int32) = nI 0 from rfl, g1, e51_2]
  generalize hg : Nat.gcd (10 ^ bitN 6 o) (uS a l n p o 64) = g at gp gl ⊢
  have n1 : ¬ lN g < 1 := fun q => by
    have := (pk_lLT (a := g) (b := 1) (by omega) (by omega)).mp q
    omega
  have n2 : ¬ lN g = 0 := fun q => by
    have := (pk_lEQ (a := g) (b := 0) (by omega) (by omega)).mp q
    omega
  rw [if_neg n1, if_neg n2, e48_4, if_neg n2, pk_lDiv (by omega) gp (by omega), pk_lDiv (by omega) gp (by omega)]
  unfold losR
  rw [hg]
  show (if v = 0 then _ else _) = _
  by_cases cv : v = 0
  · rw [if_pos cv, if_pos cv]
  · rw [if_neg cv, if_neg cv]
