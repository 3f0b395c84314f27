/-! house: signs and numbers of the tape -/
def bt (tp : Nat → Int32) (tl i : Nat) : Int32 := if i < tl then tp i else -1
def isF (x : Int32) : Bool := decide (48 ≤ x ∧ x ≤ 57)
def dv (x : Int32) : Nat := x.toBitVec.toNat - 48
def fg (tp : Nat → Int32) (tl p : Nat) : Nat := if isF (bt tp tl p) = true then (if isF (bt tp tl (p + 1)) = true then (if isF (bt tp tl (p + 2)) = true then 3 else 2) else 1) else 0
def vl (tp : Nat → Int32) (tl p : Nat) : Nat := if fg tp tl p = 1 then dv (bt tp tl p) else 10 * dv (bt tp tl p) + dv (bt tp tl (p + 1))
def nres (tp : Nat → Int32) (tl p lo hi : Nat) : Nat := if fg tp tl p = 0 ∨ fg tp tl p = 3 then 1 else if lo ≤ vl tp tl p ∧ vl tp tl p ≤ hi then 0 else 2
theorem bt_fig {tp : Nat → Int32} {tl i : Nat} (h : isF (bt tp tl i) = true) : i < tl := by
  unfold bt at h
  by_cases c : i < tl
  · exact c
  · rw [if_neg c] at h
    exact absurd h (by decide)
theorem fig_dv {x : Int32} (h : isF x = true) : dv x ≤ 9 ∧ x = nI (48 + dv x) := by
  have := of_decide_eq_true h
  obtain ⟨j, j1, j2, j3⟩ := toN2 (l := 48) (N := 57) (by omega) (by omega) this
  have e : x.toBitVec.toNat = j := by
    rw [j3]
    show (BitVec.ofNat 32 j).toNat = j
    rw [BitVec.toNat_ofNat, Nat.mod_eq_of_lt (by omega)]
  unfold dv
  rw [e, show 48 + (j - 48) = j by omega]
  exact ⟨by omega, j3⟩
theorem fg_le {tp : Nat → Int32} {tl p : Nat} : fg tp tl p ≤ 3 := by
  unfold fg
  split
  · split
    · split <;> omega
    · omega
  · omega
theorem vl_le {tp : Nat → Int32} {tl p : Nat} (h : fg tp tl p = 1 ∨ fg tp tl p = 2) : vl tp tl p ≤ 99 := by
  have f0 : isF (bt tp tl p) = true := by
    cases e : isF (bt tp tl p) with
    | true => rfl
    | false =>
      have : fg tp tl p = 0 := by unfold fg; rw [e, if_neg (by decide)]
      omega
  have d0 := (fig_dv f0).1
  unfold vl
  by_cases c : fg tp tl p = 1
  · rw [if_pos c]; omega
  · rw [if_neg c]
    have f1 : isF (bt tp tl (p + 1)) = true := by
      cases e : isF (bt tp tl (p + 1)) with
      | true => rfl
      | false =>
        have : fg tp tl p = 1 := by unfold fg; rw [f0, e, if_pos rfl, if_neg (by decide)]
        omega
    have d1 := (fig_dv f1).1
    omega
def CT (tp : Nat → Int32) (tl : Nat) (S : Nat → Nat → Int32) : Prop := tl ≤ 100 ∧ S 13 1 = nI tl ∧ ∀ j, j < tl → S 14 j = tp j
theorem byteAt_eq {tp : Nat → Int32} {tl : Nat} {S : Nat → Nat → Int32} (h : CT tp tl S) {i : Nat} (hi : i ≤ 1000) (sc : Nat × (Nat → Int32)) (d : Nat) : EX sc (d + 2) 64 0 [.ref 13, .int (nI i)] [] (mk S) = some (some (.int (bt tp tl i)), mk S) := by
  obtain ⟨h1, h2, h3⟩ := h
  rw [e64_0]
  simp only [O13, oB_s, h2, within_eq, cI_s, ii_0]
  unfold bt
  by_cases c : i < tl
  · rw [if_pos ((toL (by omega)).mpr ⟨i, c, rfl⟩), if_pos c, aI_at A14 (by omega) (by omega)]
    simp only [oB_s, h3 i c]
  · rw [if_neg (fun q => ?_), if_neg c, e64_1]
    obtain ⟨j, j1, j2⟩ := (toL (by omega)).mp q
    have := (nI_eq (a := i) (b := j) (by omega) (by omega)).mp j2
    omega
theorem fails_eq (S : Nat → Nat → Int32) (x : Int32) (sc : Nat × (Nat → Int32)) (d : Nat) : EX sc (d + 1) 63 0 [.ref 13, .int x] [] (mk S) = some (some (.int 0), mk (up S 13 3 x)) := by
  rw [e63_0]
  simp only [P13, oB_s]
  exact if_pos (Or.inl trivial)
theorem C_sign {tp : Nat → Int32} {tl : Nat} {S : Nat → Nat → Int32} (h : CT tp tl S) {p : Nat} (hp : p ≤ 1000) (h2 : S 13 2 = nI p) (c : Int32) (sc : Nat × (Nat → Int32)) (d : Nat) : EX sc (d + 3) 61 0 [.ref 13, .int c] [] (mk S) = if bt tp tl p = c then some (some (.int 1), mk (up S 13 2 (nI (p + 1)))) else some (some (.int 0), mk (up S 13 3 1)) := by
  rw [e61_0]
  simp only [O13, oB_s, h2, if_true, byteAt_eq h hp, cI_s]
  by_cases e : bt tp tl p = c
  · rw [if_pos e, if_pos e, e61_1]
    simp only [O13, oB_s, h2, P13, nI_1]
    exact if_pos (Or.inr trivial)
  · rw [if_neg e, if_neg e, fails_eq, cI_s]
    exact if_pos (Or.inl rfl)
theorem figC (S : Nat → Nat → Int32) (x : Int32) (sc : Nat × (Nat → Int32)) (d : Nat) : EX sc (d + 2) 65 0 [.int x] [] (mk S) = some (some (.int (if isF x = true then 1 else 0)), mk S) := by
  rw [e65_0, within_eq, cI_s, ii_ok]
  unfold isF
  by_cases c : 48 ≤ x ∧ x ≤ 57
  · rw [if_pos c, if_pos (decide_eq_true c)]
  · rw [if_neg c, if_neg (by simp [c])]
theorem C_num {tp : Nat → Int32} {tl : Nat} {S : Nat → Nat → Int32} (h : CT tp tl S) {p : Nat} (hp : p ≤ 900) (h2 : S 13 2 = nI p) {lo hi : Nat} (hlo : lo ≤ 100) (hhi : hi ≤ 100) (sc : Nat × (Nat → Int32)) (d : Nat) : EX sc (d + 3) 62 0 [.ref 13, .int (nI lo), .int (nI hi), Jk, Jk] [] (mk S) = if nres tp tl p lo hi = 0 then some (some (.int 1), mk (up (up S 13 4 (nI (vl tp tl p))) 13 2 (nI (p + fg tp tl p)))) else some (some (.int 0), mk (up S 13 3 (nI (nres tp tl p lo hi)))) := by
  have step : ∀ k v, k < 3 → EX sc (d + 3) 62 1 [.ref 13, .int (nI lo), .int (nI hi), .int (nI k), .int (nI v)] [] (mk S) = if isF (bt tp tl (p + k)) = true then EX sc (d + 3) 62 1 [.ref 13, .int (nI lo), .int (nI hi), .int (nI (k + 1)), .int (nI (10 * v + dv (bt tp tl (p + k))))] [] (mk S) else EX sc (d + 3) 62 2 [.ref 13, .int (nI lo), .int (nI hi), .int (nI k), .int (nI v)] [] (mk S) := by
    intro k v hk
    rw [e62_1, if_neg (show ¬ (3 : Int32) ≤ nI k from nI_ge (b := 3) hk (by omega))]
    simp only [O13, oB_s, h2, if_true, nI_add, byteAt_eq h (show p + k ≤ 1000 by omega), cI_s, figC, ii_0]
    by_cases c : isF (bt tp tl (p + k)) = true
    · rw [if_pos c, if_pos c, nI_1]
      have e : nI v * 10 + bt tp tl (p + k) - 48 = nI (10 * v + dv (bt tp tl (p + k))) := by
        rw [(fig_dv c).2, show (10 : Int32) = nI 10 from rfl, pk_mul, nI_add, show (48 : Int32) = nI 48 from rfl, pk_sub (by omega), ← (fig_dv c).2]
        congr 1
        omega
      rw [e]
    · rw [if_neg c, if_neg c]
  have bad : ∀ k v, (k = 0 ∨ k = 3) → EX sc (d + 3) 62 2 [.ref 13, .int (nI lo), .int (nI hi), .int (nI k), .int (nI v)] [] (mk S) = some (some (.int 0), mk (up S 13 3 (nI 1))) := by
    intro k v hk
    rw [e62_2]
    have e3 : EX sc (d + 3) 62 3 [.ref 13, Jk, Jk, Jk, Jk] [] (mk S) = some (some (.int 0), mk (up S 13 3 (nI 1))) := by
      rw [e62_3]
      simp only [O13, if_true, fails_eq, cI_s]
      exact if_pos (Or.inl trivial)
    rcases hk with rfl | rfl
    · rw [if_pos (by decide), e3]
    · rw [if_neg (by decide), if_neg (by decide), e3]
  have good : ∀ k v, (k = 1 ∨ k = 2) → v ≤ 1000 → EX sc (d + 3) 62 2 [.ref 13, .int (nI lo), .int (nI hi), .int (nI k), .int (nI v)] [] (mk S) = if lo ≤ v ∧ v ≤ hi then some (some (.int 1), mk (up (up S 13 4 (nI v)) 13 2 (nI (p + k)))) else some (some (.int 0), mk (up S 13 3 (nI 2))) := by
    intro k v hk hv
    have e4 : EX sc (d + 3) 62 4 [.ref 13, .int (nI lo), .int (nI hi), .int (nI k), .int (nI v)] [] (mk S) = if lo ≤ v ∧ v ≤ hi then some (some (.int 1), mk (up (up S 13 4 (nI v)) 13 2 (nI (p + k)))) else some (some (.int 0), mk (up S 13 3 (nI 2))) := by
      rw [e62_4, within_eq, cI_s, ii_0]
      have e : (nI lo ≤ nI v ∧ nI v ≤ nI hi) ↔ (lo ≤ v ∧ v ≤ hi) := by
        rw [Int32.le_iff_toInt_le, Int32.le_iff_toInt_le, nI_toInt (by omega), nI_toInt (by omega), nI_toInt (by omega)]
        omega
      by_cases c : lo ≤ v ∧ v ≤ hi
      · rw [if_pos (e.mpr c), if_pos c, e62_5]
        simp only [P13, oB_s, O13, up_ne (show ¬ (13 = 13 ∧ 2 = 4) by omega), h2, nI_add]
        exact if_pos (Or.inr trivial)
      · rw [if_neg (fun q => c (e.mp q)), if_neg c]
        simp only [O13, if_true, fails_eq, cI_s]
        exact if_pos (Or.inl trivial)
    rw [e62_2]
    rcases hk with rfl | rfl
    · rw [if_neg (by decide), if_pos (by decide), e4]
    · rw [if_neg (by decide), if_pos (by decide), e4]
  have s0 : EX sc (d + 3) 62 1 [.ref 13, .int (nI lo), .int (nI hi), .int 0, .int 0] [] (mk S) = if isF (bt tp tl p) = true then EX sc (d + 3) 62 1 [.ref 13, .int (nI lo), .int (nI hi), .int (nI 1), .int (nI (10 * 0 + dv (bt tp tl p)))] [] (mk S) else EX sc (d + 3) 62 2 [.ref 13, .int (nI lo), .int (nI hi), .int (nI 0), .int (nI 0)] [] (mk S) := step 0 0 (by omega)
  have s1 : EX sc (d + 3) 62 1 [.ref 13, .int (nI lo), .int (nI hi), .int (nI 1), .int (nI (10 * 0 + dv (bt tp tl p)))] [] (mk S) = if isF (bt tp tl (p + 1)) = true then EX sc (d + 3) 62 1 [.ref 13, .int (nI lo), .int (nI hi), .int (nI 2), .int (nI (10 * (10 * 0 + dv (bt tp tl p)) + dv (bt tp tl (p + 1))))] [] (mk S) else EX sc (d + 3) 62 2 [.ref 13, .int (nI lo), .int (nI hi), .int (nI 1), .int (nI (10 * 0 + dv (bt tp tl p)))] [] (mk S) := step 1 (10 * 0 + dv (bt tp tl p)) (by omega)
  have s2 := step 2 (10 * (10 * 0 + dv (bt tp tl p)) + dv (bt tp tl (p + 1))) (by omega)
  have s3 : ∀ v, EX sc (d + 3) 62 1 [.ref 13, .int (nI lo), .int (nI hi), .int (nI (2 + 1)), .int (nI v)] [] (mk S) = EX sc (d + 3) 62 2 [.ref 13, .int (nI lo), .int (nI hi), .int (nI 3), .int (nI v)] [] (mk S) := fun v => by
    rw [e62_1, if_pos (by decide)]
  rw [e62_0, s0]
  unfold nres
  by_cases f0 : isF (bt tp tl p) = true
  · have d0 := (fig_dv f0).1
    rw [if_pos f0, s1]
    by_cases f1 : isF (bt tp tl (p + 1)) = true
    · have d1 := (fig_dv f1).1
      rw [if_pos f1, s2]
      by_cases f2 : isF (bt tp tl (p + 2)) = true
      · have hfg : fg tp tl p = 3 := by unfold fg; rw [if_pos f0, if_pos f1, if_pos f2]
        rw [if_pos f2, s3, bad 3 _ (Or.inr rfl), hfg, if_pos (Or.inr rfl), if_neg (by decide)]
      · have hfg : fg tp tl p = 2 := by unfold fg; rw [if_pos f0, if_pos f1, if_neg f2]
        have hvl : vl tp tl p = 10 * (10 * 0 + dv (bt tp tl p)) + dv (bt tp tl (p + 1)) := by
          unfold vl; rw [hfg, if_neg (by decide)]; omega
        rw [if_neg f2, good 2 _ (Or.inr rfl) (by omega), ← hvl, hfg, if_neg (show ¬ ((2 : Nat) = 0 ∨ (2 : Nat) = 3) by decide)]
        by_cases c : lo ≤ vl tp tl p ∧ vl tp tl p ≤ hi
        · rw [if_pos c, if_pos c, if_pos rfl]
        · rw [if_neg c, if_neg c, if_neg (by decide)]
    · have hfg : fg tp tl p = 1 := by unfold fg; rw [if_pos f0, if_neg f1]
      have hvl : vl tp tl p = 10 * 0 + dv (bt tp tl p) := by
        unfold vl; rw [hfg, if_pos rfl]; omega
      rw [if_neg f1, good 1 _ (Or.inl rfl) (by omega), ← hvl, hfg, if_neg (show ¬ ((1 : Nat) = 0 ∨ (1 : Nat) = 3) by decide)]
      by_cases c : lo ≤ vl tp tl p ∧ vl tp tl p ≤ hi
      · rw [if_pos c, if_pos c, if_pos rfl]
      · rw [if_neg c, if_neg c, if_neg (by decide)]
  · have hfg : fg tp tl p = 0 := by unfold fg; rw [if_neg f0]
    have b0 : EX sc (d + 3) 62 2 [.ref 13, .int (nI lo), .int (nI hi), .int (nI 0), .int (nI 0)] [] (mk S) = _ := bad 0 0 (Or.inl rfl)
    rw [if_neg f0, b0, hfg, if_pos (Or.inl rfl), if_neg (by decide)]
