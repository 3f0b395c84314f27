/-! byTurns: the reference's loops, and the call -/
def mnO (acc : Nat) : Option Nat → Nat
  | none => acc
  | some r => if acc ≤ r then acc else r
def mxO (x v : Nat) : Nat := if 7 ≤ v ∨ v + 1 ≤ x then x else v + 1
def mnX (acc x : Nat) : Nat := if x = 0 ∨ acc ≤ x - 1 then acc else x - 1
def fld (D : Nat → Nat) : Nat → Nat
  | 0 => 0
  | i + 1 => mxO (fld D i) (D i)
def D2 (m n : Nat) (a : Hs) (p1 b1 p2 : Nat) : Nat := mnO (mnO 7 (gV m n a p1 b1 p2 0)) (gV m n a p1 b1 p2 1)
def M2 (m n : Nat) (a : Hs) (p1 b1 : Nat) : Nat := fld (D2 m n a p1 b1) (a 0 3 + 1)
def D1 (m n : Nat) (a : Hs) (p1 : Nat) : Nat := mnX (mnX 7 (M2 m n a p1 0)) (M2 m n a p1 1)
def M1 (m n : Nat) (a : Hs) : Nat := fld (D1 m n a) (a 0 3 + 1)
theorem gV_le {m n : Nat} {a : Hs} {p1 b1 p2 b2 v : Nat} (h : gV m n a p1 b1 p2 b2 = some v) : v ≤ 6 := by
  unfold gV at h
  split at h
  · have := Option.some.inj h
    have := leafV_le m (stB (stP (stB (stP a p1) b1) p2) b2)
    omega
  · cases h
theorem mnO_le {acc : Nat} {o : Option Nat} : mnO acc o ≤ acc := by
  cases o with
  | none => exact Nat.le_refl _
  | some r =>
    show (if acc ≤ r then acc else r) ≤ acc
    split <;> omega
theorem D2_le {m n : Nat} {a : Hs} {p1 b1 p2 : Nat} : D2 m n a p1 b1 p2 ≤ 7 := Nat.le_trans mnO_le mnO_le
theorem fld_le {D : Nat → Nat} : ∀ i, fld D i ≤ 7
  | 0 => by show 0 ≤ 7; omega
  | i + 1 => by
    show mxO (fld D i) (D i) ≤ 7
    have := fld_le (D := D) i
    unfold mxO
    split <;> omega
theorem mnX_le {acc x : Nat} : mnX acc x ≤ acc := by
  unfold mnX
  split <;> omega
theorem nIm1_le {v x : Nat} (hv : v ≤ 1000) (hx : x ≤ 1000) : (nI v ≤ nI x - 1) ↔ v + 1 ≤ x := by
  rw [Int32.le_iff_toInt_le, nI_toInt (by omega), show nI x - 1 = nI x - nI 1 from rfl, pk_sub_toInt (by omega) (by omega)]
  omega
theorem nIm1_neg {x : Nat} (hx : x ≤ 1000) : (nI x - 1 < 0) ↔ x = 0 := by
  rw [Int32.lt_iff_toInt_lt, show nI x - 1 = nI x - nI 1 from rfl, pk_sub_toInt (by omega) (by omega), show Int32.toInt 0 = 0 from rfl]
  omega
theorem lpT7 {X : Xs} (hX : XOk X) {m n p1 b1 p2 b2 : Nat} (hm : m ≤ 20) (hn : n ≤ 4) (hp1 : p1 ≤ X.nw 0 3) (hb1 : b1 ≤ 1) (hp2 : p2 ≤ X.nw 0 3) (hb2 : b2 ≤ 1) (x3 x5 x7 : Int32) {acc : Nat} (hacc : acc ≤ 7) (sc : Nat × (Nat → Int32)) (d : Nat) (S : Nat → Nat → Int32) (hM : MP S X) : ∃ S', EX sc (d + 8) 200 7 [.ref 359, .int (nI n), .int (nI m), .int x3, .int (nI p1), .int x5, .int (nI b1), .int x7, .int (nI p2), .int (nI acc), .int (nI b2), Jk] [] (mk S) = EX sc (d + 8) 200 7 [.ref 359, .int (nI n), .int (nI m), .int x3, .int (nI p1), .int x5, .int (nI b1), .int x7, .int (nI p2), .int (nI (mnO acc (gV m n X.nw p1 b1 p2 b2))), .int (nI (b2 + 1)), Jk] [] (mk S') ∧ FN S S' := by
  obtain ⟨S1, k1, k2⟩ := eval199 hX hm hn hp1 hb1 hp2 hb2 sc d S hM
  refine ⟨S1, ?_, k2⟩
  rw [e200_7, if_neg (show ¬ (2 : Int32) ≤ nI b2 from nI_ge (b := 2) (by omega) (by omega))]
  simp only [O359, if_true, k1, cI_s]
  cases hg : gV m n X.nw p1 b1 p2 b2 with
  | none =>
    rw [if_pos (show gIo none < 0 by decide), e200_8, e200_9, nI_1]
    rfl
  | some v =>
    have hv := gV_le hg
    rw [if_neg (show ¬ gIo (some v) < 0 from nI_pos (by omega))]
    show (if nI acc ≤ nI v then _ else _) = _
    by_cases c : acc ≤ v
    · rw [if_pos (nI_le c (by omega)), e200_8, e200_9, nI_1, show mnO acc (some v) = acc from if_pos c]
    · rw [if_neg (nI_ge (by omega) (by omega)), e200_9, nI_1, show mnO acc (some v) = v from if_neg c]
      rfl
theorem lpT6 {X : Xs} (hX : XOk X) {m n p1 b1 : Nat} (hm : m ≤ 20) (hn : n ≤ 4) (hp1 : p1 ≤ X.nw 0 3) (hb1 : b1 ≤ 1) (x3 x5 : Int32) (sc : Nat × (Nat → Int32)) (d : Nat) : ∀ (q p2 : Nat) (S : Nat → Nat → Int32), p2 + q = X.nw 0 3 + 1 → MP S X → ∃ S', EX sc (d + 8) 200 6 [.ref 359, .int (nI n), .int (nI m), .int x3, .int (nI p1), .int x5, .int (nI b1), .int (nI (fld (D2 m n X.nw p1 b1) p2) - 1), .int (nI p2), Jk, Jk, Jk] [] (mk S) = EX sc (d + 8) 200 13 [.ref 359, .int (nI n), .int (nI m), .int x3, .int (nI p1), .int x5, .int (nI b1), .int (nI (M2 m n X.nw p1 b1) - 1), Jk, Jk, Jk, Jk] [] (mk S') ∧ FN S S' := by
  have h6 := hX.l6
  intro q
  induction q with
  | zero =>
    intro p2 S hq hM
    refine ⟨S, ?_, FN.rf _⟩
    rw [e200_6]
    simp only [O359, oB_s, hM.stat.2.1]
    rw [if_pos ((nI_ltI (by omega) (by omega)).mpr (by omega)), show p2 = X.nw 0 3 + 1 by omega]
    rfl
  | succ q ih =>
    intro p2 S hq hM
    obtain ⟨S1, k1, k2⟩ := lpT7 hX hm hn hp1 hb1 (show p2 ≤ X.nw 0 3 by omega) (show 0 ≤ 1 by omega) x3 x5 (nI (fld (D2 m n X.nw p1 b1) p2) - 1) (acc := 7) (by omega) sc d S hM
    obtain ⟨S2, m1, m2⟩ := lpT7 hX hm hn hp1 hb1 (show p2 ≤ X.nw 0 3 by omega) (show 1 ≤ 1 by omega) x3 x5 (nI (fld (D2 m n X.nw p1 b1) p2) - 1) (acc := mnO 7 (gV m n X.nw p1 b1 p2 0)) mnO_le sc d S1 (hM.fn hX k2)
    have f2 := k2.tr m2
    obtain ⟨S3, n1, n2⟩ := ih (p2 + 1) S2 (by omega) (hM.fn hX f2)
    refine ⟨S3, ?_, f2.tr n2⟩
    rw [e200_6]
    simp only [O359, oB_s, hM.stat.2.1]
    rw [if_neg (nI_nlt (by omega) (by omega))]
    have k1' : EX sc (d + 8) 200 7 [.ref 359, .int (nI n), .int (nI m), .int x3, .int (nI p1), .int x5, .int (nI b1), .int (nI (fld (D2 m n X.nw p1 b1) p2) - 1), .int (nI p2), .int 7, .int 0, Jk] [] (mk S) = _ := k1
    rw [k1', m1, e200_7, if_pos (show (2 : Int32) ≤ nI (1 + 1) by decide), e200_10]
    have hd := D2_le (m := m) (n := n) (a := X.nw) (p1 := p1) (b1 := b1) (p2 := p2)
    have hf := fld_le (D := D2 m n X.nw p1 b1) p2
    have hst : fld (D2 m n X.nw p1 b1) (p2 + 1) = mxO (fld (D2 m n X.nw p1 b1) p2) (D2 m n X.nw p1 b1 p2) := rfl
    show (if (7 : Int32) ≤ nI (D2 m n X.nw p1 b1 p2) then _ else if nI (D2 m n X.nw p1 b1 p2) ≤ nI (fld (D2 m n X.nw p1 b1) p2) - 1 then _ else EX sc (d + 8) 200 12 [.ref 359, .int (nI n), .int (nI m), .int x3, .int (nI p1), .int x5, .int (nI b1), Jk, .int (nI p2), Jk, Jk, Jk] [.int (nI (D2 m n X.nw p1 b1 p2))] (mk S2)) = _
    unfold mxO at hst
    by_cases c1 : 7 ≤ D2 m n X.nw p1 b1 p2
    · rw [if_pos (Or.inl c1)] at hst
      rw [if_pos (show (7 : Int32) ≤ _ from nI_le (a := 7) c1 (by omega)), e200_11, e200_12, nI_1, ← hst]
      exact n1
    · rw [if_neg (show ¬ (7 : Int32) ≤ _ from nI_ge (b := 7) (by omega) (by omega))]
      by_cases c2 : D2 m n X.nw p1 b1 p2 + 1 ≤ fld (D2 m n X.nw p1 b1) p2
      · rw [if_pos (Or.inr c2)] at hst
        rw [if_pos ((nIm1_le (by omega) (by omega)).mpr c2), e200_11, e200_12, nI_1, ← hst]
        exact n1
      · rw [if_neg (by omega)] at hst
        rw [hst, nI_pred] at n1
        rw [if_neg (fun z => c2 ((nIm1_le (by omega) (by omega)).mp z)), e200_12, nI_1]
        exact n1
theorem lpT5 {X : Xs} (hX : XOk X) {m n p1 b1 : Nat} (hm : m ≤ 20) (hn : n ≤ 4) (hp1 : p1 ≤ X.nw 0 3) (hb1 : b1 ≤ 1) (x3 : Int32) {acc : Nat} (hacc : acc ≤ 7) (sc : Nat × (Nat → Int32)) (d : Nat) (S : Nat → Nat → Int32) (hM : MP S X) : ∃ S', EX sc (d + 8) 200 5 [.ref 359, .int (nI n), .int (nI m), .int x3, .int (nI p1), .int (nI acc), .int (nI b1), Jk, Jk, Jk, Jk, Jk] [] (mk S) = EX sc (d + 8) 200 5 [.ref 359, .int (nI n), .int (nI m), .int x3, .int (nI p1), .int (nI (mnX acc (M2 m n X.nw p1 b1))), .int (nI (b1 + 1)), Jk, Jk, Jk, Jk, Jk] [] (mk S') ∧ FN S S' := by
  obtain ⟨S1, k1, k2⟩ := lpT6 hX hm hn hp1 hb1 x3 (nI acc) sc d (X.nw 0 3 + 1) 0 S (by omega) hM
  refine ⟨S1, ?_, k2⟩
  have k1' : EX sc (d + 8) 200 6 [.ref 359, .int (nI n), .int (nI m), .int x3, .int (nI p1), .int (nI acc), .int (nI b1), .int (-1), .int 0, Jk, Jk, Jk] [] (mk S) = _ := k1
  rw [e200_5, if_neg (show ¬ (2 : Int32) ≤ nI b1 from nI_ge (b := 2) (by omega) (by omega)), k1', e200_13]
  have hf : M2 m n X.nw p1 b1 ≤ 7 := fld_le _
  generalize M2 m n X.nw p1 b1 = x at hf ⊢
  by_cases c1 : x = 0
  · rw [if_pos ((nIm1_neg (by omega)).mpr c1), e200_14, e200_15, nI_1, show mnX acc x = acc from if_pos (Or.inl c1)]
  · rw [if_neg (fun z => c1 ((nIm1_neg (by omega)).mp z))]
    by_cases c2 : acc ≤ x - 1
    · rw [if_pos ((nIm1_le (by omega) (by omega)).mpr (by omega)), e200_14, e200_15, nI_1, show mnX acc x = acc from if_pos (Or.inr c2)]
    · rw [if_neg (fun z => by have := (nIm1_le (by omega) (by omega)).mp z; omega), e200_15, nI_1, show mnX acc x = x - 1 from if_neg (by omega), show nI x - 1 = nI (x - 1) from pk_sub (b := 1) (by omega)]
theorem lpT4 {X : Xs} (hX : XOk X) {m n : Nat} (hm : m ≤ 20) (hn : n ≤ 4) (sc : Nat × (Nat → Int32)) (d : Nat) : ∀ (q p1 : Nat) (S : Nat → Nat → Int32), p1 + q = X.nw 0 3 + 1 → MP S X → ∃ S', EX sc (d + 8) 200 4 [.ref 359, .int (nI n), .int (nI m), .int (nI (fld (D1 m n X.nw) p1) - 1), .int (nI p1), Jk, Jk, Jk, Jk, Jk, Jk, Jk] [] (mk S) = some (some (.int (nI (M1 m n X.nw) - 1)), mk S') ∧ FN S S' := by
  have h6 := hX.l6
  intro q
  induction q with
  | zero =>
    intro p1 S hq hM
    refine ⟨S, ?_, FN.rf _⟩
    rw [e200_4]
    simp only [O359, oB_s, hM.stat.2.1]
    rw [if_pos ((nI_ltI (by omega) (by omega)).mpr (by omega)), e200_19, show p1 = X.nw 0 3 + 1 by omega]
    rfl
  | succ q ih =>
    intro p1 S hq hM
    obtain ⟨S1, k1, k2⟩ := lpT5 hX hm hn (show p1 ≤ X.nw 0 3 by omega) (show 0 ≤ 1 by omega) (nI (fld (D1 m n X.nw) p1) - 1) (acc := 7) (by omega) sc d S hM
    obtain ⟨S2, m1, m2⟩ := lpT5 hX hm hn (show p1 ≤ X.nw 0 3 by omega) (show 1 ≤ 1 by omega) (nI (fld (D1 m n X.nw) p1) - 1) (acc := mnX 7 (M2 m n X.nw p1 0)) mnX_le sc d S1 (hM.fn hX k2)
    have f2 := k2.tr m2
    obtain ⟨S3, n1, n2⟩ := ih (p1 + 1) S2 (by omega) (hM.fn hX f2)
    refine ⟨S3, ?_, f2.tr n2⟩
    rw [e200_4]
    simp only [O359, oB_s, hM.stat.2.1]
    rw [if_neg (nI_nlt (by omega) (by omega))]
    have k1' : EX sc (d + 8) 200 5 [.ref 359, .int (nI n), .int (nI m), .int (nI (fld (D1 m n X.nw) p1) - 1), .int (nI p1), .int 7, .int 0, Jk, Jk, Jk, Jk, Jk] [] (mk S) = _ := k1
    rw [k1', m1, e200_5, if_pos (show (2 : Int32) ≤ nI (1 + 1) by decide), e200_16]
    have hd : D1 m n X.nw p1 ≤ 7 := Nat.le_trans mnX_le mnX_le
    have hf := fld_le (D := D1 m n X.nw) p1
    have hst : fld (D1 m n X.nw) (p1 + 1) = mxO (fld (D1 m n X.nw) p1) (D1 m n X.nw p1) := rfl
    show (if (7 : Int32) ≤ nI (D1 m n X.nw p1) then _ else if nI (D1 m n X.nw p1) ≤ nI (fld (D1 m n X.nw) p1) - 1 then _ else EX sc (d + 8) 200 18 [.ref 359, .int (nI n), .int (nI m), Jk, .int (nI p1), Jk, Jk, Jk, Jk, Jk, Jk, Jk] [.int (nI (D1 m n X.nw p1))] (mk S2)) = _
    unfold mxO at hst
    by_cases c1 : 7 ≤ D1 m n X.nw p1
    · rw [if_pos (Or.inl c1)] at hst
      rw [if_pos (show (7 : Int32) ≤ _ from nI_le (a := 7) c1 (by omega)), e200_17, e200_18, nI_1, ← hst]
      exact n1
    · rw [if_neg (show ¬ (7 : Int32) ≤ _ from nI_ge (b := 7) (by omega) (by omega))]
      by_cases c2 : D1 m n X.nw p1 + 1 ≤ fld (D1 m n X.nw) p1
      · rw [if_pos (Or.inr c2)] at hst
        rw [if_pos ((nIm1_le (by omega) (by omega)).mpr c2), e200_17, e200_18, nI_1, ← hst]
        exact n1
      · rw [if_neg (by omega)] at hst
        rw [hst, nI_pred] at n1
        rw [if_neg (fun z => c2 ((nIm1_le (by omega) (by omega)).mp z)), e200_18, nI_1]
        exact n1
/-! the loops as the game's worth -/
theorem fld_max {D g : Nat → Nat} {p : Nat → Bool} {b : Nat} : ∀ i, (∀ j, j < i → g j ≤ 6 ∧ D j = if p j = true then g j else 7) → max (fld D i) (b + 1) = mxV g p b i + 1
  | 0, _ => by
    show max 0 (b + 1) = b + 1
    omega
  | i + 1, h => by
    have ih := fld_max (b := b) i (fun j hj => h j (by omega))
    obtain ⟨h1, h2⟩ := h i (by omega)
    show max (mxO (fld D i) (D i)) (b + 1) = (if p i = true then max (mxV g p b i) (g i) else mxV g p b i) + 1
    unfold mxO
    by_cases c : p i = true
    · rw [if_pos c] at h2 ⊢
      split <;> omega
    · rw [if_neg c] at h2 ⊢
      rw [if_pos (Or.inl (by omega))]
      exact ih
theorem fld_no {D : Nat → Nat} : ∀ i, (∀ j, j < i → D j = 7) → fld D i = 0
  | 0, _ => rfl
  | i + 1, h => by
    show mxO (fld D i) (D i) = 0
    unfold mxO
    rw [if_pos (Or.inl (by rw [h i (by omega)]; exact Nat.le_refl _)), fld_no i (fun j hj => h j (by omega))]
theorem fld_last {D : Nat → Nat} {L b : Nat} (hb : b ≤ 6) (h : D L = b) : fld D (L + 1) = max (fld D L) (b + 1) := by
  show mxO (fld D L) (D L) = _
  rw [h]
  unfold mxO
  split <;> omega
theorem stB_0 (a : Hs) : stB a 0 = a := by
  unfold stB
  split
  · rw [Nat.sub_zero, upA_self]
  · rfl
theorem stP_L (a : Hs) : stP a (a 0 3) = a := if_neg (by omega)
theorem stP_p {a : Hs} {p : Nat} (hp : p < a 0 3) (h : a 5 p < 20) : stP a p = pkA a p := if_pos ⟨hp, h⟩
def vld (n : Nat) (a : Hs) (p1 b1 p2 : Nat) : Prop := (okP a p1 = true ∧ okP (stB (stP a p1) b1) p2 = true) ∧ (1 ≤ n ∨ p1 = a 0 3) ∧ (2 ≤ n ∨ b1 = 0) ∧ (3 ≤ n ∨ p2 = a 0 3)
theorem D2_v {m n : Nat} {a : Hs} {p1 b1 p2 : Nat} (hn : n ≤ 4) (h : vld n a p1 b1 p2) : D2 m n a p1 b1 p2 = vT m (n - 3) 3 (stP (stB (stP a p1) b1) p2) := by
  obtain ⟨h1, h2, h3, h4⟩ := h
  unfold D2
  have g0 : gV m n a p1 b1 p2 0 = some (leafV m (stP (stB (stP a p1) b1) p2)) := by
    unfold gV
    rw [if_pos ⟨h1, h2, h3, h4, Or.inr rfl⟩, stB_0]
  rw [g0]
  generalize hst : stP (stB (stP a p1) b1) p2 = st
  have l0 := leafV_le m st
  have e0 : mnO 7 (some (leafV m st)) = leafV m st := if_neg (by omega)
  rw [e0]
  by_cases c : 4 ≤ n
  · have g1 : gV m n a p1 b1 p2 1 = some (leafV m (stB st 1)) := by
      unfold gV
      rw [if_pos ⟨h1, h2, h3, h4, Or.inl c⟩, hst]
    rw [g1, show n - 3 = 0 + 1 by omega]
    show (if leafV m st ≤ leafV m (stB st 1) then leafV m st else leafV m (stB st 1)) = (if 2 < st 0 1 then min (leafV m st) (leafV m (upA st 0 1 (st 0 1 - 1))) else leafV m st)
    by_cases c2 : 2 < st 0 1
    · rw [show stB st 1 = upA st 0 1 (st 0 1 - 1) from if_pos c2, if_pos c2]
      split <;> omega
    · rw [show stB st 1 = st from if_neg c2, if_neg c2]
      split <;> rfl
  · have g1 : gV m n a p1 b1 p2 1 = none := by
      unfold gV
      rw [if_neg (fun q => by have := q.2.2.2.2; omega)]
    rw [g1, show n - 3 = 0 by omega]
    rfl
theorem D2_n {m n : Nat} {a : Hs} {p1 b1 p2 : Nat} (h : ¬ vld n a p1 b1 p2) : D2 m n a p1 b1 p2 = 7 := by
  unfold D2
  have g : ∀ b2, gV m n a p1 b1 p2 b2 = none := fun b2 => by
    unfold gV
    exact if_neg (fun q => h ⟨q.1, q.2.1, q.2.2.1, q.2.2.2.1⟩)
  rw [g, g]
  rfl
theorem ok_L (a : Hs) : okP a (a 0 3) = true := decide_eq_true (Or.inl rfl)
theorem M2_v {m n : Nat} {a : Hs} {p1 b1 : Nat} (hn : n ≤ 4) (h1 : okP a p1 = true) (h2 : 1 ≤ n ∨ p1 = a 0 3) (h3 : 2 ≤ n ∨ b1 = 0) : M2 m n a p1 b1 = vT m (n - 2) 2 (stB (stP a p1) b1) + 1 := by
  unfold M2
  have hL : (stB (stP a p1) b1) 0 3 = a 0 3 := by rw [stB_3, stP_3]
  generalize hst : stB (stP a p1) b1 = st at hL
  have vL : vld n a p1 b1 (a 0 3) := ⟨⟨h1, by rw [hst, ← hL]; exact ok_L st⟩, h2, h3, Or.inr rfl⟩
  have dL : D2 m n a p1 b1 (a 0 3) = vT m (n - 3) 3 st := by
    rw [D2_v hn vL, hst]
    congr 1
    rw [← hL]
    exact stP_L st
  rw [fld_last (vT_le _ _ _) dL]
  by_cases c : 3 ≤ n
  · rw [fld_max (g := fun i => vT m (n - 3) 3 (pkA st i)) (p := fun i => decide (st 5 i < 20)) (a 0 3) (fun j hj => ⟨vT_le _ _ _, ?_⟩)]
    · rw [show n - 2 = (n - 3) + 1 by omega, ← hL]
      rfl
    · by_cases e : st 5 j < 20
      · rw [if_pos (decide_eq_true e), D2_v hn ⟨⟨h1, by rw [hst]; exact decide_eq_true (Or.inr e)⟩, h2, h3, Or.inl c⟩, hst, stP_p (by omega) e]
      · rw [if_neg (by simp [e]), D2_n (fun q => ?_)]
        have := q.1.2
        rw [hst] at this
        have := of_decide_eq_true this
        omega
  · rw [fld_no (a 0 3) (fun j hj => D2_n (fun q => by have := q.2.2.2; omega)), show n - 2 = 0 by omega, show n - 3 = 0 by omega]
    show max 0 (leafV m st + 1) = leafV m st + 1
    omega
theorem M2_n {m n : Nat} {a : Hs} {p1 b1 : Nat} (h : ¬ (okP a p1 = true ∧ (1 ≤ n ∨ p1 = a 0 3) ∧ (2 ≤ n ∨ b1 = 0))) : M2 m n a p1 b1 = 0 :=
  fld_no _ (fun _ _ => D2_n (fun q => h ⟨q.1.1, q.2.1, q.2.2.1⟩))
theorem D1_v {m n : Nat} {a : Hs} {p1 : Nat} (hn : n ≤ 4) (h1 : okP a p1 = true) (h2 : 1 ≤ n ∨ p1 = a 0 3) : D1 m n a p1 = vT m (n - 1) 1 (stP a p1) := by
  unfold D1
  rw [M2_v hn h1 h2 (Or.inr rfl), stB_0]
  generalize hst : stP a p1 = st
  have l0 := vT_le (m := m) (n - 2) 2 st
  have e0 : mnX 7 (vT m (n - 2) 2 st + 1) = vT m (n - 2) 2 st := by
    unfold mnX
    rw [if_neg (by omega)]
    omega
  rw [e0]
  by_cases c : 2 ≤ n
  · rw [M2_v hn h1 h2 (Or.inl c), hst, show n - 1 = (n - 2) + 1 by omega]
    show mnX (vT m (n - 2) 2 st) (vT m (n - 2) 2 (stB st 1) + 1) = (if 2 < st 0 1 then min (vT m (n - 2) 2 st) (vT m (n - 2) 2 (upA st 0 1 (st 0 1 - 1))) else vT m (n - 2) 2 st)
    unfold mnX
    by_cases c2 : 2 < st 0 1
    · rw [show stB st 1 = upA st 0 1 (st 0 1 - 1) from if_pos c2, if_pos c2]
      split <;> omega
    · rw [show stB st 1 = st from if_neg c2, if_neg c2]
      split <;> omega
  · rw [M2_n (fun q => by have := q.2.2; omega), show n - 2 = 0 by omega, show n - 1 = 0 by omega]
    rfl
theorem D1_n {m n : Nat} {a : Hs} {p1 : Nat} (h : ¬ (okP a p1 = true ∧ (1 ≤ n ∨ p1 = a 0 3))) : D1 m n a p1 = 7 := by
  unfold D1
  rw [M2_n (fun q => h ⟨q.1, q.2.1⟩), M2_n (fun q => h ⟨q.1, q.2.1⟩)]
  rfl
theorem M1_v {m n : Nat} {a : Hs} (hn : n ≤ 4) : M1 m n a = vT m n 0 a + 1 := by
  unfold M1
  have dL : D1 m n a (a 0 3) = vT m (n - 1) 1 a := by rw [D1_v hn (ok_L a) (Or.inr rfl), stP_L]
  rw [fld_last (vT_le _ _ _) dL]
  by_cases c : 1 ≤ n
  · rw [fld_max (g := fun i => vT m (n - 1) 1 (pkA a i)) (p := fun i => decide (a 5 i < 20)) (a 0 3) (fun j hj => ⟨vT_le _ _ _, ?_⟩)]
    · obtain ⟨k, hk⟩ : ∃ k, n = k + 1 := ⟨n - 1, by omega⟩
      rw [hk]
      rfl
    · by_cases e : a 5 j < 20
      · rw [if_pos (decide_eq_true e), D1_v hn (decide_eq_true (Or.inr e)) (Or.inl c), stP_p hj e]
      · rw [if_neg (by simp [e]), D1_n (fun q => ?_)]
        have := of_decide_eq_true q.1
        omega
  · rw [fld_no (a 0 3) (fun j hj => D1_n (fun q => by have := q.2; omega)), show n - 1 = 0 by omega, show n = 0 by omega]
    show max 0 (leafV m a + 1) = leafV m a + 1
    omega
theorem op_byTurns (sc : Nat × (Nat → Int32)) (y z : Int32) : St2 sc 106 [.ref 0, .int y, .int z] 200 [.ref 359, .int y, .int z, Jk, Jk, Jk, Jk, Jk, Jk, Jk, Jk, Jk] := by
  rintro S ⟨X, hX, hC, hM⟩
  have h6 := hX.l6
  have hiny := fun S => inL sc y 0 4 0 4 S 37 rfl rfl
  have hinz := fun S => inL sc z 1 20 1 20 S 37 rfl rfl
  by_cases c0 : X.nw 0 3 = 0
  · refine ⟨-1000002, S, S, ?_, ?_, X, hX, hC, hM⟩
    · rw [e106_0]
      simp only [O0, if_true, hasNoC hC hX, cI_s, ii_0]
      rw [if_pos c0]
    · rw [e200_0]
      simp only [O359, oB_s]
      rw [if_pos ((hasM hM).mpr c0)]
  · by_cases c1 : 0 ≤ y ∧ y ≤ 4
    · by_cases c2 : 1 ≤ z ∧ z ≤ 20
      · obtain ⟨n, hn, rfl⟩ := toN (N := 4) (by omega) c1
        obtain ⟨m, hm1, hm, rfl⟩ := toN2 (l := 1) (N := 20) (by omega) (by omega) c2
        obtain ⟨S1, k1, k2⟩ := turns_C hC.now (hX.okT (n := m) (by omega)) hm hn sc
        refine stq (r := nI (vT m n 0 X.nw)) hX hC hM ⟨S1, ?_, k2⟩ (fun T hT => ?_)
        · rw [e106_0]
          simp only [O0, if_true, hasNoC hC hX, cI_s, ii_0]
          rw [if_neg c0, e106_1]
          simp only [within_eq, cI_s, ii_0]
          rw [if_pos c1, if_pos c2, e106_3]
          simp only [O0, O45, oB_s, if_true, k1, cI_s]
        · obtain ⟨T1, m1, m2⟩ := lpT4 hX hm hn sc 31 (X.nw 0 3 + 1) 0 T (by omega) hT
          refine ⟨T1, ?_, m2⟩
          rw [M1_v hn, nI_pred] at m1
          rw [e200_0]
          simp only [O359, oB_s]
          rw [if_neg (fun q => c0 ((hasM hT).mp q)), e200_1]
          simp only [hiny, hinz, cI_s, ii_0]
          rw [if_pos c1, if_pos c2, e200_3]
          exact m1
      · refine ⟨-1000001, S, S, ?_, ?_, X, hX, hC, hM⟩
        · rw [e106_0]
          simp only [O0, if_true, hasNoC hC hX, cI_s, ii_0]
          rw [if_neg c0, e106_1]
          simp only [within_eq, cI_s, ii_0]
          rw [if_pos c1, if_neg c2, e106_2]
        · rw [e200_0]
          simp only [O359, oB_s]
          rw [if_neg (fun q => c0 ((hasM hM).mp q)), e200_1]
          simp only [hiny, hinz, cI_s, ii_0]
          rw [if_pos c1, if_neg c2, e200_2]
    · refine ⟨-1000001, S, S, ?_, ?_, X, hX, hC, hM⟩
      · rw [e106_0]
        simp only [O0, if_true, hasNoC hC hX, cI_s, ii_0]
        rw [if_neg c0, e106_1]
        simp only [within_eq, cI_s, ii_0]
        rw [if_neg c1, e106_2]
      · rw [e200_0]
        simp only [O359, oB_s]
        rw [if_neg (fun q => c0 ((hasM hM).mp q)), e200_1]
        simp only [hiny, cI_s, ii_0]
        rw [if_neg c1, e200_2]
