/-! the face: what all calls use -/
def Inv (S : Nat → Nat → Int32) : Prop := ∃ X, XOk X ∧ CR S X ∧ MP S X
def St2 (sc : Nat × (Nat → Int32)) (cm : Nat) (cl : List Value) (mm : Nat) (ml : List Value) : Prop := ∀ S, Inv S → ∃ r S1 S2, EX sc 39 cm 0 cl [] (mk S) = some (some (.int r), mk S1) ∧ EX sc 39 mm 0 ml [] (mk S1) = some (some (.int r), mk S2) ∧ Inv S2
def FrC (S S' : Nat → Nat → Int32) : Prop := ∀ k, 359 ≤ k → S' k = S k
def FrM (S S' : Nat → Nat → Int32) : Prop := ∀ k, k < 359 → S' k = S k
theorem FrC.rf (S : Nat → Nat → Int32) : FrC S S := fun _ _ => rfl
theorem FrM.rf (S : Nat → Nat → Int32) : FrM S S := fun _ _ => rfl
theorem FrC.tr {S S' S'' : Nat → Nat → Int32} (h1 : FrC S S') (h2 : FrC S' S'') : FrC S S'' := fun k a => (h2 k a).trans (h1 k a)
theorem FrM.tr {S S' S'' : Nat → Nat → Int32} (h1 : FrM S S') (h2 : FrM S' S'') : FrM S S'' := fun k a => (h2 k a).trans (h1 k a)
theorem FrC.up {S : Nat → Nat → Int32} {k j : Nat} {x : Int32} (h : k < 359) : FrC S (up S k j x) := fun _ hk => up_row_ne (by omega)
theorem FrM.up {S : Nat → Nat → Int32} {k j : Nat} {x : Int32} (h : 359 ≤ k) : FrM S (up S k j x) := fun _ hk => up_row_ne (by omega)
theorem Fr.c {p : Nat} {S S' : Nat → Nat → Int32} (h : Fr p S S') (hp : isH p) : FrC S S' := fun k hk => h k (by have := isH_lt hp; omega)
theorem FS.c {S S' : Nat → Nat → Int32} (h : FS S S') : FrC S S' := fun k hk => h.1 k (by omega) (by omega) (by omega)
theorem FM.m {S S' : Nat → Nat → Int32} (h : FM S S') : FrM S S' := fun k hk => h k (by omega)
theorem FN.m {S S' : Nat → Nat → Int32} (h : FN S S') : FrM S S' := fun k hk => h.1 k (by omega) (by omega)
theorem stp {sc : Nat × (Nat → Int32)} {cm mm : Nat} {cl ml : List Value} {S : Nat → Nat → Int32} {X X' : Xs} {r : Int32} (hX : XOk X) (hX' : XOk X') (hM : MP S X) (c : ∃ S1, EX sc 39 cm 0 cl [] (mk S) = some (some (.int r), mk S1) ∧ CR S1 X' ∧ FrC S S1) (m : ∀ S1, MP S1 X → ∃ S2, EX sc 39 mm 0 ml [] (mk S1) = some (some (.int r), mk S2) ∧ MP S2 X' ∧ FrM S1 S2) : ∃ r S1 S2, EX sc 39 cm 0 cl [] (mk S) = some (some (.int r), mk S1) ∧ EX sc 39 mm 0 ml [] (mk S1) = some (some (.int r), mk S2) ∧ Inv S2 := by
  obtain ⟨S1, c1, c2, c3⟩ := c
  obtain ⟨S2, m1, m2, m3⟩ := m S1 (hM.cg hX c3)
  exact ⟨r, S1, S2, c1, m1, X', hX', c2.cg m3, m2⟩
theorem i10 : ¬ (1 : Int32) = 0 := by decide
theorem within_eq (S : Nat → Nat → Int32) (x lo hi : Int32) (sc : Nat × (Nat → Int32)) (d : Nat) : EX sc (d + 1) 118 0 [.int x, .int lo, .int hi] [] (mk S) = some (some (.int (if lo ≤ x ∧ x ≤ hi then 1 else 0)), mk S) := by
  rw [e118_0, e118_1]
  simp only [or_true, true_or, if_true]
  by_cases h1 : x < lo
  · rw [if_pos h1, if_neg (fun q => by have := q.1; rw [Int32.le_iff_toInt_le] at this; rw [Int32.lt_iff_toInt_lt] at h1; omega)]
  · rw [if_neg h1]
    by_cases h2 : hi < x
    · rw [if_pos h2, if_neg (fun q => by have := q.2; rw [Int32.le_iff_toInt_le] at this; rw [Int32.lt_iff_toInt_lt] at h2; omega)]
    · rw [if_neg h2, if_pos ⟨by rw [Int32.lt_iff_toInt_lt] at h1; rw [Int32.le_iff_toInt_le]; omega, by rw [Int32.lt_iff_toInt_lt] at h2; rw [Int32.le_iff_toInt_le]; omega⟩]
theorem in_eq (S : Nat → Nat → Int32) (x lo hi : Int32) (sc : Nat × (Nat → Int32)) (d : Nat) : EX sc (d + 1) 134 0 [.long (Int32.toInt64 x), Jk, .long (Int32.toInt64 lo), Jk, .long (Int32.toInt64 hi), Jk] [] (mk S) = some (some (.int (if lo ≤ x ∧ x ≤ hi then 1 else 0)), mk S) := by
  rw [e134_0, e134_1]
  simp only [or_true, true_or, if_true, lg_cmp_lt, lg_cmp_gt, Int64.lt_iff_toInt_lt, Int32.toInt_toInt64, Int32.le_iff_toInt_le]
  by_cases h1 : x.toInt < lo.toInt
  · rw [if_pos h1, if_neg (fun q => by omega)]
  · rw [if_neg h1]
    by_cases h2 : hi.toInt < x.toInt
    · rw [if_pos h2, if_neg (fun q => by omega)]
    · rw [if_neg h2, if_pos ⟨by omega, by omega⟩]
theorem ii_ok {P : Prop} [Decidable P] {A : Option Res} : (if (if P then (1 : Int32) else 0) = 0 ∨ (if P then (1 : Int32) else 0) = 1 then A else none) = A := by
  by_cases h : P
  · rw [if_pos h, if_pos (Or.inr rfl)]
  · rw [if_neg h, if_pos (Or.inl rfl)]
theorem ii_0 {P : Prop} [Decidable P] {α : Type} {A B : α} : (if (if P then (1 : Int32) else 0) = 0 then A else B) = if P then B else A := by
  by_cases h : P
  · rw [if_pos h, if_pos h, if_neg i10]
  · rw [if_neg h, if_neg h, if_pos rfl]
theorem isRowC (S : Nat → Nat → Int32) (x : Int32) (sc : Nat × (Nat → Int32)) (d : Nat) : EX sc (d + 2) 119 0 [.int x] [] (mk S) = some (some (.int (if 0 ≤ x ∧ x ≤ 7 then 1 else 0)), mk S) := by
  rw [e119_0, within_eq, cI_s, ii_ok]
theorem isRowM (S : Nat → Nat → Int32) (x : Int32) (sc : Nat × (Nat → Int32)) (d : Nat) : EX sc (d + 2) 139 0 [.int x] [] (mk S) = some (some (.int (if 0 ≤ x ∧ x ≤ 7 then 1 else 0)), mk S) := by
  rw [e139_0]
  have := in_eq S x 0 7 sc d
  rw [show Int32.toInt64 0 = 0 from rfl, show Int32.toInt64 7 = 7 from rfl] at this
  rw [this, cI_s, ii_ok]
theorem isLetterC {S : Nat → Nat → Int32} {X : Xs} (h : CR S X) (x : Int32) (sc : Nat × (Nat → Int32)) (d : Nat) : EX sc (d + 2) 120 0 [.ref 0, .int x] [] (mk S) = some (some (.int (if 0 ≤ x ∧ x ≤ nI (X.nw 0 3) - 1 then 1 else 0)), mk S) := by
  rw [e120_0]
  simp only [O0, oB_s, Hg h.now.1, h.now.2.1 3 (by omega), within_eq, cI_s, ii_ok]
theorem isFloorC {S : Nat → Nat → Int32} {X : Xs} (h : CR S X) (x : Int32) (sc : Nat × (Nat → Int32)) (d : Nat) : EX sc (d + 2) 121 0 [.ref 0, .int x] [] (mk S) = some (some (.int (if 0 ≤ x ∧ x ≤ nI (X.nw 0 0) - 1 then 1 else 0)), mk S) := by
  rw [e121_0]
  simp only [O0, oB_s, Hg h.now.1, h.now.2.1 0 (by omega), within_eq, cI_s, ii_ok]
theorem isLetterM {S : Nat → Nat → Int32} {a : Hs} (h : MSt S a) (x : Int32) (sc : Nat × (Nat → Int32)) (d : Nat) : EX sc (d + 2) 172 0 [.ref 359, .int x] [] (mk S) = some (some (.int (if 0 ≤ x ∧ x ≤ nI (a 0 3) - 1 then 1 else 0)), mk S) := by
  rw [e172_0]
  have := in_eq S x 0 (nI (a 0 3) - 1) sc d
  rw [show Int32.toInt64 0 = 0 from rfl] at this
  simp only [O359, oB_s, h.2.1, this, cI_s, ii_ok]
theorem isFloorM {S : Nat → Nat → Int32} {a : Hs} (h : MSt S a) (x : Int32) (sc : Nat × (Nat → Int32)) (d : Nat) : EX sc (d + 2) 173 0 [.ref 359, .int x] [] (mk S) = some (some (.int (if 0 ≤ x ∧ x ≤ nI (a 0 0) - 1 then 1 else 0)), mk S) := by
  rw [e173_0]
  have := in_eq S x 0 (nI (a 0 0) - 1) sc d
  rw [show Int32.toInt64 0 = 0 from rfl] at this
  simp only [O359, oB_s, h.1, this, cI_s, ii_ok]
theorem hasNoC {S : Nat → Nat → Int32} {X : Xs} (h : CR S X) (hX : XOk X) (sc : Nat × (Nat → Int32)) (d : Nat) : EX sc (d + 1) 122 0 [.ref 0] [] (mk S) = some (some (.int (if X.nw 0 3 = 0 then 1 else 0)), mk S) := by
  have h6 := hX.l6
  rw [e122_0, e122_1]
  have e : (nI (X.nw 0 3) = 0) ↔ X.nw 0 3 = 0 := nI_eq (b := 0) (by omega) (by omega)
  simp only [O0, oB_s, Hg h.now.1, h.now.2.1 3 (by omega), or_true, true_or, if_true, e]
  by_cases c : X.nw 0 3 = 0
  · rw [if_pos c, if_pos c]
  · rw [if_neg c, if_neg c]
/-- from an int between to its number -/
theorem toN {x : Int32} {N : Nat} (hN : N < 2 ^ 31) (h : 0 ≤ x ∧ x ≤ nI N) : ∃ j, j ≤ N ∧ x = nI j := nI_of2 (M := nI N) (nI_toInt hN) (fun q => by have := h.1; rw [Int32.lt_iff_toInt_lt] at q; rw [Int32.le_iff_toInt_le] at this; omega) h.2
theorem toL {x : Int32} {L : Nat} (hL : L ≤ 1000) : (0 ≤ x ∧ x ≤ nI L - 1) ↔ ∃ i, i < L ∧ x = nI i := by
  cases L with
  | zero =>
    constructor
    · rintro ⟨h1, h2⟩
      rw [Int32.le_iff_toInt_le] at h1 h2
      rw [show (nI 0 - 1).toInt = -1 from by decide] at h2
      rw [show (0 : Int32).toInt = 0 from rfl] at h1
      omega
    · rintro ⟨i, hi, -⟩
      omega
  | succ n =>
    rw [nI_pred]
    constructor
    · intro h
      obtain ⟨j, h1, h2⟩ := toN (by omega) h
      exact ⟨j, by omega, h2⟩
    · rintro ⟨i, hi, rfl⟩
      exact ⟨nI_pos' (by omega), nI_le (by omega) (by omega)⟩
theorem ofN {N j : Nat} (hN : N < 2 ^ 31) (h : j ≤ N) : 0 ≤ nI j ∧ nI j ≤ nI N := ⟨nI_pos' (by omega), nI_le h hN⟩
/-! the status -/
theorem foundC (S : Nat → Nat → Int32) (x : Int32) (sc : Nat × (Nat → Int32)) (d : Nat) : EX sc (d + 1) 123 0 [.ref 0, .int x] [] (mk S) = some (some (.int ((-1000010) - x)), mk (up S 0 12 x)) := by
  rw [e123_0]
  simp only [P0, oB_s]
theorem wellC (S : Nat → Nat → Int32) (x : Int32) (sc : Nat × (Nat → Int32)) (d : Nat) : EX sc (d + 1) 124 0 [.ref 0, .int x] [] (mk S) = some (some (.int x), mk (up S 0 12 0)) := by
  rw [e124_0]
  simp only [P0, oB_s]
theorem foundM (S : Nat → Nat → Int32) (x : Int32) (sc : Nat × (Nat → Int32)) (d : Nat) : EX sc (d + 1) 137 0 [.ref 359, .int x] [] (mk S) = some (some (.int ((-1000010) - x)), mk (up S 359 3 x)) := by
  rw [e137_0]
  simp only [P359, oB_s]
theorem wellM (S : Nat → Nat → Int32) (x : Int32) (sc : Nat × (Nat → Int32)) (d : Nat) : EX sc (d + 1) 138 0 [.ref 359, .int x] [] (mk S) = some (some (.int x), mk (up S 359 3 0)) := by
  rw [e138_0]
  simp only [P359, oB_s]
theorem CR_st {S : Nat → Nat → Int32} {X : Xs} (h : CR S X) (v : Int32) : CR (up S 0 12 v) (X.wst v) :=
  ⟨h.shelf.cg (fun k h1 h2 => up_row_ne (by omega)), up_same _ _ _ _, by rw [up_ne (by omega)]; exact h.fl, by rw [up_row_ne (by omega), up_row_ne (by omega)]; exact h.tape, by rw [up_row_ne (by omega), up_row_ne (by omega)]; exact h.trace, h.now.cg (fun k h1 h2 => up_row_ne (by omega)), by obtain ⟨b, hb⟩ := h.draft; exact ⟨b, hb.cg (fun k h1 h2 => up_row_ne (by omega))⟩, h.acts.cg (up_ne (by omega)) (up_ne (by omega)) (fun k h1 h2 => up_row_ne (by omega)), fun k hk => (h.img k hk).cg (fun k h1 h2 => up_row_ne (by omega)), h.cache.cg (by rw [up_row_ne (by omega)]) (by rw [up_row_ne (by omega)]) (up_row_ne (by omega))⟩
theorem MP_st {S : Nat → Nat → Int32} {X : Xs} (h : MP S X) (hX : XOk X) (v : Int32) : MP (up S 359 3 v) (X.wst v) :=
  ⟨by rw [up_row_ne (by omega), up_row_ne (by omega), up_row_ne (by omega)]; exact h.shelf, up_same _ _ _ _, by rw [up_ne (by omega)]; exact h.fl, by rw [up_ne (by omega), up_row_ne (by omega)]; exact h.tape, by rw [up_ne (by omega), up_row_ne (by omega)]; exact h.trace, by rw [up_ne (by omega)]; exact h.none, h.stat.cg hX.l6 h.none (up_ne (by omega)) (up_ne (by omega)) (up_ne (by omega)) (up_row_ne (by omega)) (up_row_ne (by omega)), by rw [up_row_ne (by omega)]; exact h.now, by rw [up_ne (by omega)]; exact h.has, by rw [up_ne (by omega), up_row_ne (by omega)]; exact h.acts, by rw [up_ne (by omega), up_row_ne (by omega)]; exact h.img⟩
/-! the smallest calls -/
theorem op_fault (sc : Nat × (Nat → Int32)) : St2 sc 87 [.ref 0] 155 [.ref 359] := by
  rintro S ⟨X, hX, hC, hM⟩
  refine ⟨X.fl, S, S, ?_, ?_, X, hX, hC, hM⟩
  · rw [e87_0]; simp only [O0, oB_s, hC.fl]
  · rw [e155_0]; simp only [O359, oB_s, hM.fl]
theorem op_status (sc : Nat × (Nat → Int32)) : St2 sc 117 [.ref 0] 226 [.ref 359] := by
  rintro S ⟨X, hX, hC, hM⟩
  refine ⟨X.st, S, S, ?_, ?_, X, hX, hC, hM⟩
  · rw [e117_0]; simp only [O0, oB_s, hC.st]
  · rw [e226_0]; simp only [O359, oB_s, hM.st]
