/-! the reference's row aside over the plain numbers -/
/-- a letter that is never posted stands at 22 there -/
def plv (a : Hs) (l : Nat) : Nat := if (a 0 4).testBit l = true ∧ a 5 l = 20 then 22 else a 5 l
def MSt (S : Nat → Nat → Int32) (a : Hs) : Prop := S 359 4 = nI (a 0 0) ∧ S 359 5 = nI (a 0 3) ∧ ∀ l, l < a 0 3 → (if nI l = S 359 29 then S 359 30 else S 363 l) = nI (a 1 l) ∧ (if nI l = S 359 29 then S 359 31 else S 364 l) = nI (a 3 l)
def MRow (R : Nat → Int32) (a : Hs) : Prop := (∀ l, l < a 0 3 → R l = nI (plv a l) ∧ R (6 + l) = nI (a 6 l) ∧ R (12 + l) = nI (a 7 l) ∧ R (18 + l) = nI (a 4 l) ∧ R (24 + l) = nI (a 2 l)) ∧ R 30 = nI (a 0 1) ∧ R 31 = nI (a 0 2)
def MR (S : Nat → Nat → Int32) (a : Hs) : Prop := MSt S a ∧ MRow (S 373) a ∧ ∀ k, k < a 0 3 → S 375 k = nI (a 8 k)
/-- the same with no word of the ranks -/
def MRq (S : Nat → Nat → Int32) (a : Hs) : Prop := MSt S a ∧ MRow (S 373) a ∧ True
theorem MR.q {S : Nat → Nat → Int32} {a : Hs} (h : MR S a) : MRq S a := ⟨h.1, h.2.1, trivial⟩
/-- only the row aside and the lay have changed -/
def FT (S S' : Nat → Nat → Int32) : Prop := ∀ k, k ≠ 373 → k ≠ 374 → S' k = S k
theorem FT.rf (S : Nat → Nat → Int32) : FT S S := fun _ _ _ => rfl
theorem FT.tr {S S' S'' : Nat → Nat → Int32} (h1 : FT S S') (h2 : FT S' S'') : FT S S'' := fun k a b => (h2 k a b).trans (h1 k a b)
theorem FT.up {S : Nat → Nat → Int32} {j : Nat} {x : Int32} : FT S (up S 373 j x) := fun _ h _ => up_row_ne h
theorem FT.up4 {S : Nat → Nat → Int32} {j : Nat} {x : Int32} : FT S (va_up S 374 (upd (S 374) j x)) := fun k _ h => up_row_ne (x := x) (j := j) h
theorem MSt.ft {S S' : Nat → Nat → Int32} {a : Hs} (h : MSt S a) (hf : FT S S') : MSt S' a := by
  unfold MSt at h ⊢
  rw [hf 359 (by omega) (by omega), hf 363 (by omega) (by omega), hf 364 (by omega) (by omega)]
  exact h
theorem A373_at {S : Nat → Nat → Int32} {j : Nat} (h : j < 32) : aI (mk S) 373 (nI j) = some (S 373 j) := aI_at A373 h (by omega)
theorem A373_st {S : Nat → Nat → Int32} {j : Nat} (h : j < 32) (x : Int32) : sI (mk S) 373 (nI j) x = some (mk (up S 373 j x)) := sI_at A373 h (by omega) x
theorem kindNow_eq {S : Nat → Nat → Int32} {a : Hs} (h : MSt S a) {l : Nat} (hl : l < a 0 3) (h6 : a 0 3 ≤ 6) (sc : Nat × (Nat → Int32)) (d : Nat) : EX sc (d + 1) 158 0 [.ref 359, .int (nI l)] [] (mk S) = some (some (.int (nI (a 1 l))), mk S) := by
  rw [e158_0, e158_1]
  simp only [O359, oB_s, aI_at (S := S) A363 (show l < 6 by omega) (by omega)]
  rw [← (h.2.2 l hl).1]
  split <;> rfl
theorem thickNow_eq {S : Nat → Nat → Int32} {a : Hs} (h : MSt S a) {l : Nat} (hl : l < a 0 3) (h6 : a 0 3 ≤ 6) (sc : Nat × (Nat → Int32)) (d : Nat) : EX sc (d + 1) 159 0 [.ref 359, .int (nI l)] [] (mk S) = some (some (.int (nI (a 3 l))), mk S) := by
  rw [e159_0, e159_1]
  simp only [O359, oB_s, aI_at (S := S) A364 (show l < 6 by omega) (by omega)]
  rw [← (h.2.2 l hl).2]
  split <;> rfl


theorem plv_q {a : Hs} {l q : Nat} (hq : q < 20) : (plv a l = q) ↔ a 5 l = q := by
  unfold plv
  split <;> omega
theorem plv_lt {B : Nat} {a : Hs} (hw : WFg B a) {l : Nat} (hl : l < a 0 3) : plv a l ≤ 22 := by
  have := pl_22 hw hl
  unfold plv
  split <;> omega
/-- the sum with one left out -/
def ldX (pl th : Nat → Nat) (q i : Nat) : Nat → Nat
  | 0 => 0
  | n + 1 => ldX pl th q i n + if n ≠ i ∧ pl n = q then th n else 0
theorem ldX_eq (pl th : Nat → Nat) (q i : Nat) : ∀ n, ldX pl th q i n + (if i < n ∧ pl i = q then th i else 0) = ldN pl th q n
  | 0 => by simp [ldX, ldN]
  | n + 1 => by
    have ih := ldX_eq pl th q i n
    unfold ldX ldN
    by_cases h : n = i
    · subst h
      rw [if_neg (by omega)] at ih
      by_cases hq : pl n = q
      · rw [if_neg (by omega), if_pos ⟨by omega, hq⟩, if_pos hq]; omega
      · rw [if_neg (by omega), if_neg (by omega), if_neg hq]; omega
    · have e : (i < n + 1 ∧ pl i = q) ↔ (i < n ∧ pl i = q) := by omega
      simp only [e]
      by_cases hq : pl n = q
      · rw [if_pos ⟨h, hq⟩, if_pos hq]; omega
      · rw [if_neg (by omega), if_neg hq]; omega
theorem ldX_B {a : Hs} {q i : Nat} (hi : i < a 0 3) : ldX (a 5) (a 3) q i (a 0 3) = ldB a q i := by
  have := ldX_eq (a 5) (a 3) q i (a 0 3)
  unfold ldB ld
  simp only [hi, true_and] at this
  omega
theorem ldX_all {a : Hs} {q i : Nat} (hi : a 0 3 ≤ i) : ldX (a 5) (a 3) q i (a 0 3) = ld a q := by
  have := ldX_eq (a 5) (a 3) q i (a 0 3)
  unfold ld
  rw [if_neg (by omega)] at this
  omega
theorem ldX_le {pl th : Nat → Nat} {q i B : Nat} : ∀ n, (∀ k, k < n → th k ≤ B) → ldX pl th q i n ≤ n * B
  | 0, _ => by simp [ldX]
  | n + 1, h => by
    have ih := ldX_le (pl := pl) (q := q) (i := i) n (fun k hk => h k (by omega))
    have := h n (by omega)
    unfold ldX
    rw [Nat.succ_mul]
    split <;> omega
theorem fullBut_loop {S : Nat → Nat → Int32} {a : Hs} {B : Nat} (h : MRq S a) (hw : WFg B a) {q i : Nat} (hq : q < 20) {bt : Int32} (hbt : ∀ k, k < a 0 3 → (nI k = bt ↔ k = i)) (sc : Nat × (Nat → Int32)) (d : Nat) :
    ∀ n l, l + n = a 0 3 → EX sc (d + 2) 160 1 [.ref 359, .int (nI q), .int bt, .int (nI (ldX (a 5) (a 3) q i l)), .int (nI l)] [] (mk S) = some (some (.int (nI (ldX (a 5) (a 3) q i (a 0 3)))), mk S) := by
  have h6 := hw.1
  intro n
  induction n with
  | zero =>
    intro l hl
    rw [e160_1, e160_4]
    simp only [O359, oB_s, h.1.2.1]
    rw [if_pos (nI_le (by omega) (by omega)), show l = a 0 3 by omega]
  | succ n ih =>
    intro l hl
    have hl' : l < a 0 3 := by omega
    have hpv := plv_lt hw hl'
    rw [e160_1]
    simp only [O359, oB_s, h.1.2.1, A373_at (S := S) (show l < 32 by omega), (h.2.1.1 l hl').1]
    rw [if_neg (nI_ge (by omega) (by omega))]
    have hstep : ldX (a 5) (a 3) q i (l + 1) = ldX (a 5) (a 3) q i l + if l ≠ i ∧ a 5 l = q then a 3 l else 0 := rfl
    by_cases hli : l = i
    · rw [if_pos ((hbt l hl').mpr hli), e160_2, e160_3, show (0 : Int32) = nI 0 from rfl, nI_add, nI_1]
      have := ih (l + 1) (by omega)
      rw [hstep, if_neg (by omega)] at this
      exact this
    · rw [if_neg (fun e => hli ((hbt l hl').mp e))]
      have e1 : (nI (plv a l) = nI q) ↔ a 5 l = q := by rw [nI_eq (by omega) (by omega)]; exact plv_q hq
      by_cases hlq : a 5 l = q
      · rw [if_pos (e1.mpr hlq), if_pos trivial, thickNow_eq h.1 hl' h6 sc d, cI_s, e160_3, nI_add, nI_1]
        have := ih (l + 1) (by omega)
        rw [hstep, if_pos ⟨hli, hlq⟩] at this
        exact this
      · rw [if_neg (fun e => hlq (e1.mp e)), e160_2, e160_3, show (0 : Int32) = nI 0 from rfl, nI_add, nI_1]
        have := ih (l + 1) (by omega)
        rw [hstep, if_neg (by omega)] at this
        exact this
theorem fullBut_eq {S : Nat → Nat → Int32} {a : Hs} {B : Nat} (h : MRq S a) (hw : WFg B a) {q i : Nat} (hq : q < 20) (hi : i < a 0 3) (sc : Nat × (Nat → Int32)) (d : Nat) : EX sc (d + 2) 160 0 [.ref 359, .int (nI q), .int (nI i), Jk, Jk] [] (mk S) = some (some (.int (nI (ldB a q i))), mk S) := by
  have h6 := hw.1
  rw [e160_0, show (0 : Int32) = nI 0 from rfl]
  have := fullBut_loop h hw (q := q) (i := i) hq (bt := nI i) (fun k hk => nI_eq (by omega) (by omega)) sc d (a 0 3) 0 (Nat.zero_add _)
  rw [ldX_B hi] at this
  exact this
theorem fullNone_eq {S : Nat → Nat → Int32} {a : Hs} {B : Nat} (h : MRq S a) (hw : WFg B a) {q : Nat} (hq : q < 20) (sc : Nat × (Nat → Int32)) (d : Nat) : EX sc (d + 2) 160 0 [.ref 359, .int (nI q), .int (-1000000), Jk, Jk] [] (mk S) = some (some (.int (nI (ld a q))), mk S) := by
  have h6 := hw.1
  rw [e160_0, show (0 : Int32) = nI 0 from rfl]
  have hb : ∀ k, k < 6 → ¬ nI k = -1000000 := by decide
  have := fullBut_loop h hw (q := q) (i := 6) hq (bt := -1000000) (fun k hk => ⟨fun e => absurd e (hb k (by omega)), fun e => by omega⟩) sc d (a 0 3) 0 (Nat.zero_add _)
  rw [ldX_all h6] at this
  exact this
theorem ldB_le {a : Hs} {B : Nat} (hw : WFg B a) (q i : Nat) : ldB a q i ≤ 600 := by
  have := ld_lt hw q
  unfold ldB
  omega
theorem mRoom_eq {S : Nat → Nat → Int32} {a : Hs} {B : Nat} (h : MRq S a) (hw : WFg B a) {q i : Nat} (hq : q < 20) (hi : i < a 0 3) (sc : Nat × (Nat → Int32)) (d : Nat) : EX sc (d + 3) 161 0 [.ref 359, .int (nI i), .int (nI q)] [] (mk S) = some (some (.int (if roomS a i q = true then 1 else 0)), mk S) := by
  have h6 := hw.1
  have hld := ldB_le hw q i
  obtain ⟨w1, w2, w3, w4, w5, w6, w7, w8⟩ := hw.2.2.2.2.2 i hi
  have hwd := hw.2.2.1
  rw [e161_0]
  simp only [O359, oB_s, if_true, kindNow_eq h.1 hi h6 sc (d + 1), cI_s, fullBut_eq h hw hq hi sc d, thickNow_eq h.1 hi h6 sc (d + 1), show (30 : Int32) = nI 30 from rfl, A373_at (S := S) (show 30 < 32 by omega), h.2.1.2.1, nI_add]
  rw [e161_1, e161_2, bt1, bt0]
  have e2 : (nI (a 1 i) = 2) ↔ a 1 i = 2 := by rw [show (2 : Int32) = nI 2 from rfl]; exact nI_eq (by omega) (by omega)
  by_cases hk : a 1 i = 2
  · rw [if_pos (e2.mpr hk), if_pos (by unfold roomS; simp [hk])]
  · rw [if_neg (fun e => hk (e2.mp e))]
    have e3 : (nI (a 0 1) < nI (ldB a q i + a 3 i)) ↔ a 0 1 < ldB a q i + a 3 i := nI_ltI (by omega) (by omega)
    by_cases hr : ldB a q i + a 3 i ≤ a 0 1
    · rw [if_neg (fun e => by have := e3.mp e; omega), if_pos (by unfold roomS; simp [hr])]
    · have hn : ¬ roomS a i q = true := by unfold roomS; simp [hk, hr]
      rw [if_pos (e3.mpr (by omega)), if_neg hn]
theorem vup_at {α : Type} (f : Nat → α) (k : Nat) (v : α) : va_up f k v k = v := by
  unfold va_up
  rw [if_pos rfl]
theorem vup_id {α : Type} (f : Nat → α) (k : Nat) : va_up f k (f k) = f := by
  funext j
  unfold va_up
  split
  · next h => rw [h]
  · rfl
theorem vup_vup {α : Type} (f : Nat → α) (k : Nat) (v w : α) : va_up (va_up f k v) k w = va_up f k w := by
  funext j
  unfold va_up
  split <;> rfl
