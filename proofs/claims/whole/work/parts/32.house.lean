/-! the class's House over the plain numbers -/
def HR (S : Nat → Nat → Int32) (p : Nat) (a : Hs) : Prop := isH p ∧ (∀ j, j < 5 → S p j = nI (a 0 j)) ∧ (∀ o j, 1 ≤ o → o ≤ 8 → j < 6 → S (p + o) j = nI (a o j)) ∧ (∀ q, q < 22 → S (p + 9) q = nI (ly a q)) ∧ (∀ q, q < 22 → S (p + 10) q = nI (ld a q))
def WFg (B : Nat) (a : Hs) : Prop := a 0 3 ≤ 6 ∧ a 0 0 ≤ 9 ∧ a 0 1 ≤ 100 ∧ a 0 2 ≤ 5000 ∧ a 0 4 < 64 ∧ ∀ i, i < a 0 3 → (a 1 i ≤ 5 ∧ a 2 i < a 0 0 ∧ a 3 i ≤ 100 ∧ a 4 i ≤ 5000 ∧ (a 5 i < a 0 0 ∨ a 5 i = 20 ∨ a 5 i = 21) ∧ a 6 i ≤ 999 ∧ a 7 i ≤ B ∧ a 8 i < a 0 3)
/-- nothing outside the house at p has changed -/
def Fr (p : Nat) (S S' : Nat → Nat → Int32) : Prop := ∀ k, ¬ (p ≤ k ∧ k ≤ p + 10) → S' k = S k
theorem Fr.rf (p : Nat) (S : Nat → Nat → Int32) : Fr p S S := fun _ _ => rfl
theorem Fr.tr {p : Nat} {S S' S'' : Nat → Nat → Int32} (h1 : Fr p S S') (h2 : Fr p S' S'') : Fr p S S'' := fun k hk => (h2 k hk).trans (h1 k hk)
theorem Fr.up {p o j : Nat} {S : Nat → Nat → Int32} {x : Int32} (ho : o ≤ 10) : Fr p S (up S (p + o) j x) := fun k hk => up_row_ne (by omega)

def mvS (S : Nat → Nat → Int32) (p i r q : Nat) : Nat → Nat → Int32 :=
  let S1 := up S (p + 9) r (S (p + 9) r &&& ((1 <<< (nI i &&& 31)) ^^^ (-1)))
  let S2 := up S1 (p + 10) r (S (p + 10) r - S (p + 3) i)
  let S3 := up S2 (p + 5) i (nI q)
  let S4 := up S3 (p + 9) q (S3 (p + 9) q ||| (1 <<< (nI i &&& 31)))
  up S4 (p + 10) q (S3 (p + 10) q + S (p + 3) i)
theorem moveTo_eq {S : Nat → Nat → Int32} {p i r q : Nat} (hp : isH p) (hi : i < 6) (hr : r < 22) (hq : q < 22) (hpl : S (p + 5) i = nI r) (sc : Nat × (Nat → Int32)) (d : Nat) : EX sc (d + 1) 15 0 [.ref p, .int (nI i), .int (nI q)] [] (mk S) = some (none, mk (mvS S p i r q)) := by
  rw [e15_0]
  simp only [Hg hp, oB_s, fun S => HA hp S hi, fun S x => HS hp S hi x, fun S => HA2 hp S hr, fun S => HA2 hp S hq, fun S x => HS2 hp S hr x, fun S x => HS2 hp S hq x, hpl, up_row_ne (show p + 5 ≠ p + 9 by omega), up_row_ne (show p + 10 ≠ p + 9 by omega), up_row_ne (show p + 3 ≠ p + 9 by omega), up_row_ne (show p + 3 ≠ p + 10 by omega), up_row_ne (show p + 3 ≠ p + 5 by omega)]
  rfl
theorem mvS_5 (S : Nat → Nat → Int32) (p i r q j : Nat) : mvS S p i r q (p + 5) j = if j = i then nI q else S (p + 5) j := by
  unfold mvS
  simp only [up_at]
  simp
theorem mvS_9 (S : Nat → Nat → Int32) (p i r q j : Nat) : mvS S p i r q (p + 9) j = if j = q then (if q = r then S (p + 9) r &&& ((1 <<< (nI i &&& 31)) ^^^ (-1)) else S (p + 9) q) ||| (1 <<< (nI i &&& 31)) else if j = r then S (p + 9) r &&& ((1 <<< (nI i &&& 31)) ^^^ (-1)) else S (p + 9) j := by
  unfold mvS
  simp only [up_at]
  simp
theorem mvS_10 (S : Nat → Nat → Int32) (p i r q j : Nat) : mvS S p i r q (p + 10) j = if j = q then (if q = r then S (p + 10) r - S (p + 3) i else S (p + 10) q) + S (p + 3) i else if j = r then S (p + 10) r - S (p + 3) i else S (p + 10) j := by
  unfold mvS
  simp only [up_at]
  simp
theorem mvS_o {S : Nat → Nat → Int32} {p i r q k : Nat} (h5 : k ≠ p + 5) (h9 : k ≠ p + 9) (h10 : k ≠ p + 10) : mvS S p i r q k = S k := by
  unfold mvS
  rw [up_row_ne h10, up_row_ne h9, up_row_ne h5, up_row_ne h10, up_row_ne h9]
theorem ly_lt {a : Hs} (hL : a 0 3 ≤ 6) (q : Nat) : ly a q < 64 := lyN_64 hL
theorem ld_lt {a : Hs} {B : Nat} (hw : WFg B a) (q : Nat) : ld a q ≤ 600 := by
  have h := ldN_le (pl := a 5) (th := a 3) (q := q) (B := 100) (a 0 3) (fun i hi => (hw.2.2.2.2.2 i hi).2.2.1)
  have h6 := hw.1
  unfold ld
  have : a 0 3 * 100 ≤ 6 * 100 := Nat.mul_le_mul_right 100 h6
  omega
theorem HR_mv {S : Nat → Nat → Int32} {p : Nat} {a : Hs} {B : Nat} (h : HR S p a) (hw : WFg B a) {i q : Nat} (hi : i < a 0 3) (hpl : a 5 i < 22) (hq : q < 22) : HR (mvS S p i (a 5 i) q) p (upA a 5 i q) := by
  obtain ⟨hp, h0, h1, h2, h3⟩ := h
  have hL := hw.1
  have hi6 : i < 6 := by omega
  have hth := (hw.2.2.2.2.2 i hi).2.2.1
  refine ⟨hp, fun j hj => ?_, fun o j ho1 ho2 hj => ?_, fun q' hq' => ?_, fun q' hq' => ?_⟩
  · rw [mvS_o (by omega) (by omega) (by omega), h0 j hj, upA_c (by omega)]
  · by_cases ho : o = 5
    · subst ho
      rw [mvS_5, upA_at]
      by_cases hji : j = i
      · simp [hji]
      · rw [if_neg hji, if_neg (fun q => hji q.2)]; exact h1 5 j (by omega) (by omega) hj
    · rw [mvS_o (by omega) (by omega) (by omega), upA_c ho]; exact h1 o j ho1 ho2 hj
  · rw [mvS_9, ly_move hi hL]
    by_cases e1 : q' = q
    · subst e1
      rw [if_pos rfl, if_pos rfl]
      by_cases e2 : q' = a 5 i
      · rw [if_pos e2, if_pos e2, h2 _ hpl, clr_I _ (ly_lt hL _) i hi6, set_I _ (clr_64 (ly_lt hL _)) i hi6, e2]
      · rw [if_neg e2, if_neg e2, h2 _ hq', set_I _ (ly_lt hL _) i hi6]
    · rw [if_neg e1, if_neg e1]
      by_cases e2 : q' = a 5 i
      · rw [if_pos e2, if_pos e2, h2 _ hpl, clr_I _ (ly_lt hL _) i hi6, e2]
      · rw [if_neg e2, if_neg e2, h2 _ hq']
  · have hm := ld_move (q := q) hi q'
    have hge := ld_ge hi
    have e3 : S (p + 3) i = nI (a 3 i) := h1 3 i (by omega) (by omega) hi6
    rw [mvS_10, e3]
    by_cases e1 : q' = q
    · subst e1
      rw [if_pos rfl]
      by_cases e2 : q' = a 5 i
      · rw [if_pos e2, h3 _ hpl, pk_sub hge, nI_add]
        rw [if_pos e2.symm, if_pos rfl] at hm
        congr 1
        rw [← e2] at hge ⊢
        omega
      · have e2' : ¬ a 5 i = q' := fun q => e2 q.symm
        rw [if_neg e2, h3 _ hq', nI_add]
        rw [if_neg e2', if_pos rfl] at hm
        congr 1
        omega
    · have e1' : ¬ q = q' := fun h => e1 h.symm
      rw [if_neg e1]
      by_cases e2 : q' = a 5 i
      · rw [if_pos e2, h3 _ hpl, pk_sub hge]
        rw [if_pos e2.symm, if_neg e1'] at hm
        congr 1
        rw [← e2] at hge ⊢
        omega
      · have e2' : ¬ a 5 i = q' := fun q => e2 q.symm
        rw [if_neg e2, h3 _ hq']
        rw [if_neg e2', if_neg e1'] at hm
        congr 1
        omega
theorem Fr_mv (S : Nat → Nat → Int32) (p i r q : Nat) : Fr p S (mvS S p i r q) := fun k hk => mvS_o (by omega) (by omega) (by omega)
/-- where a letter can be -/
theorem pl_22 {a : Hs} {B : Nat} (hw : WFg B a) {i : Nat} (hi : i < a 0 3) : a 5 i < 22 := by
  have h1 := (hw.2.2.2.2.2 i hi).2.2.2.2.1
  have h2 := hw.2.1
  omega
theorem moveTo_spec {S : Nat → Nat → Int32} {p : Nat} {a : Hs} {B : Nat} (h : HR S p a) (hw : WFg B a) {i q : Nat} (hi : i < a 0 3) (hq : q < 22) (sc : Nat × (Nat → Int32)) (d : Nat) : ∃ S', EX sc (d + 1) 15 0 [.ref p, .int (nI i), .int (nI q)] [] (mk S) = some (none, mk S') ∧ HR S' p (upA a 5 i q) ∧ Fr p S S' :=
  ⟨_, moveTo_eq h.1 (by have := hw.1; omega) (pl_22 hw hi) hq (h.2.2.1 5 i (by omega) (by omega) (by have := hw.1; omega)) sc d, HR_mv h hw hi (pl_22 hw hi) hq, Fr_mv S p i _ q⟩
