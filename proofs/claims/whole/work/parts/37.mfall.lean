/-! the reference: falling -/
/-- some other letter is at the same place -/
def another (a : Hs) (i : Nat) : Nat → Bool
  | 0 => false
  | n + 1 => another a i n || (decide (n ≠ i) && decide (a 5 n = a 5 i))
theorem another_iff (a : Hs) (i : Nat) : ∀ n, another a i n = true ↔ ∃ k, k < n ∧ k ≠ i ∧ a 5 k = a 5 i
  | 0 => by simp [another]
  | n + 1 => by
    unfold another
    rw [Bool.or_eq_true, another_iff a i n, Bool.and_eq_true, decide_eq_true_eq, decide_eq_true_eq]
    constructor
    · rintro (⟨k, h1, h2, h3⟩ | ⟨h1, h2⟩)
      · exact ⟨k, by omega, h2, h3⟩
      · exact ⟨n, by omega, h1, h2⟩
    · rintro ⟨k, h1, h2, h3⟩
      by_cases e : k = n
      · subst e; exact Or.inr ⟨h2, h3⟩
      · exact Or.inl ⟨k, by omega, h2, h3⟩
theorem another_clr {a : Hs} {i : Nat} (h6 : a 0 3 ≤ 6) : (clrB (ly a (a 5 i)) i = 0) ↔ another a i (a 0 3) = false := by
  have hb := ly_lt h6 (a 5 i)
  have key : ∀ j, (clrB (ly a (a 5 i)) i).testBit j = (decide (j < a 0 3) && decide (a 5 j = a 5 i) && !decide (j = i)) := by
    intro j
    rw [clr_bit _ _ _ hb]
    unfold ly
    rw [lyN_bit]
  constructor
  · intro h
    cases hc : another a i (a 0 3) with
    | false => rfl
    | true =>
      obtain ⟨k, h1, h2, h3⟩ := (another_iff a i _).mp hc
      have := key k
      rw [h, Nat.zero_testBit] at this
      simp [h1, h2, h3] at this
  · intro h
    apply Nat.eq_of_testBit_eq
    intro j
    rw [key j, Nat.zero_testBit]
    cases hx : (decide (j < a 0 3) && decide (a 5 j = a 5 i) && !decide (j = i)) with
    | false => rfl
    | true =>
      simp at hx
      have : another a i (a 0 3) = true := (another_iff a i _).mpr ⟨j, hx.1.1, hx.2, hx.1.2⟩
      rw [h] at this
      cases this
theorem fallOf_loop {S : Nat → Nat → Int32} {a : Hs} {B : Nat} (h : MRq S a) (hw : WFg B a) {i : Nat} (hi : i < a 0 3) (hF : a 5 i < 20) (kd : Int32) (sc : Nat × (Nat → Int32)) (d : Nat) :
    ∀ n l, l + n = a 0 3 → EX sc (d + 1) 163 4 [.ref 359, .int (nI i), .int kd, .int (if another a i l = true then 1 else 0), .int (nI l)] [] (mk S) = EX sc (d + 1) 163 8 [Jk, Jk, .int kd, .int (if another a i (a 0 3) = true then 1 else 0), Jk] [] (mk S) := by
  have h6 := hw.1
  intro n
  induction n with
  | zero =>
    intro l hl
    rw [e163_4]
    simp only [O359, oB_s, h.1.2.1]
    rw [if_pos (nI_le (by omega) (by omega)), show l = a 0 3 by omega]
  | succ n ih =>
    intro l hl
    have hl' : l < a 0 3 := by omega
    have hpv := plv_lt hw hl'
    have hpi := plv_lt hw hi
    have hn := ih (l + 1) (by omega)
    rw [e163_4, e163_5, e163_6, e163_7, e163_7]
    simp only [O359, oB_s, h.1.2.1, A373_at (S := S) (show l < 32 by omega), (h.2.1.1 l hl').1, A373_at (S := S) (show i < 32 by omega), (h.2.1.1 i hi).1, nI_1]
    rw [if_neg (nI_ge (by omega) (by omega))]
    have hst : another a i (l + 1) = (another a i l || (decide (l ≠ i) && decide (a 5 l = a 5 i))) := rfl
    cases ha : another a i l with
    | true =>
      rw [hst, ha, Bool.true_or] at hn
      rw [if_neg (by decide)]
      exact hn
    | false =>
      rw [hst, ha, Bool.false_or] at hn
      rw [if_pos (by rfl)]
      by_cases hli : l = i
      · rw [if_pos (by rw [hli])]
        rw [if_neg (by simp [hli])] at hn
        exact hn
      · rw [if_neg (fun e => hli ((nI_eq (by omega) (by omega)).mp e))]
        have e1 : (nI (plv a l) = nI (plv a i)) ↔ a 5 l = a 5 i := by
          rw [nI_eq (by omega) (by omega), (plv_q hF).mpr rfl]
          exact plv_q hF
        by_cases hq : a 5 l = a 5 i
        · rw [if_pos (e1.mpr hq)]
          rw [if_pos (by simp [hli, hq])] at hn
          exact hn
        · rw [if_neg (fun e => hq (e1.mp e))]
          rw [if_neg (by simp [hq])] at hn
          exact hn
theorem fallOf_eq {S : Nat → Nat → Int32} {a : Hs} {B : Nat} (h : MRq S a) (hw : WFg B a) (hB : B ≤ 1000000) {i : Nat} (hi : i < a 0 3) (hF : a 5 i < 20) (sc : Nat × (Nat → Int32)) (d : Nat) : EX sc (d + 2) 163 0 [.ref 359, .int (nI i), Jk, Jk, Jk] [] (mk S) = some (some (.int (nI (fallS a i))), mk S) := by
  have h6 := hw.1
  obtain ⟨w1, w2, w3, w4, w5, w6, w7, w8⟩ := hw.2.2.2.2.2 i hi
  have e12 : (12 : Int32) + nI i = nI (12 + i) := by rw [show (12 : Int32) = nI 12 from rfl, nI_add]
  rw [e163_0]
  simp only [O359, if_true, kindNow_eq h.1 hi h6 sc d, cI_s, oB_s, e12, A373_at (S := S) (show 12 + i < 32 by omega), (h.2.1.1 i hi).2.2.1]
  have ek : ∀ k, k < 100 → ((nI (a 1 i) = nI k) ↔ a 1 i = k) := fun k hk => nI_eq (by omega) (by omega)
  have ek5 : (nI (a 1 i) = 5) ↔ a 1 i = 5 := ek 5 (by omega)
  have ek4 : (nI (a 1 i) = 4) ↔ a 1 i = 4 := ek 4 (by omega)
  have ek3 : (nI (a 1 i) = 3) ↔ a 1 i = 3 := ek 3 (by omega)
  have e2 : (nI (a 7 i) ≤ 2) ↔ a 7 i ≤ 2 := by rw [show (2 : Int32) = nI 2 from rfl]; exact nI_leI (by omega) (by omega)
  unfold fallS
  by_cases k5 : a 1 i = 5
  · rw [if_pos (ek5.mpr k5), if_pos k5]
    by_cases hr : a 7 i ≤ 2
    · rw [if_pos (e2.mpr hr), if_pos (by omega), e163_1]
      simp only [O359, oB_s, e12, A373_at (S := S) (show 12 + i < 32 by omega), (h.2.1.1 i hi).2.2.1, show (1 : Int32) = nI 1 from rfl, nI_add]
    · rw [if_neg (fun q => hr (e2.mp q)), if_neg (by omega)]; rfl
  · rw [if_neg (fun q => k5 (ek5.mp q)), if_neg k5, e163_2]
    by_cases k4 : a 1 i = 4
    · rw [if_pos (ek4.mpr k4), if_pos k4]; rfl
    · rw [if_neg (fun q => k4 (ek4.mp q)), if_neg k4, e163_3]
      have hloop := fallOf_loop h hw hi hF (nI (a 1 i)) sc (d + 1) (a 0 3) 0 (Nat.zero_add _)
      rw [if_neg (show ¬ another a i 0 = true from fun q => by cases q)] at hloop
      rw [show nI 0 = 0 from rfl] at hloop
      rw [hloop, e163_8, e163_9]
      by_cases k3 : a 1 i = 3
      · rw [if_pos (ek3.mpr k3), if_pos k3]
        cases hc : another a i (a 0 3) with
        | true =>
          have hn : ¬ clrB (ly a (a 5 i)) i = 0 := fun q => by rw [(another_clr h6).mp q] at hc; cases hc
          rw [if_pos rfl, if_neg (by decide), if_neg hn]; rfl
        | false =>
          rw [if_pos (show (if false = true then (1 : Int32) else 0) = 0 from rfl), if_pos ((another_clr h6).mpr hc)]; rfl
      · rw [if_neg (fun q => k3 (ek3.mp q)), if_neg k3]; rfl
/-- a letter of the row aside is put elsewhere (not to wait) -/
theorem MR_pl {S : Nat → Nat → Int32} {a : Hs} (h : MR S a) {i q : Nat} (h6 : a 0 3 ≤ 6) (hi : i < a 0 3) (hq : q ≠ 20) : MR (up S 373 i (nI q)) (upA a 5 i q) := by
  obtain ⟨h1, ⟨h2, h3, h4⟩, h5⟩ := h
  have hs : MSt (up S 373 i (nI q)) a := h1.ft FT.up
  refine ⟨hs, ⟨fun l hl => ?_, ?_, ?_⟩, fun k hk => ?_⟩
  · have hl' : l < a 0 3 := hl
    obtain ⟨g1, g2, g3, g4, g5⟩ := h2 l hl'
    simp only [up_at, true_and, upA_c (show (6 : Nat) ≠ 5 by omega), upA_c (show (7 : Nat) ≠ 5 by omega), upA_c (show (4 : Nat) ≠ 5 by omega), upA_c (show (2 : Nat) ≠ 5 by omega)]
    refine ⟨?_, ?_, ?_, ?_, ?_⟩
    · unfold plv
      have e9 : upA a 5 i q 5 l = if l = i then q else a 5 l := by rw [upA_at]; simp
      rw [upA_c (show (0 : Nat) ≠ 5 by omega), e9]
      by_cases e : l = i
      · simp only [e, if_true]
        rw [if_neg (fun z => hq z.2)]
      · simp only [e, if_false]
        exact g1
    · rw [if_neg (by omega)]; exact g2
    · rw [if_neg (by omega)]; exact g3
    · rw [if_neg (by omega)]; exact g4
    · rw [if_neg (by omega)]; exact g5
  · rw [up_at, if_neg (by omega)]; exact h3
  · rw [up_at, if_neg (by omega)]; exact h4
  · rw [up_row_ne (by omega)]; exact h5 k hk
theorem MR_6 {S : Nat → Nat → Int32} {a : Hs} (h : MR S a) {i v : Nat} (h6 : a 0 3 ≤ 6) (hi : i < a 0 3) : MR (up S 373 (6 + i) (nI v)) (upA a 6 i v) := by
  obtain ⟨h1, ⟨h2, h3, h4⟩, h5⟩ := h
  refine ⟨h1.ft FT.up, ⟨fun l hl => ?_, ?_, ?_⟩, fun k hk => ?_⟩
  · obtain ⟨g1, g2, g3, g4, g5⟩ := h2 l hl
    have hl' : l < a 0 3 := hl
    simp only [up_at, true_and, upA_c (show (7 : Nat) ≠ 6 by omega), upA_c (show (4 : Nat) ≠ 6 by omega), upA_c (show (2 : Nat) ≠ 6 by omega), upA_at]
    refine ⟨?_, ?_, ?_, ?_, ?_⟩
    · rw [if_neg (by omega)]; exact g1
    · by_cases e : l = i
      · rw [if_pos (by omega), if_pos e]
      · rw [if_neg (by omega), if_neg e]; exact g2
    · rw [if_neg (by omega)]; exact g3
    · rw [if_neg (by omega)]; exact g4
    · rw [if_neg (by omega)]; exact g5
  · rw [up_at, if_neg (by omega)]; exact h3
  · rw [up_at, if_neg (by omega)]; exact h4
  · rw [up_row_ne (by omega)]; exact h5 k hk
theorem MR_7 {S : Nat → Nat → Int32} {a : Hs} (h : MR S a) {i v : Nat} (h6 : a 0 3 ≤ 6) (hi : i < a 0 3) : MR (up S 373 (12 + i) (nI v)) (upA a 7 i v) := by
  obtain ⟨h1, ⟨h2, h3, h4⟩, h5⟩ := h
  refine ⟨h1.ft FT.up, ⟨fun l hl => ?_, ?_, ?_⟩, fun k hk => ?_⟩
  · obtain ⟨g1, g2, g3, g4, g5⟩ := h2 l hl
    have hl' : l < a 0 3 := hl
    simp only [up_at, true_and, upA_c (show (6 : Nat) ≠ 7 by omega), upA_c (show (4 : Nat) ≠ 7 by omega), upA_c (show (2 : Nat) ≠ 7 by omega), upA_at]
    refine ⟨?_, ?_, ?_, ?_, ?_⟩
    · rw [if_neg (by omega)]; exact g1
    · rw [if_neg (by omega)]; exact g2
    · by_cases e : l = i
      · rw [if_pos (by omega), if_pos e]
      · rw [if_neg (by omega), if_neg e]; exact g3
    · rw [if_neg (by omega)]; exact g4
    · rw [if_neg (by omega)]; exact g5
  · rw [up_at, if_neg (by omega)]; exact h3
  · rw [up_at, if_neg (by omega)]; exact h4
  · rw [up_row_ne (by omega)]; exact h5 k hk
