/-! images -/
theorem A367_at {S : Nat → Nat → Int32} {j : Nat} (h : j < 96) : aI (mk S) 367 (nI j) = some (S 367 j) := aI_at A367 h (by omega)
theorem A367_st {S : Nat → Nat → Int32} {j : Nat} (h : j < 96) (x : Int32) : sI (mk S) 367 (nI j) x = some (mk (up S 367 j x)) := sI_at A367 h (by omega) x
theorem A363_s {S : Nat → Nat → Int32} {i : Nat} (h : i < 6) (x : Int32) : sI (mk S) 363 (nI i) x = some (mk (up S 363 i x)) := sI_at A363 h (by omega) x
theorem A364_s {S : Nat → Nat → Int32} {i : Nat} (h : i < 6) (x : Int32) : sI (mk S) 364 (nI i) x = some (mk (up S 364 i x)) := sI_at A364 h (by omega) x
theorem img1 {k : Nat} (hk : k < 2) (S : Nat → Nat → Int32) (x : Int32) (sc : Nat × (Nat → Int32)) (d : Nat) : ∀ (n l : Nat) (T : Nat → Nat → Int32), l + n = 6 → (∀ q, q ≠ 367 → T q = S q) → (∀ j, j < l → T 367 (48 * k + j) = S 363 j ∧ T 367 (48 * k + 6 + j) = S 364 j) → (∀ q, q < 48 * k ∨ 48 * k + 12 ≤ q → T 367 q = S 367 q) → ∃ T', EX sc (d + 1) 209 3 [.ref 359, .int x, .int (nI (48 * k)), .int (nI l)] [] (mk T) = EX sc (d + 1) 209 4 [.ref 359, .int x, .int (nI (48 * k)), Jk] [] (mk T') ∧ (∀ q, q ≠ 367 → T' q = S q) ∧ (∀ j, j < 6 → T' 367 (48 * k + j) = S 363 j ∧ T' 367 (48 * k + 6 + j) = S 364 j) ∧ (∀ q, q < 48 * k ∨ 48 * k + 12 ≤ q → T' 367 q = S 367 q) := by
  intro n
  induction n with
  | zero =>
    intro l T hl h1 h2 h3
    refine ⟨T, ?_, h1, fun j hj => h2 j (by omega), h3⟩
    rw [e209_3, if_pos (show (6 : Int32) ≤ nI l from nI_le (a := 6) (by omega) (by omega))]
  | succ n ih =>
    intro l T hl h1 h2 h3
    rw [e209_3, if_neg (show ¬ (6 : Int32) ≤ nI l from nI_ge (b := 6) (by omega) (by omega))]
    simp only [O359, oB_s, A363_i (show l < 6 by omega), fun S => A364_i (S := S) (show l < 6 by omega), show (6 : Int32) = nI 6 from rfl, nI_add, fun S x => A367_st (S := S) (show 48 * k + l < 96 by omega) x, fun S x => A367_st (S := S) (show 48 * k + 6 + l < 96 by omega) x, up_row_ne (show 364 ≠ 367 by omega), h1 363 (by omega), h1 364 (by omega), nI_1]
    refine ih (l + 1) _ (by omega) (fun q hq => ?_) (fun j hj => ?_) (fun q hq => ?_)
    · rw [up_row_ne hq, up_row_ne hq]; exact h1 q hq
    · simp only [up_at, true_and]
      by_cases e : j = l
      · subst e
        rw [if_neg (by omega), if_pos rfl, if_pos rfl]
        exact ⟨rfl, rfl⟩
      · rw [if_neg (by omega), if_neg (by omega), if_neg (by omega), if_neg (by omega)]
        exact h2 j (by omega)
    · rw [up_ne (by omega), up_ne (by omega)]; exact h3 q hq
theorem img2 {k : Nat} (hk : k < 2) (S : Nat → Nat → Int32) (x : Int32) (sc : Nat × (Nat → Int32)) (d : Nat) : EX sc (d + 1) 209 5 [.ref 359, .int x, .int (nI (48 * k)), .int 0] [] (mk S) = EX sc (d + 1) 209 6 [.ref 359, .int x, .int (nI (48 * k)), Jk] [] (mk (cpR S 367 365 (48 * k + 12) 0 32)) := by
  have := loopN (N := 32) (fun j T => EX sc (d + 1) 209 5 [.ref 359, .int x, .int (nI (48 * k)), .int (nI j)] [] (mk T)) (fun T => EX sc (d + 1) 209 6 [.ref 359, .int x, .int (nI (48 * k)), Jk] [] (mk T)) (fun j => cpR S 367 365 (48 * k + 12) 0 j) (by
    show EX sc (d + 1) 209 5 _ _ _ = EX sc (d + 1) 209 6 _ _ _
    rw [e209_5, if_pos (by decide)]) (fun j hj => by
    show EX sc (d + 1) 209 5 _ _ _ = EX sc (d + 1) 209 5 _ _ _
    rw [e209_5, if_neg (show ¬ (32 : Int32) ≤ nI j from nI_ge (b := 32) (by omega) (by omega))]
    have hst := cpR_step (S := S) (dst := 367) (src := 365) (b := 48 * k + 12) (a := 0) (n := j) (Or.inl (by omega))
    rw [Nat.zero_add] at hst
    simp only [O359, oB_s, show (12 : Int32) = nI 12 from rfl, nI_add, A365_at (S := cpR S 367 365 (48 * k + 12) 0 j) (show j < 32 by omega), A367_st (S := cpR S 367 365 (48 * k + 12) 0 j) (show 48 * k + 12 + j < 96 by omega), hst, nI_1]) 32 0 (by omega)
  rw [cpR_0] at this
  exact this
theorem bit2_I : ∀ m, m < 4 → ∀ k, k < 2 → nI m ||| (1 <<< (nI k &&& 31)) = nI (m ||| 2 ^ k) := by decide +kernel
theorem op_image (sc : Nat × (Nat → Int32)) (x : Int32) : St2 sc 110 [.ref 0, .int x] 209 [.ref 359, .int x, Jk, Jk] := by
  rintro S ⟨X, hX, hC, hM⟩
  have h6 := hX.l6
  have hin := fun S => inL sc x 0 1 0 1 S 37 rfl rfl
  by_cases c1 : 0 ≤ x ∧ x ≤ 1
  · by_cases c0 : X.nw 0 3 = 0
    · refine ⟨-1000002, S, S, ?_, ?_, X, hX, hC, hM⟩
      · rw [e110_0, within_eq, cI_s, ii_0, if_pos c1, e110_1]
        simp only [O0, if_true, hasNoC hC hX, cI_s, ii_0]
        rw [if_pos c0]
      · rw [e209_0, hin, cI_s, ii_0, if_pos c1, e209_1]
        simp only [O359, oB_s]
        rw [if_pos ((hasM hM).mpr c0)]
    · have hg := hX.gd c0
      obtain ⟨k, hk, rfl⟩ := toN (N := 1) (by omega) c1
      have hk2 : k < 2 := by omega
      obtain ⟨S1, k1, k2, k3⟩ := copyFrom_spec hC.now (isH_img hk2) (Or.inr (by omega)) sc 37
      have hf : ∀ q, ¬ (337 + 11 * k ≤ q ∧ q ≤ 337 + 11 * k + 10) → S1 q = S q := k3
      have hX' : XOk (X.wimg (fun q => if q = k then X.nw else X.im q)) := by
        refine ⟨hX.1, hX.2.1, hX.2.2.1, hX.2.2.2.1, hX.2.2.2.2.1, hX.2.2.2.2.2.1, hX.2.2.2.2.2.2.1, fun q hq => ?_⟩
        show (Gd (if q = k then X.nw else X.im q) ∧ X.nw 0 3 ≠ 0) ∨ (if q = k then X.nw else X.im q) 0 3 = 0
        by_cases e : q = k
        · rw [if_pos e]; exact Or.inl ⟨hg, c0⟩
        · rw [if_neg e]; exact hX.2.2.2.2.2.2.2 q hq
      refine stp (X := X) (X' := X.wimg (fun q => if q = k then X.nw else X.im q)) (r := 1) hX hX' hM ⟨S1, ?_, ?_, fun q hq => hf q (by omega)⟩ (fun T hM1 => ?_)
      · rw [e110_0, within_eq, cI_s, ii_0, if_pos c1, e110_1]
        simp only [O0, if_true, hasNoC hC hX, cI_s, ii_0]
        rw [if_neg c0, e110_2]
        simp only [O0, oB_s, aR72 S hk2, Hg (isH_img hk2), if_true, k1, cV_s]
      · have an23 : ∀ x j, (x + 23 - j) % 24 < 24 := fun x j => Nat.mod_lt _ (by omega)
        exact ⟨hC.shelf.cg (fun k h1 h2 => hf k (by omega)), by rw [hf 0 (by omega)]; exact hC.st, by rw [hf 0 (by omega)]; exact hC.fl, by rw [hf 13 (by omega), hf 14 (by omega)]; exact hC.tape, by rw [hf 15 (by omega), hf 16 (by omega)]; exact hC.trace, hC.now.cg (fun k h1 h2 => hf k (by omega)), by obtain ⟨b, hb⟩ := hC.draft; exact ⟨b, hb.cg (fun k h1 h2 => hf k (by omega))⟩, hC.acts.cg (by rw [hf 0 (by omega)]) (by rw [hf 0 (by omega)]) (fun k h1 h2 => hf k (by omega)), fun q hq => by
          show HR S1 (337 + 11 * q) (if q = k then X.nw else X.im q)
          by_cases e : q = k
          · rw [if_pos e, e]; exact k2
          · rw [if_neg e]; exact (hC.img q hq).cg (fun z a b => hf z (by omega)), hC.cache.cg (by rw [hf 45 (by omega)]) (by rw [hf 45 (by omega)]) (hf 69 (by omega))⟩
      · obtain ⟨m, hm1, hm2, hm3⟩ := hM1.img
        obtain ⟨T1, a1, a2, a3, a4⟩ := img1 hk2 T (nI k) sc 38 6 0 T (by omega) (fun _ _ => rfl) (fun j hj => by omega) (fun _ _ => rfl)
        have hT2 : ∃ T2, T2 = cpR T1 367 365 (48 * k + 12) 0 32 := ⟨_, rfl⟩
        obtain ⟨T2, hT2⟩ := hT2
        have hT3 : ∃ T3, T3 = up (up (up T2 367 (48 * k + 44) (nI (X.nw 0 0))) 367 (48 * k + 45) (nI (X.nw 0 3))) 359 13 (nI (m ||| 2 ^ k)) := ⟨_, rfl⟩
        obtain ⟨T3, hT3⟩ := hT3
        have hf3 : ∀ q, q ≠ 359 → q ≠ 367 → T3 q = T q := fun q a b => by rw [hT3, up_row_ne a, up_row_ne b, up_row_ne b, hT2, cpR_ne b, a2 q b]
        have hg3 : ∀ j, j ≠ 13 → T3 359 j = T 359 j := fun j a => by rw [hT3, up_ne (by omega), up_row_ne (by omega), up_row_ne (by omega), hT2, cpR_ne (by omega), a2 359 (by omega)]
        have t2r : ∀ q, q ≠ 367 → T2 q = T q := fun q a => by rw [hT2, cpR_ne a, a2 q a]
        have row : ∀ q, T3 367 q = if q = 48 * k + 45 then nI (X.nw 0 3) else if q = 48 * k + 44 then nI (X.nw 0 0) else T2 367 q := by
          intro q
          rw [hT3, up_row_ne (by omega), up_at, up_at]
          simp only [true_and]
        have f4 : T2 359 4 = nI (X.nw 0 0) := by rw [t2r 359 (by omega)]; exact hM1.stat.1
        have f5 : ∀ v, up T2 367 (48 * k + 44) v 359 5 = nI (X.nw 0 3) := fun v => by rw [up_row_ne (by omega), t2r 359 (by omega)]; exact hM1.stat.2.1
        have f13 : ∀ v w, up (up T2 367 (48 * k + 44) v) 367 (48 * k + 45) w 359 13 = nI m := fun v w => by rw [up_row_ne (by omega), up_row_ne (by omega), t2r 359 (by omega)]; exact hm2
        refine ⟨T3, ?_, ?_, fun q hq => hf3 q (by omega) (by omega)⟩
        · rw [e209_0, hin, cI_s, ii_0, if_pos c1, e209_1]
          simp only [O359, oB_s]
          rw [if_neg (fun q => c0 ((hasM hM1).mp q)), e209_2, show (48 : Int32) = nI 48 from rfl, pk_mul, show (0 : Int32) = nI 0 from rfl, a1, e209_4, img2 hk2, ← hT2, e209_6]
          simp only [O359, P359, oB_s, f4, show (44 : Int32) = nI 44 from rfl, show (45 : Int32) = nI 45 from rfl, nI_add, A367_st (S := T2) (show 48 * k + 44 < 96 by omega), f5, fun S => A367_st (S := S) (show 48 * k + 45 < 96 by omega), f13, bit2_I m hm1 k hk2, ← hT3]
        · exact ⟨by rw [hf3 360 (by omega) (by omega), hf3 361 (by omega) (by omega), hf3 362 (by omega) (by omega)]; exact hM1.shelf, by rw [hg3 3 (by omega)]; exact hM1.st, by rw [hg3 16 (by omega)]; exact hM1.fl, by rw [hg3 14 (by omega), hf3 368 (by omega) (by omega)]; exact hM1.tape, by rw [hg3 18 (by omega), hf3 369 (by omega) (by omega)]; exact hM1.trace, by rw [hg3 29 (by omega)]; exact hM1.none, hM1.stat.cg hX.l6 hM1.none (hg3 4 (by omega)) (hg3 5 (by omega)) (hg3 29 (by omega)) (hf3 363 (by omega) (by omega)) (hf3 364 (by omega) (by omega)), by rw [hf3 365 (by omega) (by omega)]; exact hM1.now, by rw [hg3 6 (by omega)]; exact hM1.has, by rw [hg3 11 (by omega), hf3 366 (by omega) (by omega)]; exact hM1.acts, ⟨m ||| 2 ^ k, Nat.or_lt_two_pow (n := 2) hm1 (Nat.pow_lt_pow_right (by omega) hk2), by rw [hT3, up_same], fun q hq => by
          show (m ||| 2 ^ k).testBit q = decide ((if q = k then X.nw else X.im q) 0 3 ≠ 0) ∧ ((if q = k then X.nw else X.im q) 0 3 ≠ 0 → (∀ l, l < (if q = k then X.nw else X.im q) 0 3 → T3 367 (48 * q + l) = nI ((if q = k then X.nw else X.im q) 1 l) ∧ T3 367 (48 * q + 6 + l) = nI ((if q = k then X.nw else X.im q) 3 l)) ∧ MRow (fun c => T3 367 (48 * q + 12 + c)) (if q = k then X.nw else X.im q) ∧ T3 367 (48 * q + 44) = nI ((if q = k then X.nw else X.im q) 0 0) ∧ T3 367 (48 * q + 45) = nI ((if q = k then X.nw else X.im q) 0 3))
          rw [Nat.testBit_or, Nat.testBit_two_pow]
          by_cases e : q = k
          · subst e
            simp only [if_true]
            refine ⟨by simp [c0], fun _ => ⟨fun l hl => ?_, ?_, ?_, ?_⟩⟩
            · obtain ⟨g1, g2, -⟩ := mfacts hM1 hX hl
              rw [row, row, if_neg (by omega), if_neg (by omega), if_neg (by omega), if_neg (by omega), hT2, cpR_out (by omega), cpR_out (by omega), (a3 l (by omega)).1, (a3 l (by omega)).2]
              exact ⟨g1, g2⟩
            · refine hM1.now.congr h6 (fun t ht => ?_)
              show T3 367 (48 * q + 12 + t) = T 365 t
              rw [row, if_neg (by omega), if_neg (by omega), hT2, cpR_at (by omega) (by omega), a2 365 (by omega), show 0 + (48 * q + 12 + t - (48 * q + 12)) = t by omega]
            · rw [row, if_neg (by omega), if_pos rfl]
            · rw [row, if_pos rfl]
          · simp only [e, if_false]
            obtain ⟨b1, b2⟩ := hm3 q hq
            have same : ∀ t, t < 48 → T3 367 (48 * q + t) = T 367 (48 * q + t) := fun t ht => by
              rw [row, if_neg (by omega), if_neg (by omega), hT2, cpR_out (by omega)]
              exact a4 _ (by omega)
            refine ⟨by rw [b1]; simp [show ¬ k = q from fun z => e z.symm], fun hne => ?_⟩
            obtain ⟨d1, d2, d3, d4⟩ := b2 hne
            have l6 : (X.im q) 0 3 ≤ 6 := by
              rcases hX.2.2.2.2.2.2.2 q hq with z | z
              · exact z.1.1.1
              · omega
            refine ⟨fun l hl => ?_, ?_, ?_, ?_⟩
            · rw [same l (by omega), show 48 * q + 6 + l = 48 * q + (6 + l) by omega, same (6 + l) (by omega), show 48 * q + (6 + l) = 48 * q + 6 + l by omega]
              exact d1 l hl
            · refine d2.congr l6 (fun t ht => ?_)
              show T3 367 (48 * q + 12 + t) = T 367 (48 * q + 12 + t)
              rw [show 48 * q + 12 + t = 48 * q + (12 + t) by omega]
              exact same (12 + t) (by omega)
            · rw [same 44 (by omega)]; exact d3
            · rw [same 45 (by omega)]; exact d4⟩⟩
  · refine ⟨-1000001, S, S, ?_, ?_, X, hX, hC, hM⟩
    · rw [e110_0, within_eq, cI_s, ii_0, if_neg c1]
    · rw [e209_0, hin, cI_s, ii_0, if_neg c1]
