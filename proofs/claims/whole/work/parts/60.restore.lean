/-! restore -/
theorem standAs_spec {S : Nat → Nat → Int32} {X : Xs} {p : Nat} {a : Hs} (h : CR S X) (hp : HR S p a) (hne : 33 < p) (sc : Nat × (Nat → Int32)) (d : Nat) : ∃ S', EX sc (d + 2) 125 0 [.ref 0, .ref p] [] (mk S) = some (none, mk S') ∧ CR S' (X.wnow a X.ac 0) ∧ FrC S S' := by
  obtain ⟨T, k1, k2, k3⟩ := copyFrom_spec hp isH_23 (Or.inl (by omega)) sc d
  have hS' : ∃ S', S' = up (up T 0 9 0) 45 5 0 := ⟨_, rfl⟩
  obtain ⟨S', hS'⟩ := hS'
  have hf : ∀ k, k ≠ 0 → k ≠ 45 → ¬ (23 ≤ k ∧ k ≤ 33) → S' k = S k := fun k a b c => by rw [hS', up_row_ne b, up_row_ne a]; exact k3 k c
  have hf0 : ∀ j, j ≠ 9 → S' 0 j = S 0 j := fun j a => by rw [hS', up_row_ne (by omega), up_ne (by omega), k3 0 (by omega)]
  obtain ⟨g9, x, hx, g10, ga⟩ := h.acts
  refine ⟨S', ?_, ?_, fun k hk => hf k (by omega) (by omega) (by omega)⟩
  · rw [e125_0]
    simp only [O0, oB_s, Hg isH_23, if_true, k1, cV_s, P0, O45, e32_0, P45, hS']
  · exact ⟨h.shelf.cg (fun k h1 h2 => hf k (by omega) (by omega) (by omega)), by rw [hf0 12 (by omega)]; exact h.st, by rw [hf0 11 (by omega)]; exact h.fl, by rw [hf 13 (by omega) (by omega) (by omega), hf 14 (by omega) (by omega) (by omega)]; exact h.tape, by rw [hf 15 (by omega) (by omega) (by omega), hf 16 (by omega) (by omega) (by omega)]; exact h.trace, k2.cg (fun k a b => by rw [hS', up_row_ne (by omega), up_row_ne (by omega)]), by obtain ⟨b, hb⟩ := h.draft; exact ⟨b, hb.cg (fun k h1 h2 => hf k (by omega) (by omega) (by omega))⟩, ⟨by rw [hS', up_row_ne (by omega), up_same]; rfl, x, hx, by rw [hf0 10 (by omega)]; exact g10, fun j hj => by have hj' : j < 0 := hj; omega⟩, fun k hk => (h.img k hk).cg (fun k h1 h2 => hf k (by omega) (by omega) (by omega)), Or.inl (by rw [hS', up_same])⟩
theorem XOk_stand {X : Xs} {a : Hs} (h : XOk X) (hg : Gd a) : XOk (X.wnow a X.ac 0) := ⟨h.1, h.2.1, h.2.2.1, h.2.2.2.1, Or.inl hg, show 0 ≤ 24 by omega, fun j hj => by have hj' : j < 0 := hj; omega, fun k hk => (h.2.2.2.2.2.2.2 k hk).imp (fun z => ⟨z.1, show a 0 3 ≠ 0 by have := hg.2.2.2.2.1; omega⟩) id⟩
theorem res1 {k : Nat} (hk : k < 2) (S : Nat → Nat → Int32) (sc : Nat × (Nat → Int32)) (d : Nat) : ∀ (n l : Nat) (T : Nat → Nat → Int32), l + n = 6 → (∀ q, q ≠ 363 → q ≠ 364 → T q = S q) → (∀ j, j < l → T 363 j = S 367 (48 * k + j) ∧ T 364 j = S 367 (48 * k + 6 + j)) → ∃ T', EX sc (d + 1) 210 3 [.ref 359, Jk, .int (nI (48 * k)), .int (nI l)] [] (mk T) = EX sc (d + 1) 210 4 [.ref 359, Jk, .int (nI (48 * k)), Jk] [] (mk T') ∧ (∀ q, q ≠ 363 → q ≠ 364 → T' q = S q) ∧ (∀ j, j < 6 → T' 363 j = S 367 (48 * k + j) ∧ T' 364 j = S 367 (48 * k + 6 + j)) := by
  intro n
  induction n with
  | zero =>
    intro l T hl h1 h2
    refine ⟨T, ?_, h1, fun j hj => h2 j (by omega)⟩
    rw [e210_3, if_pos (show (6 : Int32) ≤ nI l from nI_le (a := 6) (by omega) (by omega))]
  | succ n ih =>
    intro l T hl h1 h2
    rw [e210_3, if_neg (show ¬ (6 : Int32) ≤ nI l from nI_ge (b := 6) (by omega) (by omega))]
    simp only [O359, oB_s, show (6 : Int32) = nI 6 from rfl, nI_add, fun S => A367_at (S := S) (show 48 * k + l < 96 by omega), fun S => A367_at (S := S) (show 48 * k + 6 + l < 96 by omega), fun S x => A363_s (S := S) (show l < 6 by omega) x, fun S x => A364_s (S := S) (show l < 6 by omega) x, up_row_ne (show 367 ≠ 363 by omega), h1 367 (by omega) (by omega), nI_1]
    refine ih (l + 1) _ (by omega) (fun q a b => ?_) (fun j hj => ?_)
    · rw [up_row_ne b, up_row_ne a]; exact h1 q a b
    · rw [up_row_ne (show 363 ≠ 364 by omega), up_at, up_at, up_row_ne (show 364 ≠ 363 by omega)]
      by_cases e : j = l
      · rw [if_pos ⟨rfl, e⟩, if_pos ⟨rfl, e⟩, e]
        exact ⟨rfl, rfl⟩
      · rw [if_neg (fun q => e q.2), if_neg (fun q => e q.2)]
        exact h2 j (by omega)
theorem res2 {k : Nat} (hk : k < 2) (S : Nat → Nat → Int32) (sc : Nat × (Nat → Int32)) (d : Nat) : EX sc (d + 1) 210 5 [.ref 359, Jk, .int (nI (48 * k)), .int 0] [] (mk S) = EX sc (d + 1) 210 6 [.ref 359, Jk, .int (nI (48 * k)), Jk] [] (mk (cpR S 365 367 0 (48 * k + 12) 32)) := by
  have := loopN (N := 32) (fun j T => EX sc (d + 1) 210 5 [.ref 359, Jk, .int (nI (48 * k)), .int (nI j)] [] (mk T)) (fun T => EX sc (d + 1) 210 6 [.ref 359, Jk, .int (nI (48 * k)), Jk] [] (mk T)) (fun j => cpR S 365 367 0 (48 * k + 12) j) (by
    show EX sc (d + 1) 210 5 _ _ _ = EX sc (d + 1) 210 6 _ _ _
    rw [e210_5, if_pos (by decide)]) (fun j hj => by
    show EX sc (d + 1) 210 5 _ _ _ = EX sc (d + 1) 210 5 _ _ _
    rw [e210_5, if_neg (show ¬ (32 : Int32) ≤ nI j from nI_ge (b := 32) (by omega) (by omega))]
    have hst := cpR_step (S := S) (dst := 365) (src := 367) (b := 0) (a := 48 * k + 12) (n := j) (Or.inl (by omega))
    rw [Nat.zero_add] at hst
    simp only [O359, oB_s, show (12 : Int32) = nI 12 from rfl, nI_add, A367_at (S := cpR S 365 367 0 (48 * k + 12) j) (show 48 * k + 12 + j < 96 by omega), A365_st (S := cpR S 365 367 0 (48 * k + 12) j) (show j < 32 by omega), hst, nI_1]) 32 0 (by omega)
  rw [cpR_0] at this
  exact this
theorem has2_I : ∀ m, m < 4 → ∀ k, k < 2 → (((nI m >>> (nI k &&& 31)) &&& 1 = 1) ↔ (m.testBit k = true)) := by decide +kernel
theorem op_restore (sc : Nat × (Nat → Int32)) (x : Int32) : St2 sc 111 [.ref 0, .int x] 210 [.ref 359, .int x, Jk, Jk] := by
  rintro S ⟨X, hX, hC, hM⟩
  have hin := fun S => inL sc x 0 1 0 1 S 37 rfl rfl
  by_cases c1 : 0 ≤ x ∧ x ≤ 1
  · obtain ⟨k, hk, rfl⟩ := toN (N := 1) (by omega) c1
    have hk2 : k < 2 := by omega
    have him := hC.img k hk2
    have hl6 : (X.im k) 0 3 ≤ 6 := by
      rcases hX.2.2.2.2.2.2.2 k hk2 with z | z
      · exact z.1.1.1
      · omega
    have e0 : (nI ((X.im k) 0 3) = 0) ↔ (X.im k) 0 3 = 0 := nI_eq (b := 0) (by omega) (by omega)
    have mh : ∀ T, MP T X → EX sc 39 210 0 [.ref 359, .int (nI k), Jk, Jk] [] (mk T) = if (X.im k) 0 3 = 0 then some (some (.int (-1000002)), mk T) else EX sc 39 210 2 [.ref 359, .int (nI k), Jk, Jk] [] (mk T) := by
      intro T hM1
      obtain ⟨m, hm1, hm2, hm3⟩ := hM1.img
      have e3 := (hm3 k hk2).1
      rw [e210_0, hin, cI_s, ii_0, if_pos c1, e210_1]
      simp only [O359, oB_s, hm2, e135_0, e135_1, or_true, true_or, if_true]
      by_cases c : (X.im k) 0 3 = 0
      · have hb : ¬ ((nI m >>> (nI k &&& 31)) &&& 1 = 1) := fun q => by
          have := (has2_I m hm1 k hk2).mp q
          rw [e3] at this
          simp [c] at this
        rw [if_neg hb, if_pos c, cI_s, if_pos rfl]
      · have hb : (nI m >>> (nI k &&& 31)) &&& 1 = 1 := (has2_I m hm1 k hk2).mpr (by rw [e3]; simp [c])
        rw [if_pos hb, if_neg c, cI_s, if_neg i10]
    by_cases c : (X.im k) 0 3 = 0
    · refine ⟨-1000002, S, S, ?_, ?_, X, hX, hC, hM⟩
      · rw [e111_0, within_eq, cI_s, ii_0, if_pos c1, e111_1]
        simp only [O0, oB_s, aR72 S hk2, Hg (isH_img hk2), him.2.1 3 (by omega)]
        rw [if_pos (e0.mpr c)]
      · rw [mh S hM, if_pos c]
    · have hgn := (hX.2.2.2.2.2.2.2 k hk2).resolve_right c
      have hg : Gd (X.im k) := hgn.1
      obtain ⟨S1, k1, k2, k3⟩ := standAs_spec hC him (by omega) sc 36
      refine stp (X := X) (X' := X.wnow (X.im k) X.ac 0) (r := 1) hX (XOk_stand hX hg) hM ⟨S1, ?_, k2, k3⟩ (fun T hM1 => ?_)
      · rw [e111_0, within_eq, cI_s, ii_0, if_pos c1, e111_1]
        simp only [O0, oB_s, aR72 S hk2, Hg (isH_img hk2), him.2.1 3 (by omega)]
        rw [if_neg (fun q => c (e0.mp q)), e111_2]
        simp only [O0, oB_s, aR72 S hk2, if_true, k1, cV_s]
      · obtain ⟨m, hm1, hm2, hm3⟩ := hM1.img
        obtain ⟨b1, b2⟩ := hm3 k hk2
        obtain ⟨d1, d2, d3, d4⟩ := b2 c
        obtain ⟨T1, a1, a2, a3⟩ := res1 hk2 T sc 38 6 0 T (by omega) (fun _ _ _ => rfl) (fun j hj => by omega)
        have hT2 : ∃ T2, T2 = cpR T1 365 367 0 (48 * k + 12) 32 := ⟨_, rfl⟩
        obtain ⟨T2, hT2⟩ := hT2
        have t2r : ∀ q, q ≠ 363 → q ≠ 364 → q ≠ 365 → T2 q = T q := fun q a b e => by rw [hT2, cpR_ne e, a2 q a b]
        have hT3 : ∃ T3, T3 = up (up (up T2 359 4 (nI ((X.im k) 0 0))) 359 5 (nI ((X.im k) 0 3))) 359 11 0 := ⟨_, rfl⟩
        obtain ⟨T3, hT3⟩ := hT3
        have hf3 : ∀ q, q ≠ 359 → q ≠ 363 → q ≠ 364 → q ≠ 365 → T3 q = T q := fun q a b e f => by rw [hT3, up_row_ne a, up_row_ne a, up_row_ne a, t2r q b e f]
        have hg3 : ∀ j, j ≠ 4 ∧ j ≠ 5 ∧ j ≠ 11 → T3 359 j = T 359 j := fun j a => by rw [hT3, up_ne (by omega), up_ne (by omega), up_ne (by omega), t2r 359 (by omega) (by omega) (by omega)]
        have r363 : ∀ j, j < 6 → T3 363 j = T 367 (48 * k + j) ∧ T3 364 j = T 367 (48 * k + 6 + j) := fun j hj => by
          rw [hT3, up_row_ne (by omega), up_row_ne (by omega), up_row_ne (by omega), up_row_ne (by omega), up_row_ne (by omega), up_row_ne (by omega), hT2, cpR_ne (by omega), cpR_ne (by omega)]
          exact a3 j hj
        have hb : ∀ j, j < 6 → ¬ nI j = -1000000 := by decide
        have st : MSt T3 (X.im k) := by
          refine ⟨by rw [hT3, up_ne (by omega), up_ne (by omega), up_same], by rw [hT3, up_ne (by omega), up_same], fun l hl => ?_⟩
          rw [hg3 29 (by omega), hM1.none, if_neg (hb l (by omega)), if_neg (hb l (by omega)), (r363 l (by omega)).1, (r363 l (by omega)).2]
          exact d1 l hl
        have q44 : T2 367 (48 * k + 44) = nI ((X.im k) 0 0) := by rw [t2r 367 (by omega) (by omega) (by omega)]; exact d3
        have q45 : ∀ v, up T2 359 4 v 367 (48 * k + 45) = nI ((X.im k) 0 3) := fun v => by rw [up_row_ne (by omega), t2r 367 (by omega) (by omega) (by omega)]; exact d4
        refine ⟨T3, ?_, ?_, fun q hq => hf3 q (by omega) (by omega) (by omega) (by omega)⟩
        · rw [mh T hM1, if_neg c, e210_2, show (48 : Int32) = nI 48 from rfl, pk_mul, show (0 : Int32) = nI 0 from rfl, a1, e210_4, res2 hk2, ← hT2, e210_6]
          simp only [O359, P359, oB_s, show (44 : Int32) = nI 44 from rfl, show (45 : Int32) = nI 45 from rfl, nI_add, fun S => A367_at (S := S) (show 48 * k + 44 < 96 by omega), q44, fun S => A367_at (S := S) (show 48 * k + 45 < 96 by omega), q45, hT3]
        · exact ⟨by rw [hf3 360 (by omega) (by omega) (by omega) (by omega), hf3 361 (by omega) (by omega) (by omega) (by omega), hf3 362 (by omega) (by omega) (by omega) (by omega)]; exact hM1.shelf, by rw [hg3 3 (by omega)]; exact hM1.st, by rw [hg3 16 (by omega)]; exact hM1.fl, by rw [hg3 14 (by omega), hf3 368 (by omega) (by omega) (by omega) (by omega)]; exact hM1.tape, by rw [hg3 18 (by omega), hf3 369 (by omega) (by omega) (by omega) (by omega)]; exact hM1.trace, by rw [hg3 29 (by omega)]; exact hM1.none, st, d2.congr hl6 (fun t ht => by rw [hT3, up_row_ne (by omega), up_row_ne (by omega), up_row_ne (by omega), hT2, cpR_at (by omega) (by omega), a2 367 (by omega) (by omega)]; show T 367 (48 * k + 12 + (t - 0)) = T 367 (48 * k + 12 + t); rw [Nat.sub_zero]), by rw [hg3 6 (by omega)]; show _ = if (X.im k) 0 3 = 0 then 0 else 1; rw [if_neg c]; have := hM1.has; rw [if_neg hgn.2] at this; exact this, ⟨by rw [hT3, up_same]; rfl, fun j hj => by have hj' : j < 0 := hj; omega⟩, by rw [hg3 13 (by omega), hf3 367 (by omega) (by omega) (by omega) (by omega)]; exact hM1.img⟩
  · refine ⟨-1000001, S, S, ?_, ?_, X, hX, hC, hM⟩
    · rw [e111_0, within_eq, cI_s, ii_0, if_neg c1]
    · rw [e210_0, hin, cI_s, ii_0, if_neg c1]
