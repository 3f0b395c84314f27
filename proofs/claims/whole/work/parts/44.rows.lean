/-! trace, feed, rows -/
theorem op_trace (sc : Nat × (Nat → Int32)) (x : Int32) : St2 sc 115 [.ref 0, .int x] 224 [.ref 359, .int x] := by
  rintro S ⟨X, hX, hC, hM⟩
  have ht := hX.2.2.1
  have hin := in_eq S x 0 (nI X.tn - 1) sc 37
  rw [show Int32.toInt64 0 = 0 from rfl] at hin
  by_cases c : 0 ≤ x ∧ x ≤ nI X.tn - 1
  · obtain ⟨i, hi, rfl⟩ := (toL (by omega)).mp c
    refine ⟨X.tr i, S, S, ?_, ?_, X, hX, hC, hM⟩
    · rw [e115_0]
      simp only [O0, O15, oB_s, hC.trace.1, within_eq, cI_s, ii_0, c, and_self, if_true, aI_at (S := S) A16 (show i < 16 by omega) (by omega), hC.trace.2 i hi]
    · rw [e224_0]
      simp only [O359, oB_s, hM.trace.1, hin, cI_s, c, and_self, if_true, i10, if_false, aI_at (S := S) A369 (show i < 16 by omega) (by omega), hM.trace.2 i hi]
  · refine ⟨-1000000, S, S, ?_, ?_, X, hX, hC, hM⟩
    · rw [e115_0]
      simp only [O0, O15, oB_s, hC.trace.1, within_eq, cI_s, c, if_false, if_true, e115_1]
    · rw [e224_0]
      simp only [O359, oB_s, hM.trace.1, hin, cI_s, c, if_false, if_true, e224_1]
theorem CR_feed {S : Nat → Nat → Int32} {X : Xs} (h : CR S X) (x : Int32) : CR (up (up S 14 X.tl x) 13 1 (nI (X.tl + 1))) (X.wtape (upd X.tp X.tl x) (X.tl + 1)) := by
  have hf : ∀ k, k ≠ 13 → k ≠ 14 → up (up S 14 X.tl x) 13 1 (nI (X.tl + 1)) k = S k := fun k h1 h2 => by rw [up_row_ne h1, up_row_ne h2]
  exact ⟨h.shelf.cg (fun k h1 h2 => hf k (by omega) (by omega)), by rw [hf 0 (by omega) (by omega)]; exact h.st, by rw [hf 0 (by omega) (by omega)]; exact h.fl, ⟨up_same _ _ _ _, fun j hj => by
    rw [up_row_ne (by omega), up_at]
    show _ = upd X.tp X.tl x j
    by_cases e : j = X.tl
    · rw [if_pos ⟨rfl, e⟩, e, pk_us]
    · rw [if_neg (fun q => e q.2), pk_un e]
      have hj' : j < X.tl + 1 := hj
      exact h.tape.2 j (by omega)⟩, by rw [hf 15 (by omega) (by omega), hf 16 (by omega) (by omega)]; exact h.trace, h.now.cg (fun k h1 h2 => hf k (by omega) (by omega)), by obtain ⟨b, hb⟩ := h.draft; exact ⟨b, hb.cg (fun k h1 h2 => hf k (by omega) (by omega))⟩, h.acts.cg (by rw [hf 0 (by omega) (by omega)]) (by rw [hf 0 (by omega) (by omega)]) (fun k h1 h2 => hf k (by omega) (by omega)), fun k hk => (h.img k hk).cg (fun k h1 h2 => hf k (by omega) (by omega)), h.cache.cg (by rw [hf 45 (by omega) (by omega)]) (by rw [hf 45 (by omega) (by omega)]) (hf 69 (by omega) (by omega))⟩
theorem MP_feed {S : Nat → Nat → Int32} {X : Xs} (h : MP S X) (hX : XOk X) (x : Int32) : MP (up (up S 368 X.tl x) 359 14 (nI (X.tl + 1))) (X.wtape (upd X.tp X.tl x) (X.tl + 1)) := by
  have hf : ∀ k, k ≠ 359 → k ≠ 368 → up (up S 368 X.tl x) 359 14 (nI (X.tl + 1)) k = S k := fun k h1 h2 => by rw [up_row_ne h1, up_row_ne h2]
  have hg : ∀ j, j ≠ 14 → up (up S 368 X.tl x) 359 14 (nI (X.tl + 1)) 359 j = S 359 j := fun j h1 => by rw [up_ne (by omega), up_row_ne (by omega)]
  exact ⟨by rw [hf 360 (by omega) (by omega), hf 361 (by omega) (by omega), hf 362 (by omega) (by omega)]; exact h.shelf, by rw [hg 3 (by omega)]; exact h.st, by rw [hg 16 (by omega)]; exact h.fl, ⟨up_same _ _ _ _, fun j hj => by
    rw [up_row_ne (by omega), up_at]
    show _ = upd X.tp X.tl x j
    by_cases e : j = X.tl
    · rw [if_pos ⟨rfl, e⟩, e, pk_us]
    · rw [if_neg (fun q => e q.2), pk_un e]
      have hj' : j < X.tl + 1 := hj
      exact h.tape.2 j (by omega)⟩, by rw [hg 18 (by omega), hf 369 (by omega) (by omega)]; exact h.trace, by rw [hg 29 (by omega)]; exact h.none, h.stat.cg hX.l6 h.none (hg 4 (by omega)) (hg 5 (by omega)) (hg 29 (by omega)) (hf 363 (by omega) (by omega)) (hf 364 (by omega) (by omega)), by rw [hf 365 (by omega) (by omega)]; exact h.now, by rw [hg 6 (by omega)]; exact h.has, by rw [hg 11 (by omega), hf 366 (by omega) (by omega)]; exact h.acts, by rw [hg 13 (by omega), hf 367 (by omega) (by omega)]; exact h.img⟩
theorem op_feed (sc : Nat × (Nat → Int32)) (x : Int32) : St2 sc 85 [.ref 0, .int x] 145 [.ref 359, .int x] := by
  rintro S ⟨X, hX, hC, hM⟩
  have hl := hX.2.1
  have hin := fun S => in_eq S x 0 255 sc 37
  simp only [show Int32.toInt64 0 = 0 from rfl, show Int32.toInt64 255 = 255 from rfl] at hin
  by_cases c : 0 ≤ x ∧ x ≤ 255
  · obtain ⟨b, hb, hbx⟩ := toN (N := 255) (by omega) c
    by_cases c2 : X.tl = 100
    · refine ⟨-1000003, S, S, ?_, ?_, X, hX, hC, hM⟩
      · rw [e85_0, within_eq, cI_s, ii_0, if_pos c, e85_1]
        simp only [O0, O13, oB_s, hC.tape.1]
        rw [if_neg (by rw [c2]; decide)]
      · rw [e145_0, hin, cI_s, ii_0, if_pos c, e145_1]
        simp only [O359, oB_s, hM.tape.1]
        rw [if_pos (by rw [c2]; rfl)]
    · refine stp (X := X) (X' := X.wtape (upd X.tp X.tl x) (X.tl + 1)) (r := nI (X.tl + 1)) hX ?_ hM ⟨_, ?_, CR_feed hC x, ?_⟩ (fun S1 hM1 => ⟨_, ?_, MP_feed hM1 hX x, ?_⟩)
      · obtain ⟨h1, h2, h3, h4, h5⟩ := hX
        refine ⟨h1, show X.tl + 1 ≤ 100 by omega, h3, fun j hj => ?_, h5⟩
        have hj' : j < X.tl + 1 := hj
        show ∃ b, b < 256 ∧ upd X.tp X.tl x j = nI b
        by_cases e : j = X.tl
        · exact ⟨b, by omega, by rw [e, pk_us, hbx]⟩
        · rw [pk_un e]; exact h4 j (by omega)
      · rw [e85_0, within_eq, cI_s, ii_0, if_pos c, e85_1]
        simp only [O0, O13, oB_s, hC.tape.1]
        rw [if_pos (show nI X.tl < 100 from nI_lt (b := 100) (by omega) (by omega)), e85_2]
        simp only [O0, O13, oB_s, if_true]
        rw [e57_0]
        simp only [O13, P13, oB_s, hC.tape.1, sI_at (S := S) A14 (show X.tl < 100 by omega) (by omega), up_row_ne (show 13 ≠ 14 by omega), up_same, nI_1, cI_s]
      · exact (FrC.up (by omega)).tr (FrC.up (by omega))
      · rw [e145_0, hin, cI_s, ii_0, if_pos c, e145_1]
        simp only [O359, oB_s, hM1.tape.1]
        rw [if_neg (show ¬ nI X.tl = 100 from fun q => c2 ((nI_eq (b := 100) (by omega) (by omega)).mp q)), e145_2]
        simp only [O359, P359, oB_s, hM1.tape.1, sI_at (S := S1) A368 (show X.tl < 100 by omega) (by omega), up_row_ne (show 359 ≠ 368 by omega), up_same, nI_1]
      · exact (FrM.up (by omega)).tr (FrM.up (by omega))
  · refine ⟨-1000001, S, S, ?_, ?_, X, hX, hC, hM⟩
    · rw [e85_0, within_eq, cI_s, ii_0, if_neg c]
    · rw [e145_0, hin, cI_s, ii_0, if_neg c]
