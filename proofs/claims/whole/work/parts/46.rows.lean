/-! rows: made, set -/
def zr (T : Nat → Nat → Int32) (k b n : Nat) : Nat → Nat → Int32 := va_up T k (fun j => if b ≤ j ∧ j < b + n then 0 else T k j)
theorem zr_0 (T : Nat → Nat → Int32) (k b : Nat) : zr T k b 0 = T := by
  unfold zr
  have : (fun j => if b ≤ j ∧ j < b + 0 then (0 : Int32) else T k j) = T k := funext fun j => if_neg (by omega)
  rw [this, vup_id]
theorem zr_ne {T : Nat → Nat → Int32} {k b n k' : Nat} (h : k' ≠ k) : zr T k b n k' = T k' := vup_ne h
theorem zr_at (T : Nat → Nat → Int32) (k b n j : Nat) : zr T k b n k j = if b ≤ j ∧ j < b + n then 0 else T k j := by
  unfold zr
  rw [vup_at]
theorem zr_step (T : Nat → Nat → Int32) (k b n : Nat) : up (zr T k b n) k (b + n) 0 = zr T k b (n + 1) := by
  funext k' j
  rw [up_at]
  by_cases hk : k' = k
  · subst hk
    rw [zr_at, zr_at]
    by_cases hj : j = b + n
    · rw [if_pos ⟨rfl, hj⟩, if_pos (by omega)]
    · rw [if_neg (fun q => hj q.2)]
      by_cases hj2 : b ≤ j ∧ j < b + n
      · rw [if_pos hj2, if_pos (by omega)]
      · rw [if_neg hj2, if_neg (by omega)]
  · rw [if_neg (fun q => hk q.1), zr_ne hk, zr_ne hk]
theorem make_eq (S : Nat → Nat → Int32) {r n : Nat} (hr : r < 8) (hn : n ≤ 40) (x : Int32) (sc : Nat × (Nat → Int32)) (d : Nat) : EX sc (d + 1) 72 0 [.ref 1, .int (nI r), .int x, .int (nI n), Jk] [] (mk S) = some (none, mk (zr (up (up S 2 r x) 3 r (nI n)) (5 + r) 0 n)) := by
  rw [e72_0]
  simp only [O1, oB_s, sI_at (S := S) A2 hr (by omega), sI_at (S := up S 2 r x) A3 hr (by omega)]
  have := loopN (N := n) (fun k T => EX sc (d + 1) 72 1 [.ref 1, .int (nI r), Jk, .int (nI n), .int (nI k)] [] (mk T)) (fun T => some (none, mk T)) (fun k => zr (up (up S 2 r x) 3 r (nI n)) (5 + r) 0 k) (by
    show EX sc (d + 1) 72 1 _ _ _ = _
    rw [e72_1, e72_2, if_pos (nI_le (by omega) (by omega))]) (fun k hk => by
    show EX sc (d + 1) 72 1 _ _ _ = EX sc (d + 1) 72 1 _ _ _
    rw [e72_1, if_neg (nI_ge (by omega) (by omega))]
    have hz := zr_step (up (up S 2 r x) 3 r (nI n)) (5 + r) 0 k
    rw [Nat.zero_add] at hz
    simp only [O1, oB_s, aR4 _ hr, sI_at (S := zr (up (up S 2 r x) 3 r (nI n)) (5 + r) 0 k) (A5_8 hr) (show k < 40 by omega) (by omega), nI_1, hz]) n 0 (by omega)
  rw [zr_0] at this
  exact this
theorem makeM_eq (S : Nat → Nat → Int32) {r n : Nat} (hr : r < 8) (hn : n ≤ 40) (x : Int32) (sc : Nat × (Nat → Int32)) (d : Nat) : EX sc (d + 1) 140 3 [.ref 359, .int (nI r), .int x, .int (nI n), Jk] [] (mk S) = EX sc (d + 1) 140 5 [.ref 359, Jk, Jk, .int (nI n), Jk] [] (mk (zr (up (up S 361 r x) 362 r (nI n)) 360 (40 * r) n)) := by
  rw [e140_3]
  simp only [O359, oB_s, sI_at (S := S) A361 hr (by omega), sI_at (S := up S 361 r x) A362 hr (by omega)]
  have := loopN (N := n) (fun k T => EX sc (d + 1) 140 4 [.ref 359, .int (nI r), Jk, .int (nI n), .int (nI k)] [] (mk T)) (fun T => EX sc (d + 1) 140 5 [.ref 359, Jk, Jk, .int (nI n), Jk] [] (mk T)) (fun k => zr (up (up S 361 r x) 362 r (nI n)) 360 (40 * r) k) (by
    show EX sc (d + 1) 140 4 _ _ _ = EX sc (d + 1) 140 5 _ _ _
    rw [e140_4, if_pos (nI_le (by omega) (by omega))]) (fun k hk => by
    show EX sc (d + 1) 140 4 _ _ _ = EX sc (d + 1) 140 4 _ _ _
    rw [e140_4, if_neg (nI_ge (by omega) (by omega)), show (40 : Int32) = nI 40 from rfl, pk_mul, nI_add]
    have hz := zr_step (up (up S 361 r x) 362 r (nI n)) 360 (40 * r) k
    simp only [O359, oB_s, sI_at (S := zr (up (up S 361 r x) 362 r (nI n)) 360 (40 * r) k) A360 (show 40 * r + k < 320 by omega) (by omega), nI_1, hz]) n 0 (by omega)
  rw [zr_0] at this
  exact this
theorem op_row (sc : Nat × (Nat → Int32)) (x y z : Int32) : St2 sc 81 [.ref 0, .int x, .int y, .int z] 140 [.ref 359, .int x, .int y, .int z, Jk] := by
  rintro S ⟨X, hX, hC, hM⟩
  have hin := fun S => in_eq S y 0 2 sc 37
  simp only [show Int32.toInt64 0 = 0 from rfl, show Int32.toInt64 2 = 2 from rfl] at hin
  have bad : (¬ (0 ≤ x ∧ x ≤ 7) ∨ ¬ (0 ≤ y ∧ y ≤ 2) ∨ ¬ z ≤ 40) → ∃ r S1 S2, EX sc 39 81 0 [.ref 0, .int x, .int y, .int z] [] (mk S) = some (some (.int r), mk S1) ∧ EX sc 39 140 0 [.ref 359, .int x, .int y, .int z, Jk] [] (mk S1) = some (some (.int r), mk S2) ∧ Inv S2 := by
    intro hb
    refine ⟨-1000001, S, S, ?_, ?_, X, hX, hC, hM⟩
    · rw [e81_0, isRowC, cI_s, ii_0]
      by_cases c1 : 0 ≤ x ∧ x ≤ 7
      · rw [if_pos c1, within_eq, cI_s, ii_0]
        by_cases c2 : 0 ≤ y ∧ y ≤ 2
        · rw [if_pos c2, if_neg ((hb.resolve_left (fun q => q c1)).resolve_left (fun q => q c2)), e81_1]
        · rw [if_neg c2, e81_1]
      · rw [if_neg c1, e81_1]
    · rw [e140_0, isRowM, cI_s, ii_0]
      by_cases c1 : 0 ≤ x ∧ x ≤ 7
      · rw [if_pos c1, hin, cI_s, ii_0]
        by_cases c2 : 0 ≤ y ∧ y ≤ 2
        · rw [if_pos c2, if_neg ((hb.resolve_left (fun q => q c1)).resolve_left (fun q => q c2)), e140_1]
        · rw [if_neg c2, e140_1]
      · rw [if_neg c1, e140_1]
  by_cases c1 : 0 ≤ x ∧ x ≤ 7
  · by_cases c2 : 0 ≤ y ∧ y ≤ 2
    · by_cases c3 : z ≤ 40
      · by_cases c4 : 0 ≤ z
        · obtain ⟨r, hr, rfl⟩ := toN (N := 7) (by omega) c1
          have hr8 : r < 8 := by omega
          obtain ⟨l, hl, rfl⟩ := toN (N := 2) (by omega) c2
          obtain ⟨n, hn, rfl⟩ := toN (N := 40) (by omega) ⟨c4, c3⟩
          have hX' : XOk (X.wrow (upd X.ln r (nI l)) (upd X.sz r (nI n)) (va_up X.it r (fun j => if j < n then 0 else X.it r j))) := by
            refine ⟨fun q hq => ?_, hX.2⟩
            show upd X.sz r (nI n) q = -1 ∨ ((∃ n', n' ≤ 40 ∧ upd X.sz r (nI n) q = nI n') ∧ ∃ l', l' ≤ 2 ∧ upd X.ln r (nI l) q = nI l')
            by_cases e : q = r
            · rw [e, pk_us, pk_us]; exact Or.inr ⟨⟨n, hn, rfl⟩, l, hl, rfl⟩
            · rw [pk_un e, pk_un e]; exact hX.1 q hq
          refine stp (X := X) (X' := (X.wrow (upd X.ln r (nI l)) (upd X.sz r (nI n)) (va_up X.it r (fun j => if j < n then 0 else X.it r j))).wst 0) (r := nI n) hX hX' hM ⟨_, ?_, CR_st (CR_row (S' := zr (up (up S 2 r (nI l)) 3 r (nI n)) (5 + r) 0 n) hC (fun k hk => by rw [zr_ne (by omega), up_row_ne (by omega), up_row_ne (by omega)]) ?_) 0, ?_⟩ (fun S1 hM1 => ⟨_, ?_, MP_st (MP_row (S' := zr (up (up S1 361 r (nI l)) 362 r (nI n)) 360 (40 * r) n) hM1 hX (fun k hk => by rw [zr_ne (by omega), up_row_ne (by omega), up_row_ne (by omega)]) ?_) hX' 0, ?_⟩)
          · rw [e81_0, isRowC, cI_s, ii_0, if_pos c1, within_eq, cI_s, ii_0, if_pos c2, if_pos c3, e81_2, if_pos c4, e81_3]
            simp only [O0, O1, oB_s, if_true, make_eq S hr8 hn, cV_s, wellC, cI_s]
          · intro q hq
            show zr (up (up S 2 r (nI l)) 3 r (nI n)) (5 + r) 0 n 2 q = (if upd X.sz r (nI n) q = -1 then -1 else upd X.ln r (nI l) q) ∧ (upd X.sz r (nI n) q ≠ -1 → zr (up (up S 2 r (nI l)) 3 r (nI n)) (5 + r) 0 n 3 q = upd X.sz r (nI n) q) ∧ ∀ j, j < 40 → zr (up (up S 2 r (nI l)) 3 r (nI n)) (5 + r) 0 n (5 + q) j = va_up X.it r (fun j => if j < n then 0 else X.it r j) q j
            rw [zr_ne (show 2 ≠ 5 + r by omega), zr_ne (show 3 ≠ 5 + r by omega), up_row_ne (show 2 ≠ 3 by omega), up_at, up_at, up_row_ne (show 3 ≠ 2 by omega)]
            by_cases e : q = r
            · subst e
              rw [pk_us, pk_us, if_neg (neg1 n (by omega)), if_pos ⟨rfl, rfl⟩, if_pos ⟨rfl, rfl⟩]
              refine ⟨rfl, fun _ => rfl, fun j hj => ?_⟩
              rw [zr_at, vup_at, up_row_ne (show 5 + q ≠ 3 by omega), up_row_ne (show 5 + q ≠ 2 by omega), (hC.shelf q hq).2.2 j hj]
              by_cases hjn : j < n
              · rw [if_pos ⟨by omega, by omega⟩, if_pos hjn]
              · rw [if_neg (by omega), if_neg hjn]
            · rw [pk_un e, pk_un e, if_neg (show ¬ ((2 : Nat) = 2 ∧ q = r) from fun z => e z.2), if_neg (show ¬ ((3 : Nat) = 3 ∧ q = r) from fun z => e z.2), zr_ne (show 5 + q ≠ 5 + r by omega), up_row_ne (show 5 + q ≠ 3 by omega), up_row_ne (show 5 + q ≠ 2 by omega), vup_ne e]
              exact hC.shelf q hq
          · intro k hk
            rw [up_row_ne (by omega), zr_ne (by omega), up_row_ne (by omega), up_row_ne (by omega)]
          · rw [e140_0, isRowM, cI_s, ii_0, if_pos c1, hin, cI_s, ii_0, if_pos c2, if_pos c3, e140_2, if_pos c4, makeM_eq S1 hr8 hn, e140_5]
            simp only [O359, if_true, wellM, cI_s]
          · intro q hq
            rw [zr_ne (show 362 ≠ 360 by omega), zr_ne (show 361 ≠ 360 by omega), up_row_ne (show 361 ≠ 362 by omega), up_at, up_row_ne (show 362 ≠ 361 by omega), up_at]
            by_cases e : q = r
            · subst e
              rw [pk_us, pk_us, if_pos ⟨rfl, rfl⟩, if_pos ⟨rfl, rfl⟩]
              refine ⟨rfl, fun _ => rfl, fun j hj => ?_⟩
              rw [zr_at, vup_at, up_row_ne (show 360 ≠ 362 by omega), up_row_ne (show 360 ≠ 361 by omega), (hM1.shelf q hq).2.2 j hj]
              by_cases hjn : j < n
              · rw [if_pos ⟨by omega, by omega⟩, if_pos hjn]
              · rw [if_neg (by omega), if_neg hjn]
            · rw [pk_un e, pk_un e, if_neg (fun z => e z.2), if_neg (fun z => e z.2), vup_ne e]
              refine ⟨(hM1.shelf q hq).1, (hM1.shelf q hq).2.1, fun j hj => ?_⟩
              rw [zr_at, if_neg (by omega), up_row_ne (show 360 ≠ 362 by omega), up_row_ne (show 360 ≠ 361 by omega)]
              exact (hM1.shelf q hq).2.2 j hj
          · intro k hk
            rw [up_row_ne (by omega), zr_ne (by omega), up_row_ne (by omega), up_row_ne (by omega)]
        · refine stp (X := X) (X' := X.wst 4) (r := -1000010 - 4) hX hX hM ⟨_, ?_, CR_st hC 4, FrC.up (by omega)⟩ (fun S1 hM1 => ⟨_, ?_, MP_st hM1 hX 4, FrM.up (by omega)⟩)
          · rw [e81_0, isRowC, cI_s, ii_0, if_pos c1, within_eq, cI_s, ii_0, if_pos c2, if_pos c3, e81_2, if_neg c4]
            simp only [O0, if_true, foundC, cI_s]
          · rw [e140_0, isRowM, cI_s, ii_0, if_pos c1, hin, cI_s, ii_0, if_pos c2, if_pos c3, e140_2, if_neg c4]
            simp only [O359, if_true, foundM, cI_s]
      · exact bad (Or.inr (Or.inr c3))
    · exact bad (Or.inr (Or.inl c2))
  · exact bad (Or.inl c1)
theorem up_up (S : Nat → Nat → Int32) (k j : Nat) (x y : Int32) : up (up S k j x) k j y = up S k j y := by
  funext k' j'
  rw [up_at, up_at, up_at]
  by_cases e : k' = k ∧ j' = j
  · rw [if_pos e, if_pos e]
  · rw [if_neg e, if_neg e, if_neg e]
def cutV (l v : Int32) : Int32 := if l = 0 then v.toInt8.toInt32 else if l = 1 then v.toInt16.toInt32 else v
theorem cutTo_eq (S : Nat → Nat → Int32) (l v : Int32) (sc : Nat × (Nat → Int32)) (d : Nat) : EX sc (d + 1) 76 0 [.int l, .int v] [] (mk S) = some (some (.int (cutV l v)), mk S) := by
  rw [e76_0, e76_1, e76_2]
  unfold cutV
  by_cases h1 : l = 0
  · rw [if_pos h1, if_pos h1]
  · rw [if_neg h1, if_neg h1]
    by_cases h2 : l = 1
    · rw [if_pos h2, if_pos h2]
    · rw [if_neg h2, if_neg h2]
theorem op_set (sc : Nat × (Nat → Int32)) (x y z : Int32) : St2 sc 82 [.ref 0, .int x, .int y, .int z] 141 [.ref 359, .int x, .int y, .int z] := by
  rintro S ⟨X, hX, hC, hM⟩
  by_cases c1 : 0 ≤ x ∧ x ≤ 7
  · obtain ⟨r, hr, rfl⟩ := toN (N := 7) (by omega) c1
    have hr8 : r < 8 := by omega
    by_cases cm : X.sz r = -1
    · refine stp (X := X) (X' := X.wst 1) (r := -1000010 - 1) hX hX hM ⟨_, ?_, CR_st hC 1, FrC.up (by omega)⟩ (fun S1 hM1 => ⟨_, ?_, MP_st hM1 hX 1, FrM.up (by omega)⟩)
      · rw [e82_0, isRowC, cI_s, ii_0, if_pos c1, e82_1]
        simp only [O0, O1, oB_s, if_true, isMissing_eq hX hC hr8, cI_s, cm, i10, if_false, foundC]
      · rw [e141_0, isRowM, cI_s, ii_0, if_pos c1, e141_1]
        simp only [O359, oB_s, if_true, aI_at (S := S1) A362 hr8 (by omega), (hM1.shelf r hr8).1]
        rw [if_neg (fun q => (sz_neg hX hr8).mp q cm), foundM, cI_s]
    · obtain ⟨⟨n, hn1, hn2⟩, l, hl1, hl2⟩ := (hX.1 r hr8).resolve_left cm
      have hs3 : S 3 r = nI n := by rw [(hC.shelf r hr8).2.1 cm, hn2]
      have hs2 : S 2 r = nI l := by rw [(hC.shelf r hr8).1, if_neg cm, hl2]
      have hin := fun S => in_eq S y 0 (nI n - 1) sc 37
      simp only [show Int32.toInt64 0 = 0 from rfl] at hin
      have hspan : (0 ≤ y.toInt ∧ 0 ≤ (1 : Int32).toInt ∧ y.toInt + (1 : Int32).toInt ≤ n) ↔ (0 ≤ y ∧ y ≤ nI n - 1) := by
        rw [toL (by omega), show (1 : Int32).toInt = 1 from rfl]
        constructor
        · rintro ⟨h1, -, h2⟩
          obtain ⟨i', n', k1, k2, k3⟩ := Span.nat (i := y) (n := 1) (N := n) ⟨h1, by decide, h2⟩ (by omega)
          refine ⟨i', ?_, k1⟩
          have := (nI_eq (a := 1) (b := n') (by omega) (by omega)).mp k2
          omega
        · rintro ⟨i, hi, rfl⟩
          rw [nI_toInt (by omega)]
          omega
      by_cases c2 : 0 ≤ y ∧ y ≤ nI n - 1
      · obtain ⟨i, hi, rfl⟩ := (toL (by omega)).mp c2
        have hX' : XOk (X.wrow X.ln X.sz (va_up X.it r (upd (X.it r) i (cutV (nI l) z)))) := hX
        refine stp (X := X) (X' := (X.wrow X.ln X.sz (va_up X.it r (upd (X.it r) i (cutV (nI l) z)))).wst 0) (r := cutV (nI l) z) hX hX' hM ⟨_, ?_, CR_st (CR_row (S' := up S (5 + r) i (cutV (nI l) z)) hC (fun k hk => up_row_ne (by omega)) ?_) 0, ?_⟩ (fun S1 hM1 => ⟨_, ?_, MP_st (MP_row (S' := up S1 360 (40 * r + i) (cutV (nI l) z)) hM1 hX (fun k hk => up_row_ne (by omega)) ?_) hX' 0, ?_⟩)
        · rw [e82_0, isRowC, cI_s, ii_0, if_pos c1, e82_1]
          simp only [O0, O1, oB_s, if_true, isMissing_eq hX hC hr8, cI_s, ii_0, cm, if_false]
          rw [e82_2]
          simp only [O0, O1, oB_s, if_true, reaches_eq hr8 (show n < 1000 by omega) hs3, cI_s, ii_0, hspan]
          rw [if_pos c2, e82_3]
          simp only [O0, O1, oB_s, if_true, e73_0, aR4 _ hr8, aI_at (S := S) A2 hr8 (by omega), hs2, cutTo_eq, cI_s, sI_at (S := S) (A5_8 hr8) (show i < 40 by omega) (by omega), aI_at (S := up S (5 + r) i (cutV (nI l) z)) (A5_8 hr8) (show i < 40 by omega) (by omega), up_same, wellC]
        · intro q hq
          show up S (5 + r) i (cutV (nI l) z) 2 q = (if X.sz q = -1 then -1 else X.ln q) ∧ (X.sz q ≠ -1 → up S (5 + r) i (cutV (nI l) z) 3 q = X.sz q) ∧ ∀ j, j < 40 → up S (5 + r) i (cutV (nI l) z) (5 + q) j = va_up X.it r (upd (X.it r) i (cutV (nI l) z)) q j
          rw [up_row_ne (show 2 ≠ 5 + r by omega), up_row_ne (show 3 ≠ 5 + r by omega)]
          refine ⟨(hC.shelf q hq).1, (hC.shelf q hq).2.1, fun j hj => ?_⟩
          by_cases e : q = r
          · subst e
            rw [vup_at, up_at]
            by_cases e2 : j = i
            · rw [if_pos ⟨rfl, e2⟩, e2, pk_us]
            · rw [if_neg (fun z => e2 z.2), pk_un e2]; exact (hC.shelf q hq).2.2 j hj
          · rw [vup_ne e, up_row_ne (by omega)]; exact (hC.shelf q hq).2.2 j hj
        · intro k hk
          rw [up_row_ne (by omega), up_row_ne (by omega)]
        · have hln : S1 361 r = nI l := by rw [(hM1.shelf r hr8).2.1 cm, hl2]
          rw [e141_0, isRowM, cI_s, ii_0, if_pos c1, e141_1]
          simp only [O359, oB_s, if_true, aI_at (S := S1) A362 hr8 (by omega), (hM1.shelf r hr8).1]
          rw [if_pos ((sz_neg hX hr8).mpr cm), e141_2]
          simp only [O359, oB_s, if_true, aI_at (S := S1) A362 hr8 (by omega), (hM1.shelf r hr8).1, hn2, hin, cI_s, ii_0]
          rw [if_pos c2, e141_3]
          simp only [e141_4, e141_5, e141_6, cut8, cut16, O359, oB_s, aI_at (S := S1) A361 hr8 (by omega), hln, show (40 : Int32) = nI 40 from rfl, pk_mul, nI_add, fun x => sI_at (S := S1) A360 (show 40 * r + i < 320 by omega) (by omega) x, fun x => aI_at (S := up S1 360 (40 * r + i) x) A360 (show 40 * r + i < 320 by omega) (by omega), up_same, if_true, wellM, cI_s]
          unfold cutV
          by_cases h1 : nI l = 0
          · rw [if_pos h1, if_pos h1]
          · rw [if_neg h1, if_neg h1]
            by_cases h2 : nI l = 1
            · rw [if_pos h2, if_pos h2]
            · rw [if_neg h2, if_neg h2]
        · intro q hq
          rw [up_row_ne (show 362 ≠ 360 by omega), up_row_ne (show 361 ≠ 360 by omega)]
          refine ⟨(hM1.shelf q hq).1, (hM1.shelf q hq).2.1, fun j hj => ?_⟩
          rw [up_at]
          by_cases e : q = r
          · subst e
            rw [vup_at]
            by_cases e2 : j = i
            · rw [if_pos ⟨rfl, by omega⟩, e2, pk_us]
            · rw [if_neg (fun z => e2 (by omega)), pk_un e2]; exact (hM1.shelf q hq).2.2 j hj
          · rw [vup_ne e, if_neg (fun z => e (by omega))]; exact (hM1.shelf q hq).2.2 j hj
        · intro k hk
          rw [up_row_ne (by omega), up_row_ne (by omega)]
      · refine stp (X := X) (X' := X.wst 2) (r := -1000010 - 2) hX hX hM ⟨_, ?_, CR_st hC 2, FrC.up (by omega)⟩ (fun S1 hM1 => ⟨_, ?_, MP_st hM1 hX 2, FrM.up (by omega)⟩)
        · rw [e82_0, isRowC, cI_s, ii_0, if_pos c1, e82_1]
          simp only [O0, O1, oB_s, if_true, isMissing_eq hX hC hr8, cI_s, ii_0, cm, if_false]
          rw [e82_2]
          simp only [O0, O1, oB_s, if_true, reaches_eq hr8 (show n < 1000 by omega) hs3, cI_s, ii_0, hspan]
          rw [if_neg c2, foundC, cI_s]
        · rw [e141_0, isRowM, cI_s, ii_0, if_pos c1, e141_1]
          simp only [O359, oB_s, if_true, aI_at (S := S1) A362 hr8 (by omega), (hM1.shelf r hr8).1]
          rw [if_pos ((sz_neg hX hr8).mpr cm), e141_2]
          simp only [O359, oB_s, if_true, aI_at (S := S1) A362 hr8 (by omega), (hM1.shelf r hr8).1, hn2, hin, cI_s, ii_0]
          rw [if_neg c2, foundM, cI_s]
  · refine ⟨-1000001, S, S, ?_, ?_, X, hX, hC, hM⟩
    · rw [e82_0, isRowC, cI_s, ii_0, if_neg c1]
    · rw [e141_0, isRowM, cI_s, ii_0, if_neg c1]
