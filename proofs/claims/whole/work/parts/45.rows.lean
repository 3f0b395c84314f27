/-! rows: made, set, dropped -/
theorem cut8 (v : Int32) : (v <<< ((24 : Int32) &&& 31)) >>> ((24 : Int32) &&& 31) = v.toInt8.toInt32 := by
  apply Int32.toBitVec_inj.mp
  rw [Int32.toBitVec_shiftRight, Int32.toBitVec_shiftLeft, show ((24 : Int32) &&& 31).toBitVec.smod 32 = 24#32 from by decide, Int8.toBitVec_toInt32, Int32.toBitVec_toInt8]
  apply BitVec.eq_of_getLsbD_eq
  intro i hi
  simp only [BitVec.getLsbD_sshiftRight', BitVec.getLsbD_signExtend, BitVec.shiftLeft_eq']
  by_cases h : i < 8
  · simp [show 24 + i < 32 by omega, h, hi, show ¬ 32 ≤ i by omega, show ¬ 24 + i < 24 by omega]
  · simp [h, hi, show ¬ 24 + i < 32 by omega, show ¬ 32 ≤ i by omega, BitVec.msb_signExtend]
theorem cut16 (v : Int32) : (v <<< ((16 : Int32) &&& 31)) >>> ((16 : Int32) &&& 31) = v.toInt16.toInt32 := by
  apply Int32.toBitVec_inj.mp
  rw [Int32.toBitVec_shiftRight, Int32.toBitVec_shiftLeft, show ((16 : Int32) &&& 31).toBitVec.smod 32 = 16#32 from by decide, Int16.toBitVec_toInt32, Int32.toBitVec_toInt16]
  apply BitVec.eq_of_getLsbD_eq
  intro i hi
  simp only [BitVec.getLsbD_sshiftRight', BitVec.getLsbD_signExtend, BitVec.shiftLeft_eq']
  by_cases h : i < 16
  · simp [show 16 + i < 32 by omega, h, hi, show ¬ 32 ≤ i by omega, show ¬ 16 + i < 16 by omega]
  · simp [h, hi, show ¬ 16 + i < 32 by omega, show ¬ 32 ≤ i by omega, BitVec.msb_signExtend]
theorem neg1 (n : Nat) (h : n < 2 ^ 31) : ¬ nI n = -1 := fun q => by
  have := congrArg Int32.toInt q
  rw [nI_toInt h, show (-1 : Int32).toInt = -1 from by decide] at this
  omega
theorem sz_neg {X : Xs} (hX : XOk X) {r : Nat} (hr : r < 8) : (0 ≤ X.sz r) ↔ ¬ X.sz r = -1 := by
  rcases hX.1 r hr with h | ⟨⟨n, h1, h2⟩, -⟩
  · rw [h]; decide
  · rw [h2]
    exact ⟨fun _ => neg1 n (by omega), fun _ => nI_pos' (by omega)⟩
theorem sz_lt {X : Xs} (hX : XOk X) {r : Nat} (hr : r < 8) : (X.sz r < 0) ↔ X.sz r = -1 := by
  rcases hX.1 r hr with h | ⟨⟨n, h1, h2⟩, -⟩
  · rw [h]; decide
  · rw [h2]
    exact ⟨fun q => absurd q (nI_pos (by omega)), fun q => absurd q (neg1 n (by omega))⟩
theorem ln_neg {S : Nat → Nat → Int32} {X : Xs} (hX : XOk X) (hC : CR S X) {r : Nat} (hr : r < 8) : (S 2 r = -1) ↔ X.sz r = -1 := by
  rw [(hC.shelf r hr).1]
  rcases hX.1 r hr with h | ⟨⟨n, h1, h2⟩, l, h3, h4⟩
  · rw [if_pos h]; exact ⟨fun _ => h, fun _ => rfl⟩
  · have hn : ¬ X.sz r = -1 := by rw [h2]; exact neg1 n (by omega)
    rw [if_neg hn, h4]
    exact ⟨fun q => absurd q (neg1 l (by omega)), fun q => absurd q hn⟩
theorem isMissing_eq {S : Nat → Nat → Int32} {X : Xs} (hX : XOk X) (hC : CR S X) {r : Nat} (hr : r < 8) (sc : Nat × (Nat → Int32)) (d : Nat) : EX sc (d + 1) 70 0 [.ref 1, .int (nI r)] [] (mk S) = some (some (.int (if X.sz r = -1 then 1 else 0)), mk S) := by
  rw [e70_0, e70_1]
  simp only [O1, oB_s, aI_at (S := S) A2 hr (by omega), ln_neg hX hC hr, or_true, true_or, if_true]
  by_cases c : X.sz r = -1
  · rw [if_pos c, if_pos c]
  · rw [if_neg c, if_neg c]
/-- a span of a row -/
def Span (i n : Int32) (N : Nat) : Prop := 0 ≤ i.toInt ∧ 0 ≤ n.toInt ∧ i.toInt + n.toInt ≤ N
theorem add64 (i n : Int32) : (Int32.toInt64 i + Int32.toInt64 n).toInt = i.toInt + n.toInt := by
  rw [Int64.toInt_add, Int32.toInt_toInt64, Int32.toInt_toInt64, Int.bmod_def]
  have a1 := i.le_toInt
  have a2 := i.toInt_lt
  have b1 := n.le_toInt
  have b2 := n.toInt_lt
  split <;> omega
theorem Span.nat {i n : Int32} {N : Nat} (h : Span i n N) (hN : N < 1000) : ∃ i' n', i = nI i' ∧ n = nI n' ∧ i' + n' ≤ N := by
  obtain ⟨h1, h2, h3⟩ := h
  have f : ∀ x : Int32, 0 ≤ x.toInt → x.toInt ≤ N → x = nI x.toInt.toNat := by
    intro x hx hxN
    apply Int32.toInt_inj.mp
    rw [nI_toInt (by omega)]
    omega
  exact ⟨i.toInt.toNat, n.toInt.toNat, f i h1 (by omega), f n h2 (by omega), by omega⟩
theorem span_if {i n : Int32} {N : Nat} {A B : Option Res} (hN : N < 1000) (h : Span i n N ∨ ¬ Span i n N) : (if i < 0 then A else if n < 0 then A else if (0 : Int32) < lg_cmp (Int32.toInt64 i + Int32.toInt64 n) (Int32.toInt64 (nI N)) then A else B) = if 0 ≤ i.toInt ∧ 0 ≤ n.toInt ∧ i.toInt + n.toInt ≤ N then B else A := by
  simp only [lg_cmp_gt]
  simp only [Int64.lt_iff_toInt_lt, Int32.lt_iff_toInt_lt, add64, Int32.toInt_toInt64, nI_toInt (show N < 2 ^ 31 by omega), show (0 : Int32).toInt = 0 from rfl]
  by_cases h1 : i.toInt < 0
  · rw [if_pos h1, if_neg (by omega)]
  · rw [if_neg h1]
    by_cases h2 : n.toInt < 0
    · rw [if_pos h2, if_neg (by omega)]
    · rw [if_neg h2]
      by_cases h3 : (N : Int) < i.toInt + n.toInt
      · rw [if_pos h3, if_neg (by omega)]
      · rw [if_neg h3, if_pos (by omega)]
theorem reaches_eq {S : Nat → Nat → Int32} {r N : Nat} (hr : r < 8) (hN : N < 1000) (hs : S 3 r = nI N) (i n : Int32) (sc : Nat × (Nat → Int32)) (d : Nat) : EX sc (d + 1) 71 0 [.ref 1, .int (nI r), .int i, .int n] [] (mk S) = some (some (.int (if 0 ≤ i.toInt ∧ 0 ≤ n.toInt ∧ i.toInt + n.toInt ≤ N then 1 else 0)), mk S) := by
  rw [e71_0]
  simp only [O1, oB_s, aI_at (S := S) A3 hr (by omega), hs, e71_1, or_true, true_or, if_true]
  rw [span_if hN (Classical.em _)]
  by_cases c : 0 ≤ i.toInt ∧ 0 ≤ n.toInt ∧ i.toInt + n.toInt ≤ N
  · rw [if_pos c, if_pos c]
  · rw [if_neg c, if_neg c]
theorem isSpan_eq {S : Nat → Nat → Int32} {r N : Nat} (hr : r < 8) (hN : N < 1000) (hs : S 362 r = nI N) (i n : Int32) (sc : Nat × (Nat → Int32)) (d : Nat) : EX sc (d + 1) 142 0 [.ref 359, .int (nI r), .int i, .int n] [] (mk S) = some (some (.int (if 0 ≤ i.toInt ∧ 0 ≤ n.toInt ∧ i.toInt + n.toInt ≤ N then 1 else 0)), mk S) := by
  rw [e142_0]
  simp only [O359, oB_s, aI_at (S := S) A362 hr (by omega), hs, e142_1, or_true, true_or, if_true]
  rw [span_if hN (Classical.em _)]
  by_cases c : 0 ≤ i.toInt ∧ 0 ≤ n.toInt ∧ i.toInt + n.toInt ≤ N
  · rw [if_pos c, if_pos c]
  · rw [if_neg c, if_neg c]
theorem CR_row {S S' : Nat → Nat → Int32} {X : Xs} {ln sz : Nat → Int32} {it : Nat → Nat → Int32} (h : CR S X) (hf : ∀ k, k < 2 ∨ 12 < k → S' k = S k) (hs : CShelf S' (X.wrow ln sz it)) : CR S' (X.wrow ln sz it) := by
  exact ⟨hs, by rw [hf 0 (by omega)]; exact h.st, by rw [hf 0 (by omega)]; exact h.fl, by rw [hf 13 (by omega), hf 14 (by omega)]; exact h.tape, by rw [hf 15 (by omega), hf 16 (by omega)]; exact h.trace, h.now.cg (fun k h1 h2 => hf k (by omega)), by obtain ⟨b, hb⟩ := h.draft; exact ⟨b, hb.cg (fun k h1 h2 => hf k (by omega))⟩, h.acts.cg (by rw [hf 0 (by omega)]) (by rw [hf 0 (by omega)]) (fun k h1 h2 => hf k (by omega)), fun k hk => (h.img k hk).cg (fun k h1 h2 => hf k (by omega)), h.cache.cg (by rw [hf 45 (by omega)]) (by rw [hf 45 (by omega)]) (hf 69 (by omega))⟩
theorem MP_row {S S' : Nat → Nat → Int32} {X : Xs} {ln sz : Nat → Int32} {it : Nat → Nat → Int32} (h : MP S X) (hX : XOk X) (hf : ∀ k, k < 360 ∨ 362 < k → S' k = S k) (hs : ∀ r, r < 8 → S' 362 r = sz r ∧ (sz r ≠ -1 → S' 361 r = ln r) ∧ ∀ j, j < 40 → S' 360 (40 * r + j) = it r j) : MP S' (X.wrow ln sz it) := by
  exact ⟨hs, by rw [hf 359 (by omega)]; exact h.st, by rw [hf 359 (by omega)]; exact h.fl, by rw [hf 359 (by omega), hf 368 (by omega)]; exact h.tape, by rw [hf 359 (by omega), hf 369 (by omega)]; exact h.trace, by rw [hf 359 (by omega)]; exact h.none, h.stat.cg hX.l6 h.none (by rw [hf 359 (by omega)]) (by rw [hf 359 (by omega)]) (by rw [hf 359 (by omega)]) (hf 363 (by omega)) (hf 364 (by omega)), by rw [hf 365 (by omega)]; exact h.now, by rw [hf 359 (by omega)]; exact h.has, by rw [hf 359 (by omega), hf 366 (by omega)]; exact h.acts, by rw [hf 359 (by omega), hf 367 (by omega)]; exact h.img⟩
theorem A5_8 {r : Nat} (hr : r < 8) : AL (5 + r) 40 := by
  match r, hr with
  | 0, _ => exact A5
  | 1, _ => exact A6
  | 2, _ => exact A7
  | 3, _ => exact A8
  | 4, _ => exact A9
  | 5, _ => exact A10
  | 6, _ => exact A11
  | 7, _ => exact A12
theorem op_drop (sc : Nat × (Nat → Int32)) (x : Int32) : St2 sc 84 [.ref 0, .int x] 144 [.ref 359, .int x, Jk] := by
  rintro S ⟨X, hX, hC, hM⟩
  by_cases c : 0 ≤ x ∧ x ≤ 7
  · obtain ⟨r, hr, rfl⟩ := toN (N := 7) (by omega) c
    have hr8 : r < 8 := by omega
    by_cases cm : X.sz r = -1
    · refine stp (X := X) (X' := X.wst 1) (r := -1000010 - 1) hX hX hM ⟨_, ?_, CR_st hC 1, FrC.up (by omega)⟩ (fun S1 hM1 => ⟨_, ?_, MP_st hM1 hX 1, FrM.up (by omega)⟩)
      · rw [e84_0, isRowC, cI_s, ii_0, if_pos c, e84_1]
        simp only [O0, O1, oB_s, if_true, isMissing_eq hX hC hr8, cI_s, cm, i10, if_false, foundC]
      · rw [e144_0, isRowM, cI_s, ii_0, if_pos c, e144_1]
        simp only [O359, oB_s, if_true, aI_at (S := S1) A362 hr8 (by omega), (hM1.shelf r hr8).1]
        rw [if_neg (fun q => (sz_neg hX hr8).mp q cm), foundM, cI_s]
    · obtain ⟨⟨n, hn1, hn2⟩, l, hl1, hl2⟩ := (hX.1 r hr8).resolve_left cm
      refine stp (X := X) (X' := (X.wrow X.ln (upd X.sz r (-1)) X.it).wst 0) (r := X.sz r) hX ?_ hM ⟨_, ?_, CR_st (CR_row (S' := up S 2 r (-1)) hC (fun k hk => up_row_ne (by omega)) ?_) 0, (FrC.up (by omega)).tr (FrC.up (by omega))⟩ (fun S1 hM1 => ⟨_, ?_, MP_st (MP_row (S' := up S1 362 r (-1)) hM1 hX (fun k hk => up_row_ne (by omega)) ?_) ?_ 0, (FrM.up (by omega)).tr (FrM.up (by omega))⟩)
      · refine ⟨fun q hq => ?_, hX.2⟩
        show upd X.sz r (-1) q = -1 ∨ ((∃ n, n ≤ 40 ∧ upd X.sz r (-1) q = nI n) ∧ ∃ l, l ≤ 2 ∧ X.ln q = nI l)
        by_cases e : q = r
        · rw [e, pk_us]; exact Or.inl rfl
        · rw [pk_un e]; exact hX.1 q hq
      · rw [e84_0, isRowC, cI_s, ii_0, if_pos c, e84_1]
        simp only [O0, O1, oB_s, if_true, isMissing_eq hX hC hr8, cI_s, ii_0, cm, if_false, i10, e84_2, e74_0, sI_at (S := S) A2 hr8 (by omega), aI_at (S := up S 2 r (-1)) A3 hr8 (by omega), up_row_ne (show 3 ≠ 2 by omega), (hC.shelf r hr8).2.1 cm, wellC]
      · intro q hq
        show up S 2 r (-1) 2 q = (if upd X.sz r (-1) q = -1 then -1 else X.ln q) ∧ (upd X.sz r (-1) q ≠ -1 → up S 2 r (-1) 3 q = upd X.sz r (-1) q) ∧ ∀ j, j < 40 → up S 2 r (-1) (5 + q) j = X.it q j
        rw [up_row_ne (show 3 ≠ 2 by omega), up_row_ne (show 5 + q ≠ 2 by omega), up_at]
        by_cases e : q = r
        · rw [if_pos ⟨rfl, e⟩, e, pk_us]
          exact ⟨rfl, fun z => absurd rfl z, (hC.shelf r hr8).2.2⟩
        · rw [if_neg (fun z => e z.2), pk_un e]
          exact hC.shelf q hq
      · rw [e144_0, isRowM, cI_s, ii_0, if_pos c, e144_1]
        simp only [O359, oB_s, if_true, aI_at (S := S1) A362 hr8 (by omega), (hM1.shelf r hr8).1]
        rw [if_pos ((sz_neg hX hr8).mpr cm), e144_2]
        simp only [O359, oB_s, if_true, aI_at (S := S1) A362 hr8 (by omega), (hM1.shelf r hr8).1, sI_at (S := S1) A362 hr8 (by omega), wellM, cI_s]
      · intro q hq
        rw [up_row_ne (show 361 ≠ 362 by omega), up_row_ne (show 360 ≠ 362 by omega), up_at]
        by_cases e : q = r
        · rw [if_pos ⟨rfl, e⟩, e, pk_us]
          exact ⟨rfl, fun z => absurd rfl z, (hM1.shelf r hr8).2.2⟩
        · rw [if_neg (fun z => e z.2), pk_un e]
          exact hM1.shelf q hq
      · refine ⟨fun q hq => ?_, hX.2⟩
        show upd X.sz r (-1) q = -1 ∨ ((∃ n, n ≤ 40 ∧ upd X.sz r (-1) q = nI n) ∧ ∃ l, l ≤ 2 ∧ X.ln q = nI l)
        by_cases e : q = r
        · rw [e, pk_us]; exact Or.inl rfl
        · rw [pk_un e]; exact hX.1 q hq
  · refine ⟨-1000001, S, S, ?_, ?_, X, hX, hC, hM⟩
    · rw [e84_0, isRowC, cI_s, ii_0, if_neg c]
    · rw [e144_0, isRowM, cI_s, ii_0, if_neg c]
