/-! the law: its loop -/
theorem ix_I {i : Nat} (h : i < 100000) : (nI i).toNatClampNeg = i := by
  rw [Int32.toNatClampNeg, nI_toInt (by omega)]
  exact Int.toNat_natCast _

theorem law_2 {sc : Nat × (Nat → Int32)} {i : Nat} {S : Nat → Nat → Int32} (hI : Inv S) (hx : ∀ j : Nat, j < 6 → ¬ (nI i + Int32.ofNat j < 0 ∨ sc.1 ≤ Int32.toNatClampNeg (nI i + Int32.ofNat j))) : ∃ S2, Inv S2 ∧ EX sc 40 229 2 [.retAddr 0, .ref 0, .ref 359, .int (nI i)] [] (mk S) = EX sc 40 229 39 [.retAddr 0, .ref 0, .ref 359, .int (nI i)] [] (mk S2) := by
  obtain ⟨r, S1, S2, h1, h2, h3⟩ := op_row sc (sc.2 (Int32.toNatClampNeg (nI i + 1))) (sc.2 (Int32.toNatClampNeg (nI i + 2))) (sc.2 (Int32.toNatClampNeg (nI i + 3))) S hI
  refine ⟨S2, h3, ?_⟩
  rw [e229_2, if_neg (show ¬ (nI i + 1 < 0 ∨ sc.1 ≤ Int32.toNatClampNeg (nI i + 1)) from hx 1 (by omega)), if_neg (show ¬ (nI i + 2 < 0 ∨ sc.1 ≤ Int32.toNatClampNeg (nI i + 2)) from hx 2 (by omega)), if_neg (show ¬ (nI i + 3 < 0 ∨ sc.1 ≤ Int32.toNatClampNeg (nI i + 3)) from hx 3 (by omega)), if_pos (show clsOf (mk S) 0 = some 10 from rfl), h1, cI_s, if_neg (show ¬ (nI i + 1 < 0 ∨ sc.1 ≤ Int32.toNatClampNeg (nI i + 1)) from hx 1 (by omega)), if_neg (show ¬ (nI i + 2 < 0 ∨ sc.1 ≤ Int32.toNatClampNeg (nI i + 2)) from hx 2 (by omega)), if_neg (show ¬ (nI i + 3 < 0 ∨ sc.1 ≤ Int32.toNatClampNeg (nI i + 3)) from hx 3 (by omega)), if_pos (show clsOf (mk S1) 359 = some 11 from rfl), h2, cI_s, if_pos rfl]
theorem law_3 {sc : Nat × (Nat → Int32)} {i : Nat} {S : Nat → Nat → Int32} (hI : Inv S) (hx : ∀ j : Nat, j < 6 → ¬ (nI i + Int32.ofNat j < 0 ∨ sc.1 ≤ Int32.toNatClampNeg (nI i + Int32.ofNat j))) : ∃ S2, Inv S2 ∧ EX sc 40 229 3 [.retAddr 0, .ref 0, .ref 359, .int (nI i)] [] (mk S) = EX sc 40 229 39 [.retAddr 0, .ref 0, .ref 359, .int (nI i)] [] (mk S2) := by
  obtain ⟨r, S1, S2, h1, h2, h3⟩ := op_set sc (sc.2 (Int32.toNatClampNeg (nI i + 1))) (sc.2 (Int32.toNatClampNeg (nI i + 2))) (sc.2 (Int32.toNatClampNeg (nI i + 3))) S hI
  refine ⟨S2, h3, ?_⟩
  rw [e229_3, if_neg (show ¬ (nI i + 1 < 0 ∨ sc.1 ≤ Int32.toNatClampNeg (nI i + 1)) from hx 1 (by omega)), if_neg (show ¬ (nI i + 2 < 0 ∨ sc.1 ≤ Int32.toNatClampNeg (nI i + 2)) from hx 2 (by omega)), if_neg (show ¬ (nI i + 3 < 0 ∨ sc.1 ≤ Int32.toNatClampNeg (nI i + 3)) from hx 3 (by omega)), if_pos (show clsOf (mk S) 0 = some 10 from rfl), h1, cI_s, if_neg (show ¬ (nI i + 1 < 0 ∨ sc.1 ≤ Int32.toNatClampNeg (nI i + 1)) from hx 1 (by omega)), if_neg (show ¬ (nI i + 2 < 0 ∨ sc.1 ≤ Int32.toNatClampNeg (nI i + 2)) from hx 2 (by omega)), if_neg (show ¬ (nI i + 3 < 0 ∨ sc.1 ≤ Int32.toNatClampNeg (nI i + 3)) from hx 3 (by omega)), if_pos (show clsOf (mk S1) 359 = some 11 from rfl), h2, cI_s, if_pos rfl]
theorem law_4 {sc : Nat × (Nat → Int32)} {i : Nat} {S : Nat → Nat → Int32} (hI : Inv S) (hx : ∀ j : Nat, j < 6 → ¬ (nI i + Int32.ofNat j < 0 ∨ sc.1 ≤ Int32.toNatClampNeg (nI i + Int32.ofNat j))) : ∃ S2, Inv S2 ∧ EX sc 40 229 4 [.retAddr 0, .ref 0, .ref 359, .int (nI i)] [] (mk S) = EX sc 40 229 39 [.retAddr 0, .ref 0, .ref 359, .int (nI i)] [] (mk S2) := by
  obtain ⟨r, S1, S2, h1, h2, h3⟩ := op_copy sc (sc.2 (Int32.toNatClampNeg (nI i + 1))) (sc.2 (Int32.toNatClampNeg (nI i + 2))) (sc.2 (Int32.toNatClampNeg (nI i + 3))) (sc.2 (Int32.toNatClampNeg (nI i + 4))) (sc.2 (Int32.toNatClampNeg (nI i + 5))) S hI
  refine ⟨S2, h3, ?_⟩
  rw [e229_4, if_neg (show ¬ (nI i + 1 < 0 ∨ sc.1 ≤ Int32.toNatClampNeg (nI i + 1)) from hx 1 (by omega)), if_neg (show ¬ (nI i + 2 < 0 ∨ sc.1 ≤ Int32.toNatClampNeg (nI i + 2)) from hx 2 (by omega)), if_neg (show ¬ (nI i + 3 < 0 ∨ sc.1 ≤ Int32.toNatClampNeg (nI i + 3)) from hx 3 (by omega)), if_neg (show ¬ (nI i + 4 < 0 ∨ sc.1 ≤ Int32.toNatClampNeg (nI i + 4)) from hx 4 (by omega)), if_neg (show ¬ (nI i + 5 < 0 ∨ sc.1 ≤ Int32.toNatClampNeg (nI i + 5)) from hx 5 (by omega)), if_pos (show clsOf (mk S) 0 = some 10 from rfl), h1, cI_s, if_neg (show ¬ (nI i + 1 < 0 ∨ sc.1 ≤ Int32.toNatClampNeg (nI i + 1)) from hx 1 (by omega)), if_neg (show ¬ (nI i + 2 < 0 ∨ sc.1 ≤ Int32.toNatClampNeg (nI i + 2)) from hx 2 (by omega)), if_neg (show ¬ (nI i + 3 < 0 ∨ sc.1 ≤ Int32.toNatClampNeg (nI i + 3)) from hx 3 (by omega)), if_neg (show ¬ (nI i + 4 < 0 ∨ sc.1 ≤ Int32.toNatClampNeg (nI i + 4)) from hx 4 (by omega)), if_neg (show ¬ (nI i + 5 < 0 ∨ sc.1 ≤ Int32.toNatClampNeg (nI i + 5)) from hx 5 (by omega)), if_pos (show clsOf (mk S1) 359 = some 11 from rfl), h2, cI_s, if_pos rfl]
theorem law_5 {sc : Nat × (Nat → Int32)} {i : Nat} {S : Nat → Nat → Int32} (hI : Inv S) (hx : ∀ j : Nat, j < 6 → ¬ (nI i + Int32.ofNat j < 0 ∨ sc.1 ≤ Int32.toNatClampNeg (nI i + Int32.ofNat j))) : ∃ S2, Inv S2 ∧ EX sc 40 229 5 [.retAddr 0, .ref 0, .ref 359, .int (nI i)] [] (mk S) = EX sc 40 229 39 [.retAddr 0, .ref 0, .ref 359, .int (nI i)] [] (mk S2) := by
  obtain ⟨r, S1, S2, h1, h2, h3⟩ := op_drop sc (sc.2 (Int32.toNatClampNeg (nI i + 1))) S hI
  refine ⟨S2, h3, ?_⟩
  rw [e229_5, if_neg (show ¬ (nI i + 1 < 0 ∨ sc.1 ≤ Int32.toNatClampNeg (nI i + 1)) from hx 1 (by omega)), if_pos (show clsOf (mk S) 0 = some 10 from rfl), h1, cI_s, if_neg (show ¬ (nI i + 1 < 0 ∨ sc.1 ≤ Int32.toNatClampNeg (nI i + 1)) from hx 1 (by omega)), if_pos (show clsOf (mk S1) 359 = some 11 from rfl), h2, cI_s, if_pos rfl]
theorem law_6 {sc : Nat × (Nat → Int32)} {i : Nat} {S : Nat → Nat → Int32} (hI : Inv S) (hx : ∀ j : Nat, j < 6 → ¬ (nI i + Int32.ofNat j < 0 ∨ sc.1 ≤ Int32.toNatClampNeg (nI i + Int32.ofNat j))) : ∃ S2, Inv S2 ∧ EX sc 40 229 6 [.retAddr 0, .ref 0, .ref 359, .int (nI i)] [] (mk S) = EX sc 40 229 39 [.retAddr 0, .ref 0, .ref 359, .int (nI i)] [] (mk S2) := by
  obtain ⟨r, S1, S2, h1, h2, h3⟩ := op_feed sc (sc.2 (Int32.toNatClampNeg (nI i + 1))) S hI
  refine ⟨S2, h3, ?_⟩
  rw [e229_6, if_neg (show ¬ (nI i + 1 < 0 ∨ sc.1 ≤ Int32.toNatClampNeg (nI i + 1)) from hx 1 (by omega)), if_pos (show clsOf (mk S) 0 = some 10 from rfl), h1, cI_s, if_neg (show ¬ (nI i + 1 < 0 ∨ sc.1 ≤ Int32.toNatClampNeg (nI i + 1)) from hx 1 (by omega)), if_pos (show clsOf (mk S1) 359 = some 11 from rfl), h2, cI_s, if_pos rfl]
theorem law_7 {sc : Nat × (Nat → Int32)} {i : Nat} {S : Nat → Nat → Int32} (hI : Inv S) (hx : ∀ j : Nat, j < 6 → ¬ (nI i + Int32.ofNat j < 0 ∨ sc.1 ≤ Int32.toNatClampNeg (nI i + Int32.ofNat j))) : ∃ S2, Inv S2 ∧ EX sc 40 229 7 [.retAddr 0, .ref 0, .ref 359, .int (nI i)] [] (mk S) = EX sc 40 229 39 [.retAddr 0, .ref 0, .ref 359, .int (nI i)] [] (mk S2) := by
  obtain ⟨r, S1, S2, h1, h2, h3⟩ := op_house sc  S hI
  refine ⟨S2, h3, ?_⟩
  rw [e229_7, if_pos (show clsOf (mk S) 0 = some 10 from rfl), h1, cI_s, if_pos (show clsOf (mk S1) 359 = some 11 from rfl), h2, cI_s, if_pos rfl]
theorem law_8 {sc : Nat × (Nat → Int32)} {i : Nat} {S : Nat → Nat → Int32} (hI : Inv S) (hx : ∀ j : Nat, j < 6 → ¬ (nI i + Int32.ofNat j < 0 ∨ sc.1 ≤ Int32.toNatClampNeg (nI i + Int32.ofNat j))) : ∃ S2, Inv S2 ∧ EX sc 40 229 8 [.retAddr 0, .ref 0, .ref 359, .int (nI i)] [] (mk S) = EX sc 40 229 39 [.retAddr 0, .ref 0, .ref 359, .int (nI i)] [] (mk S2) := by
  obtain ⟨r, S1, S2, h1, h2, h3⟩ := op_fault sc  S hI
  refine ⟨S2, h3, ?_⟩
  rw [e229_8, if_pos (show clsOf (mk S) 0 = some 10 from rfl), h1, cI_s, if_pos (show clsOf (mk S1) 359 = some 11 from rfl), h2, cI_s, if_pos rfl]
theorem law_9 {sc : Nat × (Nat → Int32)} {i : Nat} {S : Nat → Nat → Int32} (hI : Inv S) (hx : ∀ j : Nat, j < 6 → ¬ (nI i + Int32.ofNat j < 0 ∨ sc.1 ≤ Int32.toNatClampNeg (nI i + Int32.ofNat j))) : ∃ S2, Inv S2 ∧ EX sc 40 229 9 [.retAddr 0, .ref 0, .ref 359, .int (nI i)] [] (mk S) = EX sc 40 229 39 [.retAddr 0, .ref 0, .ref 359, .int (nI i)] [] (mk S2) := by
  obtain ⟨r, S1, S2, h1, h2, h3⟩ := op_undo sc  S hI
  refine ⟨S2, h3, ?_⟩
  rw [e229_9, if_pos (show clsOf (mk S) 0 = some 10 from rfl), h1, cI_s, if_pos (show clsOf (mk S1) 359 = some 11 from rfl), h2, cI_s, if_pos rfl]
theorem law_10 {sc : Nat × (Nat → Int32)} {i : Nat} {S : Nat → Nat → Int32} (hI : Inv S) (hx : ∀ j : Nat, j < 6 → ¬ (nI i + Int32.ofNat j < 0 ∨ sc.1 ≤ Int32.toNatClampNeg (nI i + Int32.ofNat j))) : ∃ S2, Inv S2 ∧ EX sc 40 229 10 [.retAddr 0, .ref 0, .ref 359, .int (nI i)] [] (mk S) = EX sc 40 229 39 [.retAddr 0, .ref 0, .ref 359, .int (nI i)] [] (mk S2) := by
  obtain ⟨r, S1, S2, h1, h2, h3⟩ := op_ticks sc (sc.2 (Int32.toNatClampNeg (nI i + 1))) S hI
  refine ⟨S2, h3, ?_⟩
  rw [e229_10, if_neg (show ¬ (nI i + 1 < 0 ∨ sc.1 ≤ Int32.toNatClampNeg (nI i + 1)) from hx 1 (by omega)), if_pos (show clsOf (mk S) 0 = some 10 from rfl), h1, cI_s, if_neg (show ¬ (nI i + 1 < 0 ∨ sc.1 ≤ Int32.toNatClampNeg (nI i + 1)) from hx 1 (by omega)), if_pos (show clsOf (mk S1) 359 = some 11 from rfl), h2, cI_s, if_pos rfl]
theorem law_11 {sc : Nat × (Nat → Int32)} {i : Nat} {S : Nat → Nat → Int32} (hI : Inv S) (hx : ∀ j : Nat, j < 6 → ¬ (nI i + Int32.ofNat j < 0 ∨ sc.1 ≤ Int32.toNatClampNeg (nI i + Int32.ofNat j))) : ∃ S2, Inv S2 ∧ EX sc 40 229 11 [.retAddr 0, .ref 0, .ref 359, .int (nI i)] [] (mk S) = EX sc 40 229 39 [.retAddr 0, .ref 0, .ref 359, .int (nI i)] [] (mk S2) := by
  obtain ⟨r, S1, S2, h1, h2, h3⟩ := op_wide sc (sc.2 (Int32.toNatClampNeg (nI i + 1))) S hI
  refine ⟨S2, h3, ?_⟩
  rw [e229_11, if_neg (show ¬ (nI i + 1 < 0 ∨ sc.1 ≤ Int32.toNatClampNeg (nI i + 1)) from hx 1 (by omega)), if_pos (show clsOf (mk S) 0 = some 10 from rfl), h1, cI_s, if_neg (show ¬ (nI i + 1 < 0 ∨ sc.1 ≤ Int32.toNatClampNeg (nI i + 1)) from hx 1 (by omega)), if_pos (show clsOf (mk S1) 359 = some 11 from rfl), h2, cI_s, if_pos rfl]
theorem law_12 {sc : Nat × (Nat → Int32)} {i : Nat} {S : Nat → Nat → Int32} (hI : Inv S) (hx : ∀ j : Nat, j < 6 → ¬ (nI i + Int32.ofNat j < 0 ∨ sc.1 ≤ Int32.toNatClampNeg (nI i + Int32.ofNat j))) : ∃ S2, Inv S2 ∧ EX sc 40 229 12 [.retAddr 0, .ref 0, .ref 359, .int (nI i)] [] (mk S) = EX sc 40 229 39 [.retAddr 0, .ref 0, .ref 359, .int (nI i)] [] (mk S2) := by
  obtain ⟨r, S1, S2, h1, h2, h3⟩ := op_poke sc (sc.2 (Int32.toNatClampNeg (nI i + 1))) S hI
  refine ⟨S2, h3, ?_⟩
  rw [e229_12, if_neg (show ¬ (nI i + 1 < 0 ∨ sc.1 ≤ Int32.toNatClampNeg (nI i + 1)) from hx 1 (by omega)), if_pos (show clsOf (mk S) 0 = some 10 from rfl), h1, cI_s, if_neg (show ¬ (nI i + 1 < 0 ∨ sc.1 ≤ Int32.toNatClampNeg (nI i + 1)) from hx 1 (by omega)), if_pos (show clsOf (mk S1) 359 = some 11 from rfl), h2, cI_s, if_pos rfl]
theorem law_13 {sc : Nat × (Nat → Int32)} {i : Nat} {S : Nat → Nat → Int32} (hI : Inv S) (hx : ∀ j : Nat, j < 6 → ¬ (nI i + Int32.ofNat j < 0 ∨ sc.1 ≤ Int32.toNatClampNeg (nI i + Int32.ofNat j))) : ∃ S2, Inv S2 ∧ EX sc 40 229 13 [.retAddr 0, .ref 0, .ref 359, .int (nI i)] [] (mk S) = EX sc 40 229 39 [.retAddr 0, .ref 0, .ref 359, .int (nI i)] [] (mk S2) := by
  obtain ⟨r, S1, S2, h1, h2, h3⟩ := op_post sc (sc.2 (Int32.toNatClampNeg (nI i + 1))) (sc.2 (Int32.toNatClampNeg (nI i + 2))) S hI
  refine ⟨S2, h3, ?_⟩
  rw [e229_13, if_neg (show ¬ (nI i + 1 < 0 ∨ sc.1 ≤ Int32.toNatClampNeg (nI i + 1)) from hx 1 (by omega)), if_neg (show ¬ (nI i + 2 < 0 ∨ sc.1 ≤ Int32.toNatClampNeg (nI i + 2)) from hx 2 (by omega)), if_pos (show clsOf (mk S) 0 = some 10 from rfl), h1, cI_s, if_neg (show ¬ (nI i + 1 < 0 ∨ sc.1 ≤ Int32.toNatClampNeg (nI i + 1)) from hx 1 (by omega)), if_neg (show ¬ (nI i + 2 < 0 ∨ sc.1 ≤ Int32.toNatClampNeg (nI i + 2)) from hx 2 (by omega)), if_pos (show clsOf (mk S1) 359 = some 11 from rfl), h2, cI_s, if_pos rfl]
theorem law_14 {sc : Nat × (Nat → Int32)} {i : Nat} {S : Nat → Nat → Int32} (hI : Inv S) (hx : ∀ j : Nat, j < 6 → ¬ (nI i + Int32.ofNat j < 0 ∨ sc.1 ≤ Int32.toNatClampNeg (nI i + Int32.ofNat j))) : ∃ S2, Inv S2 ∧ EX sc 40 229 14 [.retAddr 0, .ref 0, .ref 359, .int (nI i)] [] (mk S) = EX sc 40 229 39 [.retAddr 0, .ref 0, .ref 359, .int (nI i)] [] (mk S2) := by
  obtain ⟨r, S1, S2, h1, h2, h3⟩ := op_letter sc (sc.2 (Int32.toNatClampNeg (nI i + 1))) (sc.2 (Int32.toNatClampNeg (nI i + 2))) S hI
  refine ⟨S2, h3, ?_⟩
  rw [e229_14, if_neg (show ¬ (nI i + 1 < 0 ∨ sc.1 ≤ Int32.toNatClampNeg (nI i + 1)) from hx 1 (by omega)), if_neg (show ¬ (nI i + 2 < 0 ∨ sc.1 ≤ Int32.toNatClampNeg (nI i + 2)) from hx 2 (by omega)), if_pos (show clsOf (mk S) 0 = some 10 from rfl), h1, cI_s, if_neg (show ¬ (nI i + 1 < 0 ∨ sc.1 ≤ Int32.toNatClampNeg (nI i + 1)) from hx 1 (by omega)), if_neg (show ¬ (nI i + 2 < 0 ∨ sc.1 ≤ Int32.toNatClampNeg (nI i + 2)) from hx 2 (by omega)), if_pos (show clsOf (mk S1) 359 = some 11 from rfl), h2, cI_s, if_pos rfl]
theorem law_15 {sc : Nat × (Nat → Int32)} {i : Nat} {S : Nat → Nat → Int32} (hI : Inv S) (hx : ∀ j : Nat, j < 6 → ¬ (nI i + Int32.ofNat j < 0 ∨ sc.1 ≤ Int32.toNatClampNeg (nI i + Int32.ofNat j))) : ∃ S2, Inv S2 ∧ EX sc 40 229 15 [.retAddr 0, .ref 0, .ref 359, .int (nI i)] [] (mk S) = EX sc 40 229 39 [.retAddr 0, .ref 0, .ref 359, .int (nI i)] [] (mk S2) := by
  obtain ⟨r, S1, S2, h1, h2, h3⟩ := op_floor sc (sc.2 (Int32.toNatClampNeg (nI i + 1))) (sc.2 (Int32.toNatClampNeg (nI i + 2))) S hI
  refine ⟨S2, h3, ?_⟩
  rw [e229_15, if_neg (show ¬ (nI i + 1 < 0 ∨ sc.1 ≤ Int32.toNatClampNeg (nI i + 1)) from hx 1 (by omega)), if_neg (show ¬ (nI i + 2 < 0 ∨ sc.1 ≤ Int32.toNatClampNeg (nI i + 2)) from hx 2 (by omega)), if_pos (show clsOf (mk S) 0 = some 10 from rfl), h1, cI_s, if_neg (show ¬ (nI i + 1 < 0 ∨ sc.1 ≤ Int32.toNatClampNeg (nI i + 1)) from hx 1 (by omega)), if_neg (show ¬ (nI i + 2 < 0 ∨ sc.1 ≤ Int32.toNatClampNeg (nI i + 2)) from hx 2 (by omega)), if_pos (show clsOf (mk S1) 359 = some 11 from rfl), h2, cI_s, if_pos rfl]
theorem law_16 {sc : Nat × (Nat → Int32)} {i : Nat} {S : Nat → Nat → Int32} (hI : Inv S) (hx : ∀ j : Nat, j < 6 → ¬ (nI i + Int32.ofNat j < 0 ∨ sc.1 ≤ Int32.toNatClampNeg (nI i + Int32.ofNat j))) : ∃ S2, Inv S2 ∧ EX sc 40 229 16 [.retAddr 0, .ref 0, .ref 359, .int (nI i)] [] (mk S) = EX sc 40 229 39 [.retAddr 0, .ref 0, .ref 359, .int (nI i)] [] (mk S2) := by
  obtain ⟨r, S1, S2, h1, h2, h3⟩ := op_stand sc (sc.2 (Int32.toNatClampNeg (nI i + 1))) S hI
  refine ⟨S2, h3, ?_⟩
  rw [e229_16, if_neg (show ¬ (nI i + 1 < 0 ∨ sc.1 ≤ Int32.toNatClampNeg (nI i + 1)) from hx 1 (by omega)), if_pos (show clsOf (mk S) 0 = some 10 from rfl), h1, cI_s, if_neg (show ¬ (nI i + 1 < 0 ∨ sc.1 ≤ Int32.toNatClampNeg (nI i + 1)) from hx 1 (by omega)), if_pos (show clsOf (mk S1) 359 = some 11 from rfl), h2, cI_s, if_pos rfl]
theorem law_17 {sc : Nat × (Nat → Int32)} {i : Nat} {S : Nat → Nat → Int32} (hI : Inv S) (hx : ∀ j : Nat, j < 6 → ¬ (nI i + Int32.ofNat j < 0 ∨ sc.1 ≤ Int32.toNatClampNeg (nI i + Int32.ofNat j))) : ∃ S2, Inv S2 ∧ EX sc 40 229 17 [.retAddr 0, .ref 0, .ref 359, .int (nI i)] [] (mk S) = EX sc 40 229 39 [.retAddr 0, .ref 0, .ref 359, .int (nI i)] [] (mk S2) := by
  obtain ⟨r, S1, S2, h1, h2, h3⟩ := op_ahead sc (sc.2 (Int32.toNatClampNeg (nI i + 1))) (sc.2 (Int32.toNatClampNeg (nI i + 2))) (sc.2 (Int32.toNatClampNeg (nI i + 3))) S hI
  refine ⟨S2, h3, ?_⟩
  rw [e229_17, if_neg (show ¬ (nI i + 1 < 0 ∨ sc.1 ≤ Int32.toNatClampNeg (nI i + 1)) from hx 1 (by omega)), if_neg (show ¬ (nI i + 2 < 0 ∨ sc.1 ≤ Int32.toNatClampNeg (nI i + 2)) from hx 2 (by omega)), if_neg (show ¬ (nI i + 3 < 0 ∨ sc.1 ≤ Int32.toNatClampNeg (nI i + 3)) from hx 3 (by omega)), if_pos (show clsOf (mk S) 0 = some 10 from rfl), h1, cI_s, if_neg (show ¬ (nI i + 1 < 0 ∨ sc.1 ≤ Int32.toNatClampNeg (nI i + 1)) from hx 1 (by omega)), if_neg (show ¬ (nI i + 2 < 0 ∨ sc.1 ≤ Int32.toNatClampNeg (nI i + 2)) from hx 2 (by omega)), if_neg (show ¬ (nI i + 3 < 0 ∨ sc.1 ≤ Int32.toNatClampNeg (nI i + 3)) from hx 3 (by omega)), if_pos (show clsOf (mk S1) 359 = some 11 from rfl), h2, cI_s, if_pos rfl]
theorem law_18 {sc : Nat × (Nat → Int32)} {i : Nat} {S : Nat → Nat → Int32} (hI : Inv S) (hx : ∀ j : Nat, j < 6 → ¬ (nI i + Int32.ofNat j < 0 ∨ sc.1 ≤ Int32.toNatClampNeg (nI i + Int32.ofNat j))) : ∃ S2, Inv S2 ∧ EX sc 40 229 18 [.retAddr 0, .ref 0, .ref 359, .int (nI i)] [] (mk S) = EX sc 40 229 39 [.retAddr 0, .ref 0, .ref 359, .int (nI i)] [] (mk S2) := by
  obtain ⟨r, S1, S2, h1, h2, h3⟩ := op_full sc (sc.2 (Int32.toNatClampNeg (nI i + 1))) (sc.2 (Int32.toNatClampNeg (nI i + 2))) S hI
  refine ⟨S2, h3, ?_⟩
  rw [e229_18, if_neg (show ¬ (nI i + 1 < 0 ∨ sc.1 ≤ Int32.toNatClampNeg (nI i + 1)) from hx 1 (by omega)), if_neg (show ¬ (nI i + 2 < 0 ∨ sc.1 ≤ Int32.toNatClampNeg (nI i + 2)) from hx 2 (by omega)), if_pos (show clsOf (mk S) 0 = some 10 from rfl), h1, cI_s, if_neg (show ¬ (nI i + 1 < 0 ∨ sc.1 ≤ Int32.toNatClampNeg (nI i + 1)) from hx 1 (by omega)), if_neg (show ¬ (nI i + 2 < 0 ∨ sc.1 ≤ Int32.toNatClampNeg (nI i + 2)) from hx 2 (by omega)), if_pos (show clsOf (mk S1) 359 = some 11 from rfl), h2, cI_s, if_pos rfl]
theorem law_19 {sc : Nat × (Nat → Int32)} {i : Nat} {S : Nat → Nat → Int32} (hI : Inv S) (hx : ∀ j : Nat, j < 6 → ¬ (nI i + Int32.ofNat j < 0 ∨ sc.1 ≤ Int32.toNatClampNeg (nI i + Int32.ofNat j))) : ∃ S2, Inv S2 ∧ EX sc 40 229 19 [.retAddr 0, .ref 0, .ref 359, .int (nI i)] [] (mk S) = EX sc 40 229 39 [.retAddr 0, .ref 0, .ref 359, .int (nI i)] [] (mk S2) := by
  obtain ⟨r, S1, S2, h1, h2, h3⟩ := op_all sc (sc.2 (Int32.toNatClampNeg (nI i + 1))) (sc.2 (Int32.toNatClampNeg (nI i + 2))) S hI
  refine ⟨S2, h3, ?_⟩
  rw [e229_19, if_neg (show ¬ (nI i + 1 < 0 ∨ sc.1 ≤ Int32.toNatClampNeg (nI i + 1)) from hx 1 (by omega)), if_neg (show ¬ (nI i + 2 < 0 ∨ sc.1 ≤ Int32.toNatClampNeg (nI i + 2)) from hx 2 (by omega)), if_pos (show clsOf (mk S) 0 = some 10 from rfl), h1, cI_s, if_neg (show ¬ (nI i + 1 < 0 ∨ sc.1 ≤ Int32.toNatClampNeg (nI i + 1)) from hx 1 (by omega)), if_neg (show ¬ (nI i + 2 < 0 ∨ sc.1 ≤ Int32.toNatClampNeg (nI i + 2)) from hx 2 (by omega)), if_pos (show clsOf (mk S1) 359 = some 11 from rfl), h2, cI_s, if_pos rfl]
theorem law_20 {sc : Nat × (Nat → Int32)} {i : Nat} {S : Nat → Nat → Int32} (hI : Inv S) (hx : ∀ j : Nat, j < 6 → ¬ (nI i + Int32.ofNat j < 0 ∨ sc.1 ≤ Int32.toNatClampNeg (nI i + Int32.ofNat j))) : ∃ S2, Inv S2 ∧ EX sc 40 229 20 [.retAddr 0, .ref 0, .ref 359, .int (nI i)] [] (mk S) = EX sc 40 229 39 [.retAddr 0, .ref 0, .ref 359, .int (nI i)] [] (mk S2) := by
  obtain ⟨r, S1, S2, h1, h2, h3⟩ := op_when sc (sc.2 (Int32.toNatClampNeg (nI i + 1))) (sc.2 (Int32.toNatClampNeg (nI i + 2))) S hI
  refine ⟨S2, h3, ?_⟩
  rw [e229_20, if_neg (show ¬ (nI i + 1 < 0 ∨ sc.1 ≤ Int32.toNatClampNeg (nI i + 1)) from hx 1 (by omega)), if_neg (show ¬ (nI i + 2 < 0 ∨ sc.1 ≤ Int32.toNatClampNeg (nI i + 2)) from hx 2 (by omega)), if_pos (show clsOf (mk S) 0 = some 10 from rfl), h1, cI_s, if_neg (show ¬ (nI i + 1 < 0 ∨ sc.1 ≤ Int32.toNatClampNeg (nI i + 1)) from hx 1 (by omega)), if_neg (show ¬ (nI i + 2 < 0 ∨ sc.1 ≤ Int32.toNatClampNeg (nI i + 2)) from hx 2 (by omega)), if_pos (show clsOf (mk S1) 359 = some 11 from rfl), h2, cI_s, if_pos rfl]
theorem law_21 {sc : Nat × (Nat → Int32)} {i : Nat} {S : Nat → Nat → Int32} (hI : Inv S) (hx : ∀ j : Nat, j < 6 → ¬ (nI i + Int32.ofNat j < 0 ∨ sc.1 ≤ Int32.toNatClampNeg (nI i + Int32.ofNat j))) : ∃ S2, Inv S2 ∧ EX sc 40 229 21 [.retAddr 0, .ref 0, .ref 359, .int (nI i)] [] (mk S) = EX sc 40 229 39 [.retAddr 0, .ref 0, .ref 359, .int (nI i)] [] (mk S2) := by
  obtain ⟨r, S1, S2, h1, h2, h3⟩ := op_over sc  S hI
  refine ⟨S2, h3, ?_⟩
  rw [e229_21, if_pos (show clsOf (mk S) 0 = some 10 from rfl), h1, cI_s, if_pos (show clsOf (mk S1) 359 = some 11 from rfl), h2, cI_s, if_pos rfl]
theorem law_22 {sc : Nat × (Nat → Int32)} {i : Nat} {S : Nat → Nat → Int32} (hI : Inv S) (hx : ∀ j : Nat, j < 6 → ¬ (nI i + Int32.ofNat j < 0 ∨ sc.1 ≤ Int32.toNatClampNeg (nI i + Int32.ofNat j))) : ∃ S2, Inv S2 ∧ EX sc 40 229 22 [.retAddr 0, .ref 0, .ref 359, .int (nI i)] [] (mk S) = EX sc 40 229 39 [.retAddr 0, .ref 0, .ref 359, .int (nI i)] [] (mk S2) := by
  obtain ⟨r, S1, S2, h1, h2, h3⟩ := op_order sc (sc.2 (Int32.toNatClampNeg (nI i + 1))) (sc.2 (Int32.toNatClampNeg (nI i + 2))) S hI
  refine ⟨S2, h3, ?_⟩
  rw [e229_22, if_neg (show ¬ (nI i + 1 < 0 ∨ sc.1 ≤ Int32.toNatClampNeg (nI i + 1)) from hx 1 (by omega)), if_neg (show ¬ (nI i + 2 < 0 ∨ sc.1 ≤ Int32.toNatClampNeg (nI i + 2)) from hx 2 (by omega)), if_pos (show clsOf (mk S) 0 = some 10 from rfl), h1, cI_s, if_neg (show ¬ (nI i + 1 < 0 ∨ sc.1 ≤ Int32.toNatClampNeg (nI i + 1)) from hx 1 (by omega)), if_neg (show ¬ (nI i + 2 < 0 ∨ sc.1 ≤ Int32.toNatClampNeg (nI i + 2)) from hx 2 (by omega)), if_pos (show clsOf (mk S1) 359 = some 11 from rfl), h2, cI_s, if_pos rfl]
theorem law_23 {sc : Nat × (Nat → Int32)} {i : Nat} {S : Nat → Nat → Int32} (hI : Inv S) (hx : ∀ j : Nat, j < 6 → ¬ (nI i + Int32.ofNat j < 0 ∨ sc.1 ≤ Int32.toNatClampNeg (nI i + Int32.ofNat j))) : ∃ S2, Inv S2 ∧ EX sc 40 229 23 [.retAddr 0, .ref 0, .ref 359, .int (nI i)] [] (mk S) = EX sc 40 229 39 [.retAddr 0, .ref 0, .ref 359, .int (nI i)] [] (mk S2) := by
  obtain ⟨r, S1, S2, h1, h2, h3⟩ := op_need sc (sc.2 (Int32.toNatClampNeg (nI i + 1))) S hI
  refine ⟨S2, h3, ?_⟩
  rw [e229_23, if_neg (show ¬ (nI i + 1 < 0 ∨ sc.1 ≤ Int32.toNatClampNeg (nI i + 1)) from hx 1 (by omega)), if_pos (show clsOf (mk S) 0 = some 10 from rfl), h1, cI_s, if_neg (show ¬ (nI i + 1 < 0 ∨ sc.1 ≤ Int32.toNatClampNeg (nI i + 1)) from hx 1 (by omega)), if_pos (show clsOf (mk S1) 359 = some 11 from rfl), h2, cI_s, if_pos rfl]
theorem law_24 {sc : Nat × (Nat → Int32)} {i : Nat} {S : Nat → Nat → Int32} (hI : Inv S) (hx : ∀ j : Nat, j < 6 → ¬ (nI i + Int32.ofNat j < 0 ∨ sc.1 ≤ Int32.toNatClampNeg (nI i + Int32.ofNat j))) : ∃ S2, Inv S2 ∧ EX sc 40 229 24 [.retAddr 0, .ref 0, .ref 359, .int (nI i)] [] (mk S) = EX sc 40 229 39 [.retAddr 0, .ref 0, .ref 359, .int (nI i)] [] (mk S2) := by
  obtain ⟨r, S1, S2, h1, h2, h3⟩ := op_latest sc (sc.2 (Int32.toNatClampNeg (nI i + 1))) (sc.2 (Int32.toNatClampNeg (nI i + 2))) S hI
  refine ⟨S2, h3, ?_⟩
  rw [e229_24, if_neg (show ¬ (nI i + 1 < 0 ∨ sc.1 ≤ Int32.toNatClampNeg (nI i + 1)) from hx 1 (by omega)), if_neg (show ¬ (nI i + 2 < 0 ∨ sc.1 ≤ Int32.toNatClampNeg (nI i + 2)) from hx 2 (by omega)), if_pos (show clsOf (mk S) 0 = some 10 from rfl), h1, cI_s, if_neg (show ¬ (nI i + 1 < 0 ∨ sc.1 ≤ Int32.toNatClampNeg (nI i + 1)) from hx 1 (by omega)), if_neg (show ¬ (nI i + 2 < 0 ∨ sc.1 ≤ Int32.toNatClampNeg (nI i + 2)) from hx 2 (by omega)), if_pos (show clsOf (mk S1) 359 = some 11 from rfl), h2, cI_s, if_pos rfl]
theorem law_25 {sc : Nat × (Nat → Int32)} {i : Nat} {S : Nat → Nat → Int32} (hI : Inv S) (hx : ∀ j : Nat, j < 6 → ¬ (nI i + Int32.ofNat j < 0 ∨ sc.1 ≤ Int32.toNatClampNeg (nI i + Int32.ofNat j))) : ∃ S2, Inv S2 ∧ EX sc 40 229 25 [.retAddr 0, .ref 0, .ref 359, .int (nI i)] [] (mk S) = EX sc 40 229 39 [.retAddr 0, .ref 0, .ref 359, .int (nI i)] [] (mk S2) := by
  obtain ⟨r, S1, S2, h1, h2, h3⟩ := op_sets sc (sc.2 (Int32.toNatClampNeg (nI i + 1))) (sc.2 (Int32.toNatClampNeg (nI i + 2))) S hI
  refine ⟨S2, h3, ?_⟩
  rw [e229_25, if_neg (show ¬ (nI i + 1 < 0 ∨ sc.1 ≤ Int32.toNatClampNeg (nI i + 1)) from hx 1 (by omega)), if_neg (show ¬ (nI i + 2 < 0 ∨ sc.1 ≤ Int32.toNatClampNeg (nI i + 2)) from hx 2 (by omega)), if_pos (show clsOf (mk S) 0 = some 10 from rfl), h1, cI_s, if_neg (show ¬ (nI i + 1 < 0 ∨ sc.1 ≤ Int32.toNatClampNeg (nI i + 1)) from hx 1 (by omega)), if_neg (show ¬ (nI i + 2 < 0 ∨ sc.1 ≤ Int32.toNatClampNeg (nI i + 2)) from hx 2 (by omega)), if_pos (show clsOf (mk S1) 359 = some 11 from rfl), h2, cI_s, if_pos rfl]
theorem law_26 {sc : Nat × (Nat → Int32)} {i : Nat} {S : Nat → Nat → Int32} (hI : Inv S) (hx : ∀ j : Nat, j < 6 → ¬ (nI i + Int32.ofNat j < 0 ∨ sc.1 ≤ Int32.toNatClampNeg (nI i + Int32.ofNat j))) : ∃ S2, Inv S2 ∧ EX sc 40 229 26 [.retAddr 0, .ref 0, .ref 359, .int (nI i)] [] (mk S) = EX sc 40 229 39 [.retAddr 0, .ref 0, .ref 359, .int (nI i)] [] (mk S2) := by
  obtain ⟨r, S1, S2, h1, h2, h3⟩ := op_share sc (sc.2 (Int32.toNatClampNeg (nI i + 1))) (sc.2 (Int32.toNatClampNeg (nI i + 2))) S hI
  refine ⟨S2, h3, ?_⟩
  rw [e229_26, if_neg (show ¬ (nI i + 1 < 0 ∨ sc.1 ≤ Int32.toNatClampNeg (nI i + 1)) from hx 1 (by omega)), if_neg (show ¬ (nI i + 2 < 0 ∨ sc.1 ≤ Int32.toNatClampNeg (nI i + 2)) from hx 2 (by omega)), if_pos (show clsOf (mk S) 0 = some 10 from rfl), h1, cI_s, if_neg (show ¬ (nI i + 1 < 0 ∨ sc.1 ≤ Int32.toNatClampNeg (nI i + 1)) from hx 1 (by omega)), if_neg (show ¬ (nI i + 2 < 0 ∨ sc.1 ≤ Int32.toNatClampNeg (nI i + 2)) from hx 2 (by omega)), if_pos (show clsOf (mk S1) 359 = some 11 from rfl), h2, cI_s, if_pos rfl]
theorem law_27 {sc : Nat × (Nat → Int32)} {i : Nat} {S : Nat → Nat → Int32} (hI : Inv S) (hx : ∀ j : Nat, j < 6 → ¬ (nI i + Int32.ofNat j < 0 ∨ sc.1 ≤ Int32.toNatClampNeg (nI i + Int32.ofNat j))) : ∃ S2, Inv S2 ∧ EX sc 40 229 27 [.retAddr 0, .ref 0, .ref 359, .int (nI i)] [] (mk S) = EX sc 40 229 39 [.retAddr 0, .ref 0, .ref 359, .int (nI i)] [] (mk S2) := by
  obtain ⟨r, S1, S2, h1, h2, h3⟩ := op_byTurns sc (sc.2 (Int32.toNatClampNeg (nI i + 1))) (sc.2 (Int32.toNatClampNeg (nI i + 2))) S hI
  refine ⟨S2, h3, ?_⟩
  rw [e229_27, if_neg (show ¬ (nI i + 1 < 0 ∨ sc.1 ≤ Int32.toNatClampNeg (nI i + 1)) from hx 1 (by omega)), if_neg (show ¬ (nI i + 2 < 0 ∨ sc.1 ≤ Int32.toNatClampNeg (nI i + 2)) from hx 2 (by omega)), if_pos (show clsOf (mk S) 0 = some 10 from rfl), h1, cI_s, if_neg (show ¬ (nI i + 1 < 0 ∨ sc.1 ≤ Int32.toNatClampNeg (nI i + 1)) from hx 1 (by omega)), if_neg (show ¬ (nI i + 2 < 0 ∨ sc.1 ≤ Int32.toNatClampNeg (nI i + 2)) from hx 2 (by omega)), if_pos (show clsOf (mk S1) 359 = some 11 from rfl), h2, cI_s, if_pos rfl]
theorem law_28 {sc : Nat × (Nat → Int32)} {i : Nat} {S : Nat → Nat → Int32} (hI : Inv S) (hx : ∀ j : Nat, j < 6 → ¬ (nI i + Int32.ofNat j < 0 ∨ sc.1 ≤ Int32.toNatClampNeg (nI i + Int32.ofNat j))) : ∃ S2, Inv S2 ∧ EX sc 40 229 28 [.retAddr 0, .ref 0, .ref 359, .int (nI i)] [] (mk S) = EX sc 40 229 39 [.retAddr 0, .ref 0, .ref 359, .int (nI i)] [] (mk S2) := by
  obtain ⟨r, S1, S2, h1, h2, h3⟩ := op_who sc (sc.2 (Int32.toNatClampNeg (nI i + 1))) (sc.2 (Int32.toNatClampNeg (nI i + 2))) (sc.2 (Int32.toNatClampNeg (nI i + 3))) (sc.2 (Int32.toNatClampNeg (nI i + 4))) (sc.2 (Int32.toNatClampNeg (nI i + 5))) S hI
  refine ⟨S2, h3, ?_⟩
  rw [e229_28, if_neg (show ¬ (nI i + 1 < 0 ∨ sc.1 ≤ Int32.toNatClampNeg (nI i + 1)) from hx 1 (by omega)), if_neg (show ¬ (nI i + 2 < 0 ∨ sc.1 ≤ Int32.toNatClampNeg (nI i + 2)) from hx 2 (by omega)), if_neg (show ¬ (nI i + 3 < 0 ∨ sc.1 ≤ Int32.toNatClampNeg (nI i + 3)) from hx 3 (by omega)), if_neg (show ¬ (nI i + 4 < 0 ∨ sc.1 ≤ Int32.toNatClampNeg (nI i + 4)) from hx 4 (by omega)), if_neg (show ¬ (nI i + 5 < 0 ∨ sc.1 ≤ Int32.toNatClampNeg (nI i + 5)) from hx 5 (by omega)), if_pos (show clsOf (mk S) 0 = some 10 from rfl), h1, cI_s, if_neg (show ¬ (nI i + 1 < 0 ∨ sc.1 ≤ Int32.toNatClampNeg (nI i + 1)) from hx 1 (by omega)), if_neg (show ¬ (nI i + 2 < 0 ∨ sc.1 ≤ Int32.toNatClampNeg (nI i + 2)) from hx 2 (by omega)), if_neg (show ¬ (nI i + 3 < 0 ∨ sc.1 ≤ Int32.toNatClampNeg (nI i + 3)) from hx 3 (by omega)), if_neg (show ¬ (nI i + 4 < 0 ∨ sc.1 ≤ Int32.toNatClampNeg (nI i + 4)) from hx 4 (by omega)), if_neg (show ¬ (nI i + 5 < 0 ∨ sc.1 ≤ Int32.toNatClampNeg (nI i + 5)) from hx 5 (by omega)), if_pos (show clsOf (mk S1) 359 = some 11 from rfl), h2, cI_s, if_pos rfl]
theorem law_29 {sc : Nat × (Nat → Int32)} {i : Nat} {S : Nat → Nat → Int32} (hI : Inv S) (hx : ∀ j : Nat, j < 6 → ¬ (nI i + Int32.ofNat j < 0 ∨ sc.1 ≤ Int32.toNatClampNeg (nI i + Int32.ofNat j))) : ∃ S2, Inv S2 ∧ EX sc 40 229 29 [.retAddr 0, .ref 0, .ref 359, .int (nI i)] [] (mk S) = EX sc 40 229 39 [.retAddr 0, .ref 0, .ref 359, .int (nI i)] [] (mk S2) := by
  obtain ⟨r, S1, S2, h1, h2, h3⟩ := op_lost sc (sc.2 (Int32.toNatClampNeg (nI i + 1))) (sc.2 (Int32.toNatClampNeg (nI i + 2))) (sc.2 (Int32.toNatClampNeg (nI i + 3))) (sc.2 (Int32.toNatClampNeg (nI i + 4))) S hI
  refine ⟨S2, h3, ?_⟩
  rw [e229_29, if_neg (show ¬ (nI i + 1 < 0 ∨ sc.1 ≤ Int32.toNatClampNeg (nI i + 1)) from hx 1 (by omega)), if_neg (show ¬ (nI i + 2 < 0 ∨ sc.1 ≤ Int32.toNatClampNeg (nI i + 2)) from hx 2 (by omega)), if_neg (show ¬ (nI i + 3 < 0 ∨ sc.1 ≤ Int32.toNatClampNeg (nI i + 3)) from hx 3 (by omega)), if_neg (show ¬ (nI i + 4 < 0 ∨ sc.1 ≤ Int32.toNatClampNeg (nI i + 4)) from hx 4 (by omega)), if_pos (show clsOf (mk S) 0 = some 10 from rfl), h1, cL_s, if_neg (show ¬ (nI i + 1 < 0 ∨ sc.1 ≤ Int32.toNatClampNeg (nI i + 1)) from hx 1 (by omega)), if_neg (show ¬ (nI i + 2 < 0 ∨ sc.1 ≤ Int32.toNatClampNeg (nI i + 2)) from hx 2 (by omega)), if_neg (show ¬ (nI i + 3 < 0 ∨ sc.1 ≤ Int32.toNatClampNeg (nI i + 3)) from hx 3 (by omega)), if_neg (show ¬ (nI i + 4 < 0 ∨ sc.1 ≤ Int32.toNatClampNeg (nI i + 4)) from hx 4 (by omega)), if_pos (show clsOf (mk S1) 359 = some 11 from rfl), h2, cL_s]
  rw [if_pos ((lg_cmp_eq r r).mpr rfl)]
theorem law_30 {sc : Nat × (Nat → Int32)} {i : Nat} {S : Nat → Nat → Int32} (hI : Inv S) (hx : ∀ j : Nat, j < 6 → ¬ (nI i + Int32.ofNat j < 0 ∨ sc.1 ≤ Int32.toNatClampNeg (nI i + Int32.ofNat j))) : ∃ S2, Inv S2 ∧ EX sc 40 229 30 [.retAddr 0, .ref 0, .ref 359, .int (nI i)] [] (mk S) = EX sc 40 229 39 [.retAddr 0, .ref 0, .ref 359, .int (nI i)] [] (mk S2) := by
  obtain ⟨r, S1, S2, h1, h2, h3⟩ := op_drawn sc (sc.2 (Int32.toNatClampNeg (nI i + 1))) (sc.2 (Int32.toNatClampNeg (nI i + 2))) (sc.2 (Int32.toNatClampNeg (nI i + 3))) S hI
  refine ⟨S2, h3, ?_⟩
  rw [e229_30, if_neg (show ¬ (nI i + 1 < 0 ∨ sc.1 ≤ Int32.toNatClampNeg (nI i + 1)) from hx 1 (by omega)), if_neg (show ¬ (nI i + 2 < 0 ∨ sc.1 ≤ Int32.toNatClampNeg (nI i + 2)) from hx 2 (by omega)), if_neg (show ¬ (nI i + 3 < 0 ∨ sc.1 ≤ Int32.toNatClampNeg (nI i + 3)) from hx 3 (by omega)), if_pos (show clsOf (mk S) 0 = some 10 from rfl), h1, cI_s, if_neg (show ¬ (nI i + 1 < 0 ∨ sc.1 ≤ Int32.toNatClampNeg (nI i + 1)) from hx 1 (by omega)), if_neg (show ¬ (nI i + 2 < 0 ∨ sc.1 ≤ Int32.toNatClampNeg (nI i + 2)) from hx 2 (by omega)), if_neg (show ¬ (nI i + 3 < 0 ∨ sc.1 ≤ Int32.toNatClampNeg (nI i + 3)) from hx 3 (by omega)), if_pos (show clsOf (mk S1) 359 = some 11 from rfl), h2, cI_s, if_pos rfl]
theorem law_31 {sc : Nat × (Nat → Int32)} {i : Nat} {S : Nat → Nat → Int32} (hI : Inv S) (hx : ∀ j : Nat, j < 6 → ¬ (nI i + Int32.ofNat j < 0 ∨ sc.1 ≤ Int32.toNatClampNeg (nI i + Int32.ofNat j))) : ∃ S2, Inv S2 ∧ EX sc 40 229 31 [.retAddr 0, .ref 0, .ref 359, .int (nI i)] [] (mk S) = EX sc 40 229 39 [.retAddr 0, .ref 0, .ref 359, .int (nI i)] [] (mk S2) := by
  obtain ⟨r, S1, S2, h1, h2, h3⟩ := op_image sc (sc.2 (Int32.toNatClampNeg (nI i + 1))) S hI
  refine ⟨S2, h3, ?_⟩
  rw [e229_31, if_neg (show ¬ (nI i + 1 < 0 ∨ sc.1 ≤ Int32.toNatClampNeg (nI i + 1)) from hx 1 (by omega)), if_pos (show clsOf (mk S) 0 = some 10 from rfl), h1, cI_s, if_neg (show ¬ (nI i + 1 < 0 ∨ sc.1 ≤ Int32.toNatClampNeg (nI i + 1)) from hx 1 (by omega)), if_pos (show clsOf (mk S1) 359 = some 11 from rfl), h2, cI_s, if_pos rfl]
theorem law_32 {sc : Nat × (Nat → Int32)} {i : Nat} {S : Nat → Nat → Int32} (hI : Inv S) (hx : ∀ j : Nat, j < 6 → ¬ (nI i + Int32.ofNat j < 0 ∨ sc.1 ≤ Int32.toNatClampNeg (nI i + Int32.ofNat j))) : ∃ S2, Inv S2 ∧ EX sc 40 229 32 [.retAddr 0, .ref 0, .ref 359, .int (nI i)] [] (mk S) = EX sc 40 229 39 [.retAddr 0, .ref 0, .ref 359, .int (nI i)] [] (mk S2) := by
  obtain ⟨r, S1, S2, h1, h2, h3⟩ := op_restore sc (sc.2 (Int32.toNatClampNeg (nI i + 1))) S hI
  refine ⟨S2, h3, ?_⟩
  rw [e229_32, if_neg (show ¬ (nI i + 1 < 0 ∨ sc.1 ≤ Int32.toNatClampNeg (nI i + 1)) from hx 1 (by omega)), if_pos (show clsOf (mk S) 0 = some 10 from rfl), h1, cI_s, if_neg (show ¬ (nI i + 1 < 0 ∨ sc.1 ≤ Int32.toNatClampNeg (nI i + 1)) from hx 1 (by omega)), if_pos (show clsOf (mk S1) 359 = some 11 from rfl), h2, cI_s, if_pos rfl]
theorem law_33 {sc : Nat × (Nat → Int32)} {i : Nat} {S : Nat → Nat → Int32} (hI : Inv S) (hx : ∀ j : Nat, j < 6 → ¬ (nI i + Int32.ofNat j < 0 ∨ sc.1 ≤ Int32.toNatClampNeg (nI i + Int32.ofNat j))) : ∃ S2, Inv S2 ∧ EX sc 40 229 33 [.retAddr 0, .ref 0, .ref 359, .int (nI i)] [] (mk S) = EX sc 40 229 39 [.retAddr 0, .ref 0, .ref 359, .int (nI i)] [] (mk S2) := by
  obtain ⟨r, S1, S2, h1, h2, h3⟩ := op_kind sc (sc.2 (Int32.toNatClampNeg (nI i + 1))) S hI
  refine ⟨S2, h3, ?_⟩
  rw [e229_33, if_neg (show ¬ (nI i + 1 < 0 ∨ sc.1 ≤ Int32.toNatClampNeg (nI i + 1)) from hx 1 (by omega)), if_pos (show clsOf (mk S) 0 = some 10 from rfl), h1, cI_s, if_neg (show ¬ (nI i + 1 < 0 ∨ sc.1 ≤ Int32.toNatClampNeg (nI i + 1)) from hx 1 (by omega)), if_pos (show clsOf (mk S1) 359 = some 11 from rfl), h2, cI_s, if_pos rfl]
theorem law_34 {sc : Nat × (Nat → Int32)} {i : Nat} {S : Nat → Nat → Int32} (hI : Inv S) (hx : ∀ j : Nat, j < 6 → ¬ (nI i + Int32.ofNat j < 0 ∨ sc.1 ≤ Int32.toNatClampNeg (nI i + Int32.ofNat j))) : ∃ S2, Inv S2 ∧ EX sc 40 229 34 [.retAddr 0, .ref 0, .ref 359, .int (nI i)] [] (mk S) = EX sc 40 229 39 [.retAddr 0, .ref 0, .ref 359, .int (nI i)] [] (mk S2) := by
  obtain ⟨r, S1, S2, h1, h2, h3⟩ := op_as sc (sc.2 (Int32.toNatClampNeg (nI i + 1))) (sc.2 (Int32.toNatClampNeg (nI i + 2))) S hI
  refine ⟨S2, h3, ?_⟩
  rw [e229_34, if_neg (show ¬ (nI i + 1 < 0 ∨ sc.1 ≤ Int32.toNatClampNeg (nI i + 1)) from hx 1 (by omega)), if_neg (show ¬ (nI i + 2 < 0 ∨ sc.1 ≤ Int32.toNatClampNeg (nI i + 2)) from hx 2 (by omega)), if_pos (show clsOf (mk S) 0 = some 10 from rfl), h1, cI_s, if_neg (show ¬ (nI i + 1 < 0 ∨ sc.1 ≤ Int32.toNatClampNeg (nI i + 1)) from hx 1 (by omega)), if_neg (show ¬ (nI i + 2 < 0 ∨ sc.1 ≤ Int32.toNatClampNeg (nI i + 2)) from hx 2 (by omega)), if_pos (show clsOf (mk S1) 359 = some 11 from rfl), h2, cI_s, if_pos rfl]
theorem law_35 {sc : Nat × (Nat → Int32)} {i : Nat} {S : Nat → Nat → Int32} (hI : Inv S) (hx : ∀ j : Nat, j < 6 → ¬ (nI i + Int32.ofNat j < 0 ∨ sc.1 ≤ Int32.toNatClampNeg (nI i + Int32.ofNat j))) : ∃ S2, Inv S2 ∧ EX sc 40 229 35 [.retAddr 0, .ref 0, .ref 359, .int (nI i)] [] (mk S) = EX sc 40 229 39 [.retAddr 0, .ref 0, .ref 359, .int (nI i)] [] (mk S2) := by
  obtain ⟨r, S1, S2, h1, h2, h3⟩ := op_ask sc (sc.2 (Int32.toNatClampNeg (nI i + 1))) (sc.2 (Int32.toNatClampNeg (nI i + 2))) S hI
  refine ⟨S2, h3, ?_⟩
  rw [e229_35, if_neg (show ¬ (nI i + 1 < 0 ∨ sc.1 ≤ Int32.toNatClampNeg (nI i + 1)) from hx 1 (by omega)), if_neg (show ¬ (nI i + 2 < 0 ∨ sc.1 ≤ Int32.toNatClampNeg (nI i + 2)) from hx 2 (by omega)), if_pos (show clsOf (mk S) 0 = some 10 from rfl), h1, cI_s, if_neg (show ¬ (nI i + 1 < 0 ∨ sc.1 ≤ Int32.toNatClampNeg (nI i + 1)) from hx 1 (by omega)), if_neg (show ¬ (nI i + 2 < 0 ∨ sc.1 ≤ Int32.toNatClampNeg (nI i + 2)) from hx 2 (by omega)), if_pos (show clsOf (mk S1) 359 = some 11 from rfl), h2, cI_s, if_pos rfl]
theorem law_36 {sc : Nat × (Nat → Int32)} {i : Nat} {S : Nat → Nat → Int32} (hI : Inv S) (hx : ∀ j : Nat, j < 6 → ¬ (nI i + Int32.ofNat j < 0 ∨ sc.1 ≤ Int32.toNatClampNeg (nI i + Int32.ofNat j))) : ∃ S2, Inv S2 ∧ EX sc 40 229 36 [.retAddr 0, .ref 0, .ref 359, .int (nI i)] [] (mk S) = EX sc 40 229 39 [.retAddr 0, .ref 0, .ref 359, .int (nI i)] [] (mk S2) := by
  obtain ⟨r, S1, S2, h1, h2, h3⟩ := op_trace sc (sc.2 (Int32.toNatClampNeg (nI i + 1))) S hI
  refine ⟨S2, h3, ?_⟩
  rw [e229_36, if_neg (show ¬ (nI i + 1 < 0 ∨ sc.1 ≤ Int32.toNatClampNeg (nI i + 1)) from hx 1 (by omega)), if_pos (show clsOf (mk S) 0 = some 10 from rfl), h1, cI_s, if_neg (show ¬ (nI i + 1 < 0 ∨ sc.1 ≤ Int32.toNatClampNeg (nI i + 1)) from hx 1 (by omega)), if_pos (show clsOf (mk S1) 359 = some 11 from rfl), h2, cI_s, if_pos rfl]
theorem law_37 {sc : Nat × (Nat → Int32)} {i : Nat} {S : Nat → Nat → Int32} (hI : Inv S) (hx : ∀ j : Nat, j < 6 → ¬ (nI i + Int32.ofNat j < 0 ∨ sc.1 ≤ Int32.toNatClampNeg (nI i + Int32.ofNat j))) : ∃ S2, Inv S2 ∧ EX sc 40 229 37 [.retAddr 0, .ref 0, .ref 359, .int (nI i)] [] (mk S) = EX sc 40 229 39 [.retAddr 0, .ref 0, .ref 359, .int (nI i)] [] (mk S2) := by
  obtain ⟨r, S1, S2, h1, h2, h3⟩ := op_count sc (sc.2 (Int32.toNatClampNeg (nI i + 1))) S hI
  refine ⟨S2, h3, ?_⟩
  rw [e229_37, if_neg (show ¬ (nI i + 1 < 0 ∨ sc.1 ≤ Int32.toNatClampNeg (nI i + 1)) from hx 1 (by omega)), if_pos (show clsOf (mk S) 0 = some 10 from rfl), h1, cI_s, if_neg (show ¬ (nI i + 1 < 0 ∨ sc.1 ≤ Int32.toNatClampNeg (nI i + 1)) from hx 1 (by omega)), if_pos (show clsOf (mk S1) 359 = some 11 from rfl), h2, cI_s, if_pos rfl]
theorem law_38 {sc : Nat × (Nat → Int32)} {i : Nat} {S : Nat → Nat → Int32} (hI : Inv S) (hx : ∀ j : Nat, j < 6 → ¬ (nI i + Int32.ofNat j < 0 ∨ sc.1 ≤ Int32.toNatClampNeg (nI i + Int32.ofNat j))) : ∃ S2, Inv S2 ∧ EX sc 40 229 38 [.retAddr 0, .ref 0, .ref 359, .int (nI i)] [] (mk S) = EX sc 40 229 39 [.retAddr 0, .ref 0, .ref 359, .int (nI i)] [] (mk S2) := by
  obtain ⟨r, S1, S2, h1, h2, h3⟩ := op_status sc  S hI
  refine ⟨S2, h3, ?_⟩
  rw [e229_38, if_pos (show clsOf (mk S) 0 = some 10 from rfl), h1, cI_s, if_pos (show clsOf (mk S1) 359 = some 11 from rfl), h2, cI_s, if_pos rfl]
theorem law_loop {sc : Nat × (Nat → Int32)} (hN : sc.1 ≤ 3072) : ∀ (n i : Nat) (S : Nat → Nat → Int32), sc.1 ≤ i + 6 * n → i ≤ 10000 → Inv S → ∃ S2, EX sc 40 229 1 [.retAddr 0, .ref 0, .ref 359, .int (nI i)] [] (mk S) = some (some (.int 1), mk S2) := by
  have hof : Int32.ofNat sc.1 = nI sc.1 := rfl
  have c6 : ∀ i : Nat, i ≤ 10000 → ((nI sc.1 - 6 < nI i) ↔ sc.1 < i + 6) := fun i hi => by
    rw [Int32.lt_iff_toInt_lt, show nI sc.1 - 6 = nI sc.1 - nI 6 from rfl, pk_sub_toInt (by omega) (by omega), nI_toInt (by omega)]
    omega
  have fin : ∀ (i : Nat) (S : Nat → Nat → Int32), i ≤ 10000 → sc.1 < i + 6 → EX sc 40 229 1 [.retAddr 0, .ref 0, .ref 359, .int (nI i)] [] (mk S) = some (some (.int 1), mk S) := fun i S hi h => by
    rw [e229_1, hof, if_pos ((c6 i hi).mpr h), e229_40, bt1]
  intro n
  induction n with
  | zero =>
    intro i S h hi _
    exact ⟨S, fin i S hi (by omega)⟩
  | succ n ih =>
    intro i S h hi hI
    by_cases c : sc.1 < i + 6
    · exact ⟨S, fin i S hi c⟩
    · have hx : ∀ j : Nat, j < 6 → ¬ (nI i + Int32.ofNat j < 0 ∨ sc.1 ≤ Int32.toNatClampNeg (nI i + Int32.ofNat j)) := fun j hj => by
        rw [show Int32.ofNat j = nI j from rfl, nI_add, ix_I (by omega)]
        exact fun q => q.elim (nI_pos (by omega)) (by omega)
      have nx : ∀ S2, Inv S2 → ∃ S3, EX sc 40 229 39 [.retAddr 0, .ref 0, .ref 359, .int (nI i)] [] (mk S2) = some (some (.int 1), mk S3) := fun S2 h2 => by
        rw [e229_39, show nI i + 6 = nI (i + 6) from nI_add i 6]
        exact ih (i + 6) S2 (by omega) (by omega) h2
      have go : ∀ b, (∃ S2, Inv S2 ∧ EX sc 40 229 b [.retAddr 0, .ref 0, .ref 359, .int (nI i)] [] (mk S) = EX sc 40 229 39 [.retAddr 0, .ref 0, .ref 359, .int (nI i)] [] (mk S2)) → ∃ S3, EX sc 40 229 b [.retAddr 0, .ref 0, .ref 359, .int (nI i)] [] (mk S) = some (some (.int 1), mk S3) := fun b hb => by
        obtain ⟨S2, h2, h3⟩ := hb
        obtain ⟨S3, h4⟩ := nx S2 h2
        exact ⟨S3, h3.trans h4⟩
      rw [e229_1, hof, if_neg (fun q => c ((c6 i hi).mp q)), if_neg (by
        have := hx 0 (by omega)
        rw [show Int32.ofNat 0 = nI 0 from rfl, nI_add, Nat.add_zero] at this
        exact this)]
      generalize Int32.toInt ((sc.2 (Int32.toNatClampNeg (nI i))) &&& 63) = x
      by_cases c0 : x = (0 : Nat)
      · rw [if_pos c0]; exact go 2 (law_2 hI hx)
      rw [if_neg c0]
      by_cases c1 : x = (1 : Nat)
      · rw [if_pos c1]; exact go 3 (law_3 hI hx)
      rw [if_neg c1]
      by_cases c2 : x = (2 : Nat)
      · rw [if_pos c2]; exact go 4 (law_4 hI hx)
      rw [if_neg c2]
      by_cases c3 : x = (3 : Nat)
      · rw [if_pos c3]; exact go 5 (law_5 hI hx)
      rw [if_neg c3]
      by_cases c4 : x = (4 : Nat)
      · rw [if_pos c4]; exact go 6 (law_6 hI hx)
      rw [if_neg c4]
      by_cases c5 : x = (5 : Nat)
      · rw [if_pos c5]; exact go 7 (law_7 hI hx)
      rw [if_neg c5]
      by_cases c6 : x = (6 : Nat)
      · rw [if_pos c6]; exact go 8 (law_8 hI hx)
      rw [if_neg c6]
      by_cases c7 : x = (7 : Nat)
      · rw [if_pos c7]; exact go 9 (law_9 hI hx)
      rw [if_neg c7]
      by_cases c8 : x = (8 : Nat)
      · rw [if_pos c8]; exact go 10 (law_10 hI hx)
      rw [if_neg c8]
      by_cases c9 : x = (9 : Nat)
      · rw [if_pos c9]; exact go 11 (law_11 hI hx)
      rw [if_neg c9]
      by_cases c10 : x = (10 : Nat)
      · rw [if_pos c10]; exact go 12 (law_12 hI hx)
      rw [if_neg c10]
      by_cases c11 : x = (11 : Nat)
      · rw [if_pos c11]; exact go 13 (law_13 hI hx)
      rw [if_neg c11]
      by_cases c12 : x = (12 : Nat)
      · rw [if_pos c12]; exact go 14 (law_14 hI hx)
      rw [if_neg c12]
      by_cases c13 : x = (13 : Nat)
      · rw [if_pos c13]; exact go 15 (law_15 hI hx)
      rw [if_neg c13]
      by_cases c14 : x = (14 : Nat)
      · rw [if_pos c14]; exact go 16 (law_16 hI hx)
      rw [if_neg c14]
      by_cases c15 : x = (15 : Nat)
      · rw [if_pos c15]; exact go 17 (law_17 hI hx)
      rw [if_neg c15]
      by_cases c16 : x = (16 : Nat)
      · rw [if_pos c16]; exact go 18 (law_18 hI hx)
      rw [if_neg c16]
      by_cases c17 : x = (17 : Nat)
      · rw [if_pos c17]; exact go 19 (law_19 hI hx)
      rw [if_neg c17]
      by_cases c18 : x = (18 : Nat)
      · rw [if_pos c18]; exact go 20 (law_20 hI hx)
      rw [if_neg c18]
      by_cases c19 : x = (19 : Nat)
      · rw [if_pos c19]; exact go 21 (law_21 hI hx)
      rw [if_neg c19]
      by_cases c20 : x = (20 : Nat)
      · rw [if_pos c20]; exact go 22 (law_22 hI hx)
      rw [if_neg c20]
      by_cases c21 : x = (21 : Nat)
      · rw [if_pos c21]; exact go 23 (law_23 hI hx)
      rw [if_neg c21]
      by_cases c22 : x = (22 : Nat)
      · rw [if_pos c22]; exact go 24 (law_24 hI hx)
      rw [if_neg c22]
      by_cases c23 : x = (23 : Nat)
      · rw [if_pos c23]; exact go 25 (law_25 hI hx)
      rw [if_neg c23]
      by_cases c24 : x = (24 : Nat)
      · rw [if_pos c24]; exact go 26 (law_26 hI hx)
      rw [if_neg c24]
      by_cases c25 : x = (25 : Nat)
      · rw [if_pos c25]; exact go 27 (law_27 hI hx)
      rw [if_neg c25]
      by_cases c26 : x = (26 : Nat)
      · rw [if_pos c26]; exact go 28 (law_28 hI hx)
      rw [if_neg c26]
      by_cases c27 : x = (27 : Nat)
      · rw [if_pos c27]; exact go 29 (law_29 hI hx)
      rw [if_neg c27]
      by_cases c28 : x = (28 : Nat)
      · rw [if_pos c28]; exact go 30 (law_30 hI hx)
      rw [if_neg c28]
      by_cases c29 : x = (29 : Nat)
      · rw [if_pos c29]; exact go 31 (law_31 hI hx)
      rw [if_neg c29]
      by_cases c30 : x = (30 : Nat)
      · rw [if_pos c30]; exact go 32 (law_32 hI hx)
      rw [if_neg c30]
      by_cases c31 : x = (31 : Nat)
      · rw [if_pos c31]; exact go 33 (law_33 hI hx)
      rw [if_neg c31]
      by_cases c32 : x = (32 : Nat)
      · rw [if_pos c32]; exact go 34 (law_34 hI hx)
      rw [if_neg c32]
      by_cases c33 : x = (33 : Nat)
      · rw [if_pos c33]; exact go 35 (law_35 hI hx)
      rw [if_neg c33]
      by_cases c34 : x = (34 : Nat)
      · rw [if_pos c34]; exact go 36 (law_36 hI hx)
      rw [if_neg c34]
      by_cases c35 : x = (35 : Nat)
      · rw [if_pos c35]; exact go 37 (law_37 hI hx)
      rw [if_neg c35]
      by_cases c36 : x = (36 : Nat)
      · rw [if_pos c36]; exact go 38 (law_38 hI hx)
      rw [if_neg c36]
      exact nx S hI
theorem pure_all (sc : Nat × (Nat → Int32)) (hN : sc.1 ≤ 3072) : ∃ h' : AH, Exec (PB MT) sc 40 229 0 [.retAddr 0, Jk, Jk, Jk] [] h00 = some (some (.int 1), h') ∧ h'.1 ≤ 600000 ∧ h'.2.1 ≤ 7302250 := by
  obtain ⟨S2, h⟩ := law_loop hN 600 0 S00 (by omega) (by omega) Inv00
  refine ⟨mk S2, ?_, by show 377 ≤ 600000; omega, by show 5248 ≤ 7302250; omega⟩
  show EX sc 40 229 0 [.retAddr 0, Jk, Jk, Jk] [] h00 = _
  have c1 : clsOf (newO h00 10 L10) (Prod.fst h00) = some 10 := rfl
  have k1 : EX sc 39 80 0 [.ref (Prod.fst h00), Jk] [] (newO h00 10 L10) = some (none, (359, 3759, cut 359)) := class_init sc
  have c2 : clsOf (newO (359, 3759, cut 359) 11 L35) (Prod.fst ((359, 3759, cut 359) : AH)) = some 11 := rfl
  have k2 : EX sc 39 133 0 [.ref (Prod.fst ((359, 3759, cut 359) : AH)), Jk] [] (newO (359, 3759, cut 359) 11 L35) = some (none, mk S00) := model_init sc
  rw [e229_0, c1, oB_s, k1, cV_s, c2, oB_s, k2, cV_s]
  exact h
