/-! as; images -/
theorem ofk_1_0 (S : Nat → Nat → Int32) (sc : Nat × (Nat → Int32)) (d : Nat) : EX sc (d + 1) 132 0 [.ref 18, .int (nI 0)] [] (mk S) = some (some (.int 1), mk S) := by
  rw [e132_0, if_pos (by decide), e132_1, if_pos (Or.inr rfl)]
theorem ofk_1_1 (S : Nat → Nat → Int32) (sc : Nat × (Nat → Int32)) (d : Nat) : EX sc (d + 1) 132 0 [.ref 18, .int (nI 1)] [] (mk S) = some (some (.int 1), mk S) := by
  rw [e132_0, if_neg (by decide), if_pos (by decide), e132_2, show clsOf (mk S) 18 = some 1 from rfl]
  simp
theorem ofk_1_2 (S : Nat → Nat → Int32) (sc : Nat × (Nat → Int32)) (d : Nat) : EX sc (d + 1) 132 0 [.ref 18, .int (nI 2)] [] (mk S) = some (some (.int 0), mk S) := by
  rw [e132_0, if_neg (by decide), if_neg (by decide), if_pos (by decide), e132_3, show clsOf (mk S) 18 = some 1 from rfl]
  simp
theorem ofk_1_3 (S : Nat → Nat → Int32) (sc : Nat × (Nat → Int32)) (d : Nat) : EX sc (d + 1) 132 0 [.ref 18, .int (nI 3)] [] (mk S) = some (some (.int 0), mk S) := by
  rw [e132_0, if_neg (by decide), if_neg (by decide), if_neg (by decide), if_pos (by decide), e132_4, show clsOf (mk S) 18 = some 1 from rfl]
  simp
theorem ofk_1_4 (S : Nat → Nat → Int32) (sc : Nat × (Nat → Int32)) (d : Nat) : EX sc (d + 1) 132 0 [.ref 18, .int (nI 4)] [] (mk S) = some (some (.int 0), mk S) := by
  rw [e132_0, if_neg (by decide), if_neg (by decide), if_neg (by decide), if_neg (by decide), if_pos (by decide), e132_5, show clsOf (mk S) 18 = some 1 from rfl]
  simp
theorem ofk_1_5 (S : Nat → Nat → Int32) (sc : Nat × (Nat → Int32)) (d : Nat) : EX sc (d + 1) 132 0 [.ref 18, .int (nI 5)] [] (mk S) = some (some (.int 0), mk S) := by
  rw [e132_0, if_neg (by decide), if_neg (by decide), if_neg (by decide), if_neg (by decide), if_neg (by decide), if_pos (by decide), e132_6, show clsOf (mk S) 18 = some 1 from rfl]
  simp
theorem ofk_2_0 (S : Nat → Nat → Int32) (sc : Nat × (Nat → Int32)) (d : Nat) : EX sc (d + 1) 132 0 [.ref 19, .int (nI 0)] [] (mk S) = some (some (.int 1), mk S) := by
  rw [e132_0, if_pos (by decide), e132_1, if_pos (Or.inr rfl)]
theorem ofk_2_1 (S : Nat → Nat → Int32) (sc : Nat × (Nat → Int32)) (d : Nat) : EX sc (d + 1) 132 0 [.ref 19, .int (nI 1)] [] (mk S) = some (some (.int 1), mk S) := by
  rw [e132_0, if_neg (by decide), if_pos (by decide), e132_2, show clsOf (mk S) 19 = some 9 from rfl]
  simp
theorem ofk_2_2 (S : Nat → Nat → Int32) (sc : Nat × (Nat → Int32)) (d : Nat) : EX sc (d + 1) 132 0 [.ref 19, .int (nI 2)] [] (mk S) = some (some (.int 1), mk S) := by
  rw [e132_0, if_neg (by decide), if_neg (by decide), if_pos (by decide), e132_3, show clsOf (mk S) 19 = some 9 from rfl]
  simp
theorem ofk_2_3 (S : Nat → Nat → Int32) (sc : Nat × (Nat → Int32)) (d : Nat) : EX sc (d + 1) 132 0 [.ref 19, .int (nI 3)] [] (mk S) = some (some (.int 0), mk S) := by
  rw [e132_0, if_neg (by decide), if_neg (by decide), if_neg (by decide), if_pos (by decide), e132_4, show clsOf (mk S) 19 = some 9 from rfl]
  simp
theorem ofk_2_4 (S : Nat → Nat → Int32) (sc : Nat × (Nat → Int32)) (d : Nat) : EX sc (d + 1) 132 0 [.ref 19, .int (nI 4)] [] (mk S) = some (some (.int 0), mk S) := by
  rw [e132_0, if_neg (by decide), if_neg (by decide), if_neg (by decide), if_neg (by decide), if_pos (by decide), e132_5, show clsOf (mk S) 19 = some 9 from rfl]
  simp
theorem ofk_2_5 (S : Nat → Nat → Int32) (sc : Nat × (Nat → Int32)) (d : Nat) : EX sc (d + 1) 132 0 [.ref 19, .int (nI 5)] [] (mk S) = some (some (.int 0), mk S) := by
  rw [e132_0, if_neg (by decide), if_neg (by decide), if_neg (by decide), if_neg (by decide), if_neg (by decide), if_pos (by decide), e132_6, show clsOf (mk S) 19 = some 9 from rfl]
  simp
theorem ofk_3_0 (S : Nat → Nat → Int32) (sc : Nat × (Nat → Int32)) (d : Nat) : EX sc (d + 1) 132 0 [.ref 20, .int (nI 0)] [] (mk S) = some (some (.int 1), mk S) := by
  rw [e132_0, if_pos (by decide), e132_1, if_pos (Or.inr rfl)]
theorem ofk_3_1 (S : Nat → Nat → Int32) (sc : Nat × (Nat → Int32)) (d : Nat) : EX sc (d + 1) 132 0 [.ref 20, .int (nI 1)] [] (mk S) = some (some (.int 1), mk S) := by
  rw [e132_0, if_neg (by decide), if_pos (by decide), e132_2, show clsOf (mk S) 20 = some 3 from rfl]
  simp
theorem ofk_3_2 (S : Nat → Nat → Int32) (sc : Nat × (Nat → Int32)) (d : Nat) : EX sc (d + 1) 132 0 [.ref 20, .int (nI 2)] [] (mk S) = some (some (.int 0), mk S) := by
  rw [e132_0, if_neg (by decide), if_neg (by decide), if_pos (by decide), e132_3, show clsOf (mk S) 20 = some 3 from rfl]
  simp
theorem ofk_3_3 (S : Nat → Nat → Int32) (sc : Nat × (Nat → Int32)) (d : Nat) : EX sc (d + 1) 132 0 [.ref 20, .int (nI 3)] [] (mk S) = some (some (.int 1), mk S) := by
  rw [e132_0, if_neg (by decide), if_neg (by decide), if_neg (by decide), if_pos (by decide), e132_4, show clsOf (mk S) 20 = some 3 from rfl]
  simp
theorem ofk_3_4 (S : Nat → Nat → Int32) (sc : Nat × (Nat → Int32)) (d : Nat) : EX sc (d + 1) 132 0 [.ref 20, .int (nI 4)] [] (mk S) = some (some (.int 0), mk S) := by
  rw [e132_0, if_neg (by decide), if_neg (by decide), if_neg (by decide), if_neg (by decide), if_pos (by decide), e132_5, show clsOf (mk S) 20 = some 3 from rfl]
  simp
theorem ofk_3_5 (S : Nat → Nat → Int32) (sc : Nat × (Nat → Int32)) (d : Nat) : EX sc (d + 1) 132 0 [.ref 20, .int (nI 5)] [] (mk S) = some (some (.int 0), mk S) := by
  rw [e132_0, if_neg (by decide), if_neg (by decide), if_neg (by decide), if_neg (by decide), if_neg (by decide), if_pos (by decide), e132_6, show clsOf (mk S) 20 = some 3 from rfl]
  simp
theorem ofk_4_0 (S : Nat → Nat → Int32) (sc : Nat × (Nat → Int32)) (d : Nat) : EX sc (d + 1) 132 0 [.ref 21, .int (nI 0)] [] (mk S) = some (some (.int 1), mk S) := by
  rw [e132_0, if_pos (by decide), e132_1, if_pos (Or.inr rfl)]
theorem ofk_4_1 (S : Nat → Nat → Int32) (sc : Nat × (Nat → Int32)) (d : Nat) : EX sc (d + 1) 132 0 [.ref 21, .int (nI 1)] [] (mk S) = some (some (.int 0), mk S) := by
  rw [e132_0, if_neg (by decide), if_pos (by decide), e132_2, show clsOf (mk S) 21 = some 5 from rfl]
  simp
theorem ofk_4_2 (S : Nat → Nat → Int32) (sc : Nat × (Nat → Int32)) (d : Nat) : EX sc (d + 1) 132 0 [.ref 21, .int (nI 2)] [] (mk S) = some (some (.int 0), mk S) := by
  rw [e132_0, if_neg (by decide), if_neg (by decide), if_pos (by decide), e132_3, show clsOf (mk S) 21 = some 5 from rfl]
  simp
theorem ofk_4_3 (S : Nat → Nat → Int32) (sc : Nat × (Nat → Int32)) (d : Nat) : EX sc (d + 1) 132 0 [.ref 21, .int (nI 3)] [] (mk S) = some (some (.int 0), mk S) := by
  rw [e132_0, if_neg (by decide), if_neg (by decide), if_neg (by decide), if_pos (by decide), e132_4, show clsOf (mk S) 21 = some 5 from rfl]
  simp
theorem ofk_4_4 (S : Nat → Nat → Int32) (sc : Nat × (Nat → Int32)) (d : Nat) : EX sc (d + 1) 132 0 [.ref 21, .int (nI 4)] [] (mk S) = some (some (.int 1), mk S) := by
  rw [e132_0, if_neg (by decide), if_neg (by decide), if_neg (by decide), if_neg (by decide), if_pos (by decide), e132_5, show clsOf (mk S) 21 = some 5 from rfl]
  simp
theorem ofk_4_5 (S : Nat → Nat → Int32) (sc : Nat × (Nat → Int32)) (d : Nat) : EX sc (d + 1) 132 0 [.ref 21, .int (nI 5)] [] (mk S) = some (some (.int 0), mk S) := by
  rw [e132_0, if_neg (by decide), if_neg (by decide), if_neg (by decide), if_neg (by decide), if_neg (by decide), if_pos (by decide), e132_6, show clsOf (mk S) 21 = some 5 from rfl]
  simp
theorem ofk_5_0 (S : Nat → Nat → Int32) (sc : Nat × (Nat → Int32)) (d : Nat) : EX sc (d + 1) 132 0 [.ref 22, .int (nI 0)] [] (mk S) = some (some (.int 1), mk S) := by
  rw [e132_0, if_pos (by decide), e132_1, if_pos (Or.inr rfl)]
theorem ofk_5_1 (S : Nat → Nat → Int32) (sc : Nat × (Nat → Int32)) (d : Nat) : EX sc (d + 1) 132 0 [.ref 22, .int (nI 1)] [] (mk S) = some (some (.int 0), mk S) := by
  rw [e132_0, if_neg (by decide), if_pos (by decide), e132_2, show clsOf (mk S) 22 = some 7 from rfl]
  simp
theorem ofk_5_2 (S : Nat → Nat → Int32) (sc : Nat × (Nat → Int32)) (d : Nat) : EX sc (d + 1) 132 0 [.ref 22, .int (nI 2)] [] (mk S) = some (some (.int 0), mk S) := by
  rw [e132_0, if_neg (by decide), if_neg (by decide), if_pos (by decide), e132_3, show clsOf (mk S) 22 = some 7 from rfl]
  simp
theorem ofk_5_3 (S : Nat → Nat → Int32) (sc : Nat × (Nat → Int32)) (d : Nat) : EX sc (d + 1) 132 0 [.ref 22, .int (nI 3)] [] (mk S) = some (some (.int 0), mk S) := by
  rw [e132_0, if_neg (by decide), if_neg (by decide), if_neg (by decide), if_pos (by decide), e132_4, show clsOf (mk S) 22 = some 7 from rfl]
  simp
theorem ofk_5_4 (S : Nat → Nat → Int32) (sc : Nat × (Nat → Int32)) (d : Nat) : EX sc (d + 1) 132 0 [.ref 22, .int (nI 4)] [] (mk S) = some (some (.int 1), mk S) := by
  rw [e132_0, if_neg (by decide), if_neg (by decide), if_neg (by decide), if_neg (by decide), if_pos (by decide), e132_5, show clsOf (mk S) 22 = some 7 from rfl]
  simp
theorem ofk_5_5 (S : Nat → Nat → Int32) (sc : Nat × (Nat → Int32)) (d : Nat) : EX sc (d + 1) 132 0 [.ref 22, .int (nI 5)] [] (mk S) = some (some (.int 1), mk S) := by
  rw [e132_0, if_neg (by decide), if_neg (by decide), if_neg (by decide), if_neg (by decide), if_neg (by decide), if_pos (by decide), e132_6, show clsOf (mk S) 22 = some 7 from rfl]
  simp
theorem op_as (sc : Nat × (Nat → Int32)) (x y : Int32) : St2 sc 113 [.ref 0, .int x, .int y] 212 [.ref 359, .int x, .int y, Jk, Jk] := by
  rintro S ⟨X, hX, hC, hM⟩
  have h6 := hX.l6
  by_cases c1 : 0 ≤ x ∧ x ≤ nI (X.nw 0 3) - 1
  · by_cases c2 : 0 ≤ y ∧ y ≤ 5
    · obtain ⟨i, hi, rfl⟩ := (toL (by omega)).mp c1
      obtain ⟨w, hw1, rfl⟩ := toN (N := 5) (by omega) c2
      have hg := hX.gd (by omega)
      have hk5 := (hg.1.2.2.2.2.2 i hi).1
      have hk1 := (hg.2.2.2.2.2.2.2.2 i hi).1
      have p1 : S 24 i = nI (X.nw 1 i) := pl_I hC.now (show 1 ≤ 1 by omega) (show 1 ≤ 8 by omega) (show i < 6 by omega)
      have cS : ∀ (q : Nat) (b : Int32), aR (mk S) 17 2 (nI (X.nw 1 i) - 1) = some q → EX sc 38 132 0 [.ref q, .int (nI w)] [] (mk S) = some (some (.int b), mk S) → EX sc 39 113 0 [.ref 0, .int (nI i), .int (nI w)] [] (mk S) = if b = 0 then some (some (.int (-1000010 - 3)), mk (up S 0 12 3)) else some (some (.int (nI i)), mk (up S 0 12 0)) := by
        intro q b hq hb
        rw [e113_0]
        simp only [O0, if_true, isLetterC hC, within_eq, cI_s, ii_0]
        rw [if_pos c1, if_pos c2, e113_2]
        simp only [O0, oB_s, if_true, e131_0, Hg isH_23, fun S => HA isH_23 S (show i < 6 by omega), p1, hq, cR_s, hb, cI_s, foundC, e113_3, wellC]
      have yes : (∃ q, aR (mk S) 17 2 (nI (X.nw 1 i) - 1) = some q ∧ EX sc 38 132 0 [.ref q, .int (nI w)] [] (mk S) = some (some (.int 1), mk S)) → (∀ T, MP T X → EX sc 39 212 2 [.ref 359, .int (nI i), .int (nI w), Jk, Jk] [] (mk T) = EX sc 39 212 4 [.ref 359, .int (nI i), Jk, Jk, Jk] [] (mk T)) → ∃ r S1 S2, EX sc 39 113 0 [.ref 0, .int (nI i), .int (nI w)] [] (mk S) = some (some (.int r), mk S1) ∧ EX sc 39 212 0 [.ref 359, .int (nI i), .int (nI w), Jk, Jk] [] (mk S1) = some (some (.int r), mk S2) ∧ Inv S2 := by
        rintro ⟨q, hq, hb⟩ hm
        refine stp (X := X) (X' := X.wst 0) (r := nI i) hX hX hM ⟨_, ?_, CR_st hC 0, FrC.up (by omega)⟩ (fun T hM1 => ⟨_, ?_, MP_st hM1 hX 0, FrM.up (by omega)⟩)
        · rw [cS q 1 hq hb, if_neg i10]
        · rw [e212_0]
          simp only [O359, if_true, isLetterM hM1.stat, fun S => inL sc (nI w) 0 5 0 5 S 37 rfl rfl, cI_s, ii_0]
          rw [if_pos c1, if_pos c2, hm T hM1, e212_4, e212_6, if_neg i10]
          simp only [O359, if_true, wellM, cI_s]
      have no : (∃ q, aR (mk S) 17 2 (nI (X.nw 1 i) - 1) = some q ∧ EX sc 38 132 0 [.ref q, .int (nI w)] [] (mk S) = some (some (.int 0), mk S)) → (∀ T, MP T X → EX sc 39 212 2 [.ref 359, .int (nI i), .int (nI w), Jk, Jk] [] (mk T) = EX sc 39 212 5 [.ref 359, .int (nI i), Jk, Jk, Jk] [] (mk T)) → ∃ r S1 S2, EX sc 39 113 0 [.ref 0, .int (nI i), .int (nI w)] [] (mk S) = some (some (.int r), mk S1) ∧ EX sc 39 212 0 [.ref 359, .int (nI i), .int (nI w), Jk, Jk] [] (mk S1) = some (some (.int r), mk S2) ∧ Inv S2 := by
        rintro ⟨q, hq, hb⟩ hm
        refine stp (X := X) (X' := X.wst 3) (r := -1000010 - 3) hX hX hM ⟨_, ?_, CR_st hC 3, FrC.up (by omega)⟩ (fun T hM1 => ⟨_, ?_, MP_st hM1 hX 3, FrM.up (by omega)⟩)
        · rw [cS q 0 hq hb, if_pos rfl]
        · rw [e212_0]
          simp only [O359, if_true, isLetterM hM1.stat, fun S => inL sc (nI w) 0 5 0 5 S 37 rfl rfl, cI_s, ii_0]
          rw [if_pos c1, if_pos c2, hm T hM1, e212_5, e212_6, if_pos rfl, e212_7]
          simp only [O359, if_true, foundM, cI_s]
      have mk1 : ∀ (T : Nat → Nat → Int32) (κ : Nat), MP T X → X.nw 1 i = κ → EX sc 39 212 2 [.ref 359, .int (nI i), .int (nI w), Jk, Jk] [] (mk T) = if nI w = 0 then EX sc 39 212 4 [.ref 359, .int (nI i), Jk, Jk, Jk] [] (mk T) else if nI w = nI κ then EX sc 39 212 4 [.ref 359, .int (nI i), Jk, Jk, Jk] [] (mk T) else if nI w = 1 then (if nI κ < 4 then EX sc 39 212 4 [.ref 359, .int (nI i), Jk, Jk, Jk] [] (mk T) else if nI w = 4 then (if nI κ = 5 then EX sc 39 212 4 [.ref 359, .int (nI i), Jk, Jk, Jk] [] (mk T) else EX sc 39 212 5 [.ref 359, .int (nI i), Jk, Jk, Jk] [] (mk T)) else EX sc 39 212 5 [.ref 359, .int (nI i), Jk, Jk, Jk] [] (mk T)) else if nI w = 4 then (if nI κ = 5 then EX sc 39 212 4 [.ref 359, .int (nI i), Jk, Jk, Jk] [] (mk T) else EX sc 39 212 5 [.ref 359, .int (nI i), Jk, Jk, Jk] [] (mk T)) else EX sc 39 212 5 [.ref 359, .int (nI i), Jk, Jk, Jk] [] (mk T) := by
        intro T κ hM1 hκ
        have f : T 363 i = nI κ := by rw [(mfacts hM1 hX hi).1, hκ]
        rw [e212_2, ]
        simp only [O359, oB_s, A363_i (show i < 6 by omega), f, e212_3]
      have kc : X.nw 1 i = 1 ∨ X.nw 1 i = 2 ∨ X.nw 1 i = 3 ∨ X.nw 1 i = 4 ∨ X.nw 1 i = 5 := by omega
      have wc : w = 0 ∨ w = 1 ∨ w = 2 ∨ w = 3 ∨ w = 4 ∨ w = 5 := by omega
      rcases wc with rfl | rfl | rfl | rfl | rfl | rfl
      · rcases kc with hk | hk | hk | hk | hk
        · exact yes ⟨18, by rw [hk]; exact aR17 S (i := 0) (by omega), ofk_1_0 S sc 37⟩ (fun T hM1 => by rw [mk1 T 1 hM1 hk, if_pos (by decide)])
        · exact yes ⟨19, by rw [hk]; exact aR17 S (i := 1) (by omega), ofk_2_0 S sc 37⟩ (fun T hM1 => by rw [mk1 T 2 hM1 hk, if_pos (by decide)])
        · exact yes ⟨20, by rw [hk]; exact aR17 S (i := 2) (by omega), ofk_3_0 S sc 37⟩ (fun T hM1 => by rw [mk1 T 3 hM1 hk, if_pos (by decide)])
        · exact yes ⟨21, by rw [hk]; exact aR17 S (i := 3) (by omega), ofk_4_0 S sc 37⟩ (fun T hM1 => by rw [mk1 T 4 hM1 hk, if_pos (by decide)])
        · exact yes ⟨22, by rw [hk]; exact aR17 S (i := 4) (by omega), ofk_5_0 S sc 37⟩ (fun T hM1 => by rw [mk1 T 5 hM1 hk, if_pos (by decide)])
      · rcases kc with hk | hk | hk | hk | hk
        · exact yes ⟨18, by rw [hk]; exact aR17 S (i := 0) (by omega), ofk_1_1 S sc 37⟩ (fun T hM1 => by rw [mk1 T 1 hM1 hk, if_neg (by decide), if_pos (by decide)])
        · exact yes ⟨19, by rw [hk]; exact aR17 S (i := 1) (by omega), ofk_2_1 S sc 37⟩ (fun T hM1 => by rw [mk1 T 2 hM1 hk, if_neg (by decide), if_neg (by decide), if_pos (by decide), if_pos (by decide)])
        · exact yes ⟨20, by rw [hk]; exact aR17 S (i := 2) (by omega), ofk_3_1 S sc 37⟩ (fun T hM1 => by rw [mk1 T 3 hM1 hk, if_neg (by decide), if_neg (by decide), if_pos (by decide), if_pos (by decide)])
        · exact no ⟨21, by rw [hk]; exact aR17 S (i := 3) (by omega), ofk_4_1 S sc 37⟩ (fun T hM1 => by rw [mk1 T 4 hM1 hk, if_neg (by decide), if_neg (by decide), if_pos (by decide), if_neg (by decide), if_neg (by decide)])
        · exact no ⟨22, by rw [hk]; exact aR17 S (i := 4) (by omega), ofk_5_1 S sc 37⟩ (fun T hM1 => by rw [mk1 T 5 hM1 hk, if_neg (by decide), if_neg (by decide), if_pos (by decide), if_neg (by decide), if_neg (by decide)])
      · rcases kc with hk | hk | hk | hk | hk
        · exact no ⟨18, by rw [hk]; exact aR17 S (i := 0) (by omega), ofk_1_2 S sc 37⟩ (fun T hM1 => by rw [mk1 T 1 hM1 hk, if_neg (by decide), if_neg (by decide), if_neg (by decide), if_neg (by decide)])
        · exact yes ⟨19, by rw [hk]; exact aR17 S (i := 1) (by omega), ofk_2_2 S sc 37⟩ (fun T hM1 => by rw [mk1 T 2 hM1 hk, if_neg (by decide), if_pos (by decide)])
        · exact no ⟨20, by rw [hk]; exact aR17 S (i := 2) (by omega), ofk_3_2 S sc 37⟩ (fun T hM1 => by rw [mk1 T 3 hM1 hk, if_neg (by decide), if_neg (by decide), if_neg (by decide), if_neg (by decide)])
        · exact no ⟨21, by rw [hk]; exact aR17 S (i := 3) (by omega), ofk_4_2 S sc 37⟩ (fun T hM1 => by rw [mk1 T 4 hM1 hk, if_neg (by decide), if_neg (by decide), if_neg (by decide), if_neg (by decide)])
        · exact no ⟨22, by rw [hk]; exact aR17 S (i := 4) (by omega), ofk_5_2 S sc 37⟩ (fun T hM1 => by rw [mk1 T 5 hM1 hk, if_neg (by decide), if_neg (by decide), if_neg (by decide), if_neg (by decide)])
      · rcases kc with hk | hk | hk | hk | hk
        · exact no ⟨18, by rw [hk]; exact aR17 S (i := 0) (by omega), ofk_1_3 S sc 37⟩ (fun T hM1 => by rw [mk1 T 1 hM1 hk, if_neg (by decide), if_neg (by decide), if_neg (by decide), if_neg (by decide)])
        · exact no ⟨19, by rw [hk]; exact aR17 S (i := 1) (by omega), ofk_2_3 S sc 37⟩ (fun T hM1 => by rw [mk1 T 2 hM1 hk, if_neg (by decide), if_neg (by decide), if_neg (by decide), if_neg (by decide)])
        · exact yes ⟨20, by rw [hk]; exact aR17 S (i := 2) (by omega), ofk_3_3 S sc 37⟩ (fun T hM1 => by rw [mk1 T 3 hM1 hk, if_neg (by decide), if_pos (by decide)])
        · exact no ⟨21, by rw [hk]; exact aR17 S (i := 3) (by omega), ofk_4_3 S sc 37⟩ (fun T hM1 => by rw [mk1 T 4 hM1 hk, if_neg (by decide), if_neg (by decide), if_neg (by decide), if_neg (by decide)])
        · exact no ⟨22, by rw [hk]; exact aR17 S (i := 4) (by omega), ofk_5_3 S sc 37⟩ (fun T hM1 => by rw [mk1 T 5 hM1 hk, if_neg (by decide), if_neg (by decide), if_neg (by decide), if_neg (by decide)])
      · rcases kc with hk | hk | hk | hk | hk
        · exact no ⟨18, by rw [hk]; exact aR17 S (i := 0) (by omega), ofk_1_4 S sc 37⟩ (fun T hM1 => by rw [mk1 T 1 hM1 hk, if_neg (by decide), if_neg (by decide), if_neg (by decide), if_pos (by decide), if_neg (by decide)])
        · exact no ⟨19, by rw [hk]; exact aR17 S (i := 1) (by omega), ofk_2_4 S sc 37⟩ (fun T hM1 => by rw [mk1 T 2 hM1 hk, if_neg (by decide), if_neg (by decide), if_neg (by decide), if_pos (by decide), if_neg (by decide)])
        · exact no ⟨20, by rw [hk]; exact aR17 S (i := 2) (by omega), ofk_3_4 S sc 37⟩ (fun T hM1 => by rw [mk1 T 3 hM1 hk, if_neg (by decide), if_neg (by decide), if_neg (by decide), if_pos (by decide), if_neg (by decide)])
        · exact yes ⟨21, by rw [hk]; exact aR17 S (i := 3) (by omega), ofk_4_4 S sc 37⟩ (fun T hM1 => by rw [mk1 T 4 hM1 hk, if_neg (by decide), if_pos (by decide)])
        · exact yes ⟨22, by rw [hk]; exact aR17 S (i := 4) (by omega), ofk_5_4 S sc 37⟩ (fun T hM1 => by rw [mk1 T 5 hM1 hk, if_neg (by decide), if_neg (by decide), if_neg (by decide), if_pos (by decide), if_pos (by decide)])
      · rcases kc with hk | hk | hk | hk | hk
        · exact no ⟨18, by rw [hk]; exact aR17 S (i := 0) (by omega), ofk_1_5 S sc 37⟩ (fun T hM1 => by rw [mk1 T 1 hM1 hk, if_neg (by decide), if_neg (by decide), if_neg (by decide), if_neg (by decide)])
        · exact no ⟨19, by rw [hk]; exact aR17 S (i := 1) (by omega), ofk_2_5 S sc 37⟩ (fun T hM1 => by rw [mk1 T 2 hM1 hk, if_neg (by decide), if_neg (by decide), if_neg (by decide), if_neg (by decide)])
        · exact no ⟨20, by rw [hk]; exact aR17 S (i := 2) (by omega), ofk_3_5 S sc 37⟩ (fun T hM1 => by rw [mk1 T 3 hM1 hk, if_neg (by decide), if_neg (by decide), if_neg (by decide), if_neg (by decide)])
        · exact no ⟨21, by rw [hk]; exact aR17 S (i := 3) (by omega), ofk_4_5 S sc 37⟩ (fun T hM1 => by rw [mk1 T 4 hM1 hk, if_neg (by decide), if_neg (by decide), if_neg (by decide), if_neg (by decide)])
        · exact yes ⟨22, by rw [hk]; exact aR17 S (i := 4) (by omega), ofk_5_5 S sc 37⟩ (fun T hM1 => by rw [mk1 T 5 hM1 hk, if_neg (by decide), if_pos (by decide)])
    · refine ⟨-1000001, S, S, ?_, ?_, X, hX, hC, hM⟩
      · rw [e113_0]
        simp only [O0, if_true, isLetterC hC, within_eq, cI_s, ii_0]
        rw [if_pos c1, if_neg c2, e113_1]
      · rw [e212_0]
        simp only [O359, if_true, isLetterM hM.stat, fun S => inL sc y 0 5 0 5 S 37 rfl rfl, cI_s, ii_0]
        rw [if_pos c1, if_neg c2, e212_1]
  · refine ⟨-1000001, S, S, ?_, ?_, X, hX, hC, hM⟩
    · rw [e113_0]
      simp only [O0, if_true, isLetterC hC, within_eq, cI_s, ii_0]
      rw [if_neg c1, e113_1]
    · rw [e212_0]
      simp only [O359, if_true, isLetterM hM.stat, cI_s, ii_0]
      rw [if_neg c1, e212_1]
