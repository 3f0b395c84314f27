/-! who: the call -/
theorem OkT_v {n w l v : Nat} {a : Hs} (h : OkT n a) (h0 : w = 0 → v ≤ 5) (h1 : w = 1 → v ≤ 100) (h2 : w = 2 → v < a 0 0) (h3 : 3 ≤ w → v ≤ 100) : OkT n (vry w l v a) := by
  unfold vry
  by_cases c0 : w = 0
  · rw [if_pos c0]
    obtain ⟨B, x, y1, y2, y3⟩ := h
    refine ⟨B, ⟨x.1, x.2.1, x.2.2.1, x.2.2.2.1, x.2.2.2.2.1, fun j hj => ?_⟩, y1, y2, y3⟩
    obtain ⟨q1, q2⟩ := x.2.2.2.2.2 j hj
    refine ⟨?_, q2⟩
    rw [upA_at]
    split
    · exact h0 c0
    · exact q1
  · rw [if_neg c0]
    by_cases c1 : w = 1
    · rw [if_pos c1]
      obtain ⟨B, x, y1, y2, y3⟩ := h
      refine ⟨B, ⟨x.1, x.2.1, x.2.2.1, x.2.2.2.1, x.2.2.2.2.1, fun j hj => ?_⟩, y1, y2, y3⟩
      obtain ⟨q1, q2, q3, q4⟩ := x.2.2.2.2.2 j hj
      refine ⟨q1, q2, ?_, q4⟩
      rw [upA_at]
      split
      · exact h1 c1
      · exact q3
    · rw [if_neg c1]
      by_cases c2 : w = 2
      · rw [if_pos c2]
        obtain ⟨B, x, y1, y2, y3⟩ := h
        refine ⟨B, ⟨x.1, x.2.1, x.2.2.1, x.2.2.2.1, x.2.2.2.2.1, fun j hj => ?_⟩, y1, y2, y3⟩
        obtain ⟨q1, q2, q3⟩ := x.2.2.2.2.2 j hj
        refine ⟨q1, ?_, q3⟩
        rw [upA_at, upA_c (show (0 : Nat) ≠ 2 by omega)]
        split
        · exact h2 c2
        · exact q2
      · rw [if_neg c2]
        exact OkT_wide h (h3 (by omega))
def lowL (U : Nat) : Nat → Nat → Int32
  | 0, _ => -1000000
  | k + 1, j => if U.testBit j = true then nI j else lowL U k (j + 1)
theorem lowL_t {U t : Nat} (ht : U.testBit t = true) (hn : ∀ j, j < t → U.testBit j = false) : ∀ k j, j ≤ t → t < j + k → lowL U k j = nI t
  | 0, j, h1, h2 => by omega
  | k + 1, j, h1, h2 => by
    unfold lowL
    by_cases e : j = t
    · rw [e, if_pos ht]
    · rw [hn j (by omega), if_neg (by decide), lowL_t ht hn k (j + 1) (by omega) (by omega)]
theorem lowL_0 : ∀ k j, lowL 0 k j = -1000000
  | 0, _ => rfl
  | k + 1, j => by
    unfold lowL
    rw [Nat.zero_testBit, if_neg (by decide), lowL_0 k]
def ansW (tl : Nat → Int32) (n : Nat) (a : Hs) (w l : Nat) : Int32 :=
  if w = 0 then nI (setN (fun v => fitN tl n 0 (vry 0 l v a)) 1 5) else if w = 1 then nI (setN (fun v => fitN tl n 0 (vry 1 l v a)) 1 9) else if w = 2 then nI (setN (fun v => fitN tl n 0 (vry 2 l v a)) 0 (a 0 0)) else if w = 3 then nI (bitN 21 (setN (fun v => fitN tl n 0 (vry 3 l v a)) 2 19)) else lowL (setN (fun v => fitN tl n 0 (vry 3 l v a)) 2 19) 19 2
theorem who_C {S : Nat → Nat → Int32} {a : Hs} {tl : Nat → Int32} {l n w : Nat} (h : HR S 23 a) (hw : OkT 100 a) (hF : 1 ≤ a 0 0) (hl : l < a 0 3) (hn : n ≤ 12) (hw4 : w ≤ 4) (h7 : S 45 7 = nI n) (h70 : ∀ j, j < n → S 70 j = tl j) (sc : Nat × (Nat → Int32)) : ∃ S', EX sc 38 129 0 [.ref 0, .int (nI l), .int (nI w)] [] (mk S) = some (some (.int (ansW tl n a w l)), mk S') ∧ FS S S' := by
  have t0 : ∀ k : Nat, ((nI w).toInt = (k : Int)) ↔ w = k := fun k => toInt_nI (by omega) k
  obtain ⟨B, hB⟩ := hw.wf
  have h9 := hB.2.1
  have run : ∀ w' lo hi, w' < 4 → lo ≤ hi → hi ≤ 20 → (∀ v, lo ≤ v → v ≤ hi → OkT 12 (vry w' l v a)) → ∃ S', EX sc 37 46 0 [.ref 45, .ref 23, .int (nI l), .int (nI w'), .int (nI lo), .int (nI hi), Jk, Jk] [] (mk S) = some (some (.int (nI (setN (fun v => fitN tl n 0 (vry w' l v a)) lo (hi + 1 - lo)))), mk S') ∧ FS S S' := by
    intro w' lo hi q1 q2 q3 q4
    obtain ⟨S1, k1, k2⟩ := fit_C hw hn hl q1 q3 q4 sc 32 (hi + 1 - lo) 0 S (by omega) h h7 h70
    refine ⟨S1, ?_, k2.fs (Or.inl rfl)⟩
    rw [e46_0]
    exact k1
  have ok : ∀ w' v, (w' = 0 → v ≤ 5) → (w' = 1 → v ≤ 100) → (w' = 2 → v < a 0 0) → (3 ≤ w' → v ≤ 100) → OkT 12 (vry w' l v a) := fun w' v => OkT_v (hw.le (by omega))
  rw [e129_0]
  unfold ansW
  by_cases c0 : w = 0
  · rw [if_pos ((t0 0).mpr c0), if_pos c0, e129_1]
    obtain ⟨S1, k1, k2⟩ := run 0 1 5 (by omega) (by omega) (by omega) (fun v _ hv => ok 0 v (by omega) (by omega) (by omega) (by omega))
    refine ⟨S1, ?_, k2⟩
    have k1' : EX sc 37 46 0 [.ref 45, .ref 23, .int (nI l), .int 0, .int 1, .int 5, Jk, Jk] [] (mk S) = _ := k1
    simp only [O0, O45, oB_s, if_true, k1', cI_s]
  · rw [if_neg (fun z => c0 ((t0 0).mp z)), if_neg c0]
    by_cases c1 : w = 1
    · rw [if_pos ((t0 1).mpr c1), if_pos c1, e129_2]
      obtain ⟨S1, k1, k2⟩ := run 1 1 9 (by omega) (by omega) (by omega) (fun v _ hv => ok 1 v (by omega) (by omega) (by omega) (by omega))
      refine ⟨S1, ?_, k2⟩
      have k1' : EX sc 37 46 0 [.ref 45, .ref 23, .int (nI l), .int 1, .int 1, .int 9, Jk, Jk] [] (mk S) = _ := k1
      simp only [O0, O45, oB_s, if_true, k1', cI_s]
    · rw [if_neg (fun z => c1 ((t0 1).mp z)), if_neg c1]
      by_cases c2 : w = 2
      · rw [if_pos ((t0 2).mpr c2), if_pos c2, e129_3]
        obtain ⟨S1, k1, k2⟩ := run 2 0 (a 0 0 - 1) (by omega) (by omega) (by omega) (fun v _ hv => ok 2 v (by omega) (by omega) (by omega) (by omega))
        refine ⟨S1, ?_, k2⟩
        have e1 : nI (a 0 0) - 1 = nI (a 0 0 - 1) := pk_sub (b := 1) (by omega)
        have k1' : EX sc 37 46 0 [.ref 45, .ref 23, .int (nI l), .int 2, .int 0, .int (nI (a 0 0 - 1)), Jk, Jk] [] (mk S) = _ := k1
        simp only [O0, O45, oB_s, if_true, Hg isH_23, h.2.1 0 (by omega), e1, k1', cI_s]
        rw [show a 0 0 - 1 + 1 - 0 = a 0 0 by omega]
      · rw [if_neg (fun z => c2 ((t0 2).mp z)), if_neg c2]
        obtain ⟨S1, k1, k2⟩ := run 3 2 20 (by omega) (by omega) (by omega) (fun v _ hv => ok 3 v (by omega) (by omega) (by omega) (by omega))
        have k1' : EX sc 37 46 0 [.ref 45, .ref 23, .int (nI l), .int 3, .int 2, .int 20, Jk, Jk] [] (mk S) = some (some (.int (nI (setN (fun v => fitN tl n 0 (vry 3 l v a)) 2 19))), mk S1) := k1
        have hU : setN (fun v => fitN tl n 0 (vry 3 l v a)) 2 19 < 2 ^ 21 := setN_lt 19 (by omega)
        by_cases c3 : w = 3
        · rw [if_pos ((t0 3).mpr c3), if_pos c3, e129_4]
          refine ⟨S1, ?_, k2⟩
          simp only [O0, O45, oB_s, if_true, k1', cI_s, bc21 S1 hU]
        · rw [if_neg (fun z => c3 ((t0 3).mp z)), if_neg c3, e129_5]
          refine ⟨S1, ?_, k2⟩
          simp only [O0, O45, oB_s, if_true, k1', cI_s]
          have hb := fun j => setN_bit (P := fun v => fitN tl n 0 (vry 3 l v a)) (lo := 2) 19 j
          generalize setN (fun v => fitN tl n 0 (vry 3 l v a)) 2 19 = U at hU hb
          rw [e130_0]
          by_cases cu : U = 0
          · rw [cu, if_pos (show nI 0 = 0 from rfl), lowL_0]
            rfl
          · rw [if_neg (nI_ne0 (by omega) (by omega)), e130_1]
            obtain ⟨t, t1, t2, t3, t4⟩ := tz21 S1 (Nat.pos_of_ne_zero cu) hU sc 35
            have := (hb t).mp t3
            simp only [t2, cI_s]
            rw [lowL_t t3 t4 19 2 this.1 (by omega)]
theorem low_M {U : Nat} (hU : U < 2 ^ 21) (S : Nat → Nat → Int32) (sc : Nat × (Nat → Int32)) (d : Nat) : ∀ k j, j + k = 21 → EX sc (d + 2) 206 10 [.ref 359, Jk, Jk, Jk, Jk, Jk, .int (nI U), .int (nI j)] [] (mk S) = some (some (.int (lowL U k j)), mk (up S 359 3 0)) := by
  intro k
  induction k with
  | zero =>
    intro j hj
    rw [e206_10, if_pos (show (21 : Int32) ≤ nI j from nI_le (a := 21) (by omega) (by omega)), e206_11, if_pos (show nI j = 21 by rw [show j = 21 by omega]; rfl), e206_13]
    simp only [O359, if_true, wellM, cI_s]
    rfl
  | succ k ih =>
    intro j hj
    rw [e206_10, if_neg (show ¬ (21 : Int32) ≤ nI j from nI_ge (b := 21) (by omega) (by omega)), has21 S hU (by omega), cI_s, ii_0]
    show _ = some (some (Value.int (if U.testBit j = true then nI j else lowL U k (j + 1))), mk (up S 359 3 0))
    by_cases c : U.testBit j = true
    · rw [if_pos c, if_pos c, e206_11, if_neg (fun z => by have := (nI_eq (b := 21) (by omega) (by omega)).mp z; omega), e206_12, e206_13]
      simp only [O359, if_true, wellM, cI_s]
    · rw [if_neg c, if_neg c, nI_1]
      exact ih (j + 1) (by omega)
theorem who_M {S : Nat → Nat → Int32} {X : Xs} {tl : Nat → Int32} {l r i n w : Nat} (hX : XOk X) (hM : MP S X) (hl : l < X.nw 0 3) (hr : r < 8) (hn : n ≤ 12) (hi : i + n ≤ 40) (hw4 : w ≤ 4) (ht : ∀ j, j < n → X.it r (i + j) = tl j) (sc : Nat × (Nat → Int32)) : ∃ S', EX sc 39 206 4 [.ref 359, .int (nI l), .int (nI w), .int (nI r), .int (nI i), .int (nI n), Jk, Jk] [] (mk S) = some (some (.int (ansW tl n X.nw w l)), mk (up S' 359 3 0)) ∧ FN S S' := by
  have h6 := hX.l6
  have ok : ∀ w' v, (w' = 0 → v ≤ 5) → (w' = 1 → v ≤ 100) → (w' = 2 → v < X.nw 0 0) → (3 ≤ w' → v ≤ 100) → OkT 12 (vry w' l v X.nw) := fun w' v => OkT_v (hX.okT (by omega))
  have pl := hM.pl hX
  have ht2 : ∀ j, j < n → S 360 (40 * r + i + j) = tl j := fun j hj => by
    rw [Nat.add_assoc, (hM.shelf r hr).2.2 (i + j) (by omega)]; exact ht j hj
  have toFN : ∀ T, FW S T → T 359 29 = -1000000 → FN S T := fun T hf h29 => ⟨hf.1, fun j a b c => by
    by_cases e : j = 29
    · rw [e, h29, hM.none]
    · exact hf.2 j e a b c⟩
  rw [e206_4]
  unfold ansW
  by_cases c3 : 3 ≤ w
  · have hU : setN (fun v => fitN tl n 0 (vry 3 l v X.nw)) 2 19 < 2 ^ 21 := setN_lt 19 (by omega)
    obtain ⟨S1, k1, k2⟩ := set205 hX (l := l) hn hr hi (fun v hv => ok 3 v (by omega) (by omega) (by omega) (by omega)) ht sc 31 19 0 S (by omega) hM
    have k1' : EX sc 38 205 1 [.ref 359, .int (nI r), .int (nI i), .int (nI n), .int 0, .int 2] [] (mk S) = some (some (.int (nI (setN (fun v => fitN tl n 0 (vry 3 l v X.nw)) 2 19))), mk S1) := k1
    refine ⟨S1, ?_, k2⟩
    rw [if_pos (show (3 : Int32) ≤ nI w from nI_le (a := 3) c3 (by omega)), e206_8]
    simp only [O359, if_true, e205_0, k1', cI_s]
    rw [if_neg (show ¬ w = 0 by omega), if_neg (show ¬ w = 1 by omega), if_neg (show ¬ w = 2 by omega)]
    by_cases c4 : w = 3
    · rw [if_pos (show nI w = 3 by rw [c4]; rfl), if_pos c4]
      simp only [ones_eq S1 (n := 21) (by omega) hU, cI_s, O359, if_true, wellM]
    · rw [if_neg (show ¬ nI w = 3 from fun z => c4 ((nI_eq (b := 3) (by omega) (by omega)).mp z)), if_neg c4, e206_9]
      exact low_M hU S1 sc 37 19 2 (by omega)
  · rw [if_neg (show ¬ (3 : Int32) ≤ nI w from nI_ge (b := 3) (by omega) (by omega))]
    by_cases c0 : w = 0
    · obtain ⟨S1, k1, k2, k3⟩ := set202 h6 hl hX.rk hX.nv hn hr hi (fun v hv => ok 0 v (by omega) (by omega) (by omega) (by omega)) pl ht2 sc 31 5 0 (up S 359 31 (nI (X.nw 3 l))) (by omega) (FW.up (by omega)) (up_same _ _ _ _)
      have k1' : EX sc 38 202 1 [.ref 359, .int (nI l), .int (nI r), .int (nI i), .int (nI n), .int 0, .int 1] [] (mk (up S 359 31 (nI (X.nw 3 l)))) = _ := k1
      refine ⟨S1, ?_, toFN S1 k2 k3⟩
      rw [if_pos (show nI w = 0 by rw [c0]; rfl), if_pos c0]
      simp only [O359, if_true, e202_0, oB_s, aI_at (S := S) A364 (show l < 6 by omega) (by omega), (pl.2.2.1 l hl).2, P359, k1', cI_s, e206_7, wellM]
    · rw [if_neg (nI_ne0 (by omega) (by omega)), if_neg c0, e206_5]
      by_cases c1 : w = 1
      · obtain ⟨S1, k1, k2, k3⟩ := set203 h6 hl hX.rk hX.nv hn hr hi (fun v hv => ok 1 v (by omega) (by omega) (by omega) (by omega)) pl ht2 sc 31 9 0 (up S 359 30 (nI (X.nw 1 l))) (by omega) (FW.up (by omega)) (up_same _ _ _ _)
        have k1' : EX sc 38 203 1 [.ref 359, .int (nI l), .int (nI r), .int (nI i), .int (nI n), .int 0, .int 1] [] (mk (up S 359 30 (nI (X.nw 1 l)))) = _ := k1
        refine ⟨S1, ?_, toFN S1 k2 k3⟩
        rw [if_pos (show nI w = 1 by rw [c1]; rfl), if_pos c1]
        simp only [O359, if_true, e203_0, oB_s, aI_at (S := S) A363 (show l < 6 by omega) (by omega), (pl.2.2.1 l hl).1, P359, k1', cI_s, e206_7, wellM]
      · rw [if_neg (show ¬ nI w = 1 from fun z => c1 ((nI_eq (b := 1) (by omega) (by omega)).mp z)), if_neg c1, if_pos (show w = 2 by omega), e206_6]
        obtain ⟨S1, k1, k2⟩ := set204 hX hl hn hr hi (fun v hv => ok 2 v (by omega) (by omega) (by omega) (by omega)) ht sc 31 (X.nw 0 0) 0 S (by omega) hM
        have k1' : EX sc 38 204 1 [.ref 359, .int (nI l), .int (nI r), .int (nI i), .int (nI n), .int 0, .int 0] [] (mk S) = _ := k1
        refine ⟨S1, ?_, k2⟩
        simp only [O359, if_true, e204_0, k1', cI_s, e206_7, wellM]
theorem op_who (sc : Nat × (Nat → Int32)) (x y z u v : Int32) : St2 sc 107 [.ref 0, .int x, .int y, .int z, .int u, .int v] 206 [.ref 359, .int x, .int y, .int z, .int u, .int v, Jk, Jk] := by
  rintro S ⟨X, hX, hC, hM⟩
  have h6 := hX.l6
  have hiny := fun S => inL sc y 0 4 0 4 S 37 rfl rfl
  have hinv := fun S => inL sc v 1 12 1 12 S 37 rfl rfl
  by_cases c1 : 0 ≤ x ∧ x ≤ nI (X.nw 0 3) - 1
  · by_cases c2 : 0 ≤ y ∧ y ≤ 4
    · by_cases c3 : 0 ≤ z ∧ z ≤ 7
      · by_cases c4 : 1 ≤ v ∧ v ≤ 12
        · obtain ⟨l, hl, rfl⟩ := (toL (by omega)).mp c1
          obtain ⟨w, hw4, rfl⟩ := toN (N := 4) (by omega) c2
          obtain ⟨r, hr, rfl⟩ := toN (N := 7) (by omega) c3
          obtain ⟨n, hn1, hn, rfl⟩ := toN2 (l := 1) (N := 12) (by omega) (by omega) c4
          have hr8 : r < 8 := by omega
          have cl2 : EX sc 39 107 0 [.ref 0, .int (nI l), .int (nI w), .int (nI r), .int u, .int (nI n)] [] (mk S) = EX sc 39 107 2 [.ref 0, .int (nI l), .int (nI w), .int (nI r), .int u, .int (nI n)] [] (mk S) := by
            rw [e107_0]
            simp only [O0, if_true, isLetterC hC, within_eq, isRowC, cI_s, ii_0]
            rw [if_pos c1, if_pos c2, if_pos c3, if_pos c4]
          have ml2 : ∀ T, MP T X → EX sc 39 206 0 [.ref 359, .int (nI l), .int (nI w), .int (nI r), .int u, .int (nI n), Jk, Jk] [] (mk T) = EX sc 39 206 2 [.ref 359, .int (nI l), .int (nI w), .int (nI r), .int u, .int (nI n), Jk, Jk] [] (mk T) := by
            intro T hT
            rw [e206_0]
            simp only [O359, if_true, isLetterM hT.stat, hiny, isRowM, hinv, cI_s, ii_0]
            rw [if_pos c1, if_pos c2, if_pos c3, if_pos c4]
          by_cases cm : X.sz r = -1
          · refine stp (X := X) (X' := X.wst 1) (r := -1000010 - 1) hX hX hM ⟨_, ?_, CR_st hC 1, FrC.up (by omega)⟩ (fun S1 hM1 => ⟨_, ?_, MP_st hM1 hX 1, FrM.up (by omega)⟩)
            · rw [cl2, e107_2]
              simp only [O0, O1, oB_s, if_true, isMissing_eq hX hC hr8, cI_s, cm, i10, if_false, foundC]
            · rw [ml2 S1 hM1, e206_2]
              simp only [O359, oB_s, if_true, aI_at (S := S1) A362 hr8 (by omega), (hM1.shelf r hr8).1]
              rw [if_neg (fun q => (sz_neg hX hr8).mp q cm), foundM, cI_s]
          · obtain ⟨⟨N, hN1, hN2⟩, ln, hl1, hl2⟩ := (hX.1 r hr8).resolve_left cm
            have hs3 : S 3 r = nI N := by rw [(hC.shelf r hr8).2.1 cm, hN2]
            by_cases c5 : 0 ≤ u.toInt ∧ 0 ≤ (nI n).toInt ∧ u.toInt + (nI n).toInt ≤ N
            · obtain ⟨i, n', k1, k2, k3⟩ := Span.nat (i := u) (n := nI n) (N := N) c5 (by omega)
              have e : n = n' := (nI_eq (by omega) (by omega)).mp k2
              subst e
              subst k1
              obtain ⟨tl, htl⟩ : ∃ tl : Nat → Int32, tl = fun j => X.it r (i + j) := ⟨_, rfl⟩
              have cp : cpA (mk (up S 45 7 (nI n))) (5 + r) (nI i) 70 (nI 0) (nI n) = some (mk (va_up (up S 45 7 (nI n)) 70 (va_cpy (up S 45 7 (nI n) (5 + r)) (up S 45 7 (nI n) 70) i 0 n))) := cp_at (A5_8 hr8) A70 (by omega) (by omega) (by omega) (by omega)
              obtain ⟨S1, hS1⟩ : ∃ S1, S1 = va_up (up S 45 7 (nI n)) 70 (va_cpy (up S 45 7 (nI n) (5 + r)) (up S 45 7 (nI n) 70) i 0 n) := ⟨_, rfl⟩
              have fs1 : FS S S1 := by
                rw [hS1]
                refine ⟨fun k q1 q2 q3 => by rw [vup_ne q3, up_row_ne q1], ?_, ?_⟩
                · rw [vup_ne (by omega), up_ne (by omega)]
                · rw [vup_ne (by omega), up_ne (by omega)]
              have s7 : S1 45 7 = nI n := by rw [hS1, vup_ne (by omega), up_same]
              have s70 : ∀ j, j < n → S1 70 j = tl j := fun j hj => by
                rw [hS1, vup_at, pk_cpy_in (by omega) (by omega), up_row_ne (by omega), (hC.shelf r hr8).2.2 (i + (j - 0)) (by omega), htl]
                rfl
              have hC1 := hC.fs fs1
              have hg := hX.gd (by omega)
              obtain ⟨S2, m1, m2⟩ := who_C (tl := tl) hC1.now (hX.okT (n := 100) (by omega)) (by have := hg.2.2.2.2.2.1; omega) hl hn hw4 s7 s70 sc
              refine stp (X := X) (X' := X.wst 0) (r := ansW tl n X.nw w l) hX hX hM ⟨up S2 0 12 0, ?_, CR_st (hC1.fs m2) 0, (fs1.tr m2).c.tr (FrC.up (by omega))⟩ (fun T hT => ?_)
              · rw [cl2, e107_2]
                simp only [O0, O1, oB_s, if_true, isMissing_eq hX hC hr8, cI_s, ii_0, cm, if_false]
                rw [e107_3]
                simp only [O0, O1, oB_s, if_true, reaches_eq hr8 (show N < 1000 by omega) hs3, cI_s, ii_0]
                rw [if_pos c5, e107_4]
                simp only [O0, O1, oB_s, aR4 _ hr8, O45, if_true, e44_0, P45]
                rw [show (0 : Int32) = nI 0 from rfl, cp, ← hS1]
                simp only [oB_s, cV_s, O0, if_true, m1, cI_s, wellC]
                rfl
              · obtain ⟨T1, n1, n2⟩ := who_M (tl := tl) (i := i) hX hT hl hr8 hn (by omega) hw4 (fun j hj => by rw [htl]) sc
                refine ⟨up T1 359 3 0, ?_, MP_st (hT.fn hX n2) hX 0, n2.m.tr (FrM.up (by omega))⟩
                rw [ml2 T hT, e206_2]
                simp only [O359, oB_s, if_true, aI_at (S := T) A362 hr8 (by omega), (hT.shelf r hr8).1]
                rw [if_pos ((sz_neg hX hr8).mpr cm), e206_3]
                have hs362 : T 362 r = nI N := by rw [(hT.shelf r hr8).1, hN2]
                simp only [O359, oB_s, if_true, isSpan_eq hr8 (show N < 1000 by omega) hs362, cI_s, ii_0]
                rw [if_pos c5]
                exact n1
            · refine stp (X := X) (X' := X.wst 2) (r := -1000010 - 2) hX hX hM ⟨_, ?_, CR_st hC 2, FrC.up (by omega)⟩ (fun T hT => ⟨_, ?_, MP_st hT hX 2, FrM.up (by omega)⟩)
              · rw [cl2, e107_2]
                simp only [O0, O1, oB_s, if_true, isMissing_eq hX hC hr8, cI_s, ii_0, cm, if_false]
                rw [e107_3]
                simp only [O0, O1, oB_s, if_true, reaches_eq hr8 (show N < 1000 by omega) hs3, cI_s, ii_0]
                rw [if_neg c5, foundC, cI_s]
              · rw [ml2 T hT, e206_2]
                simp only [O359, oB_s, if_true, aI_at (S := T) A362 hr8 (by omega), (hT.shelf r hr8).1]
                rw [if_pos ((sz_neg hX hr8).mpr cm), e206_3]
                have hs362 : T 362 r = nI N := by rw [(hT.shelf r hr8).1, hN2]
                simp only [O359, oB_s, if_true, isSpan_eq hr8 (show N < 1000 by omega) hs362, cI_s, ii_0]
                rw [if_neg c5, foundM, cI_s]
        · refine ⟨-1000001, S, S, ?_, ?_, X, hX, hC, hM⟩
          · rw [e107_0]
            simp only [O0, if_true, isLetterC hC, within_eq, isRowC, cI_s, ii_0]
            rw [if_pos c1, if_pos c2, if_pos c3, if_neg c4, e107_1]
          · rw [e206_0]
            simp only [O359, if_true, isLetterM hM.stat, hiny, isRowM, hinv, cI_s, ii_0]
            rw [if_pos c1, if_pos c2, if_pos c3, if_neg c4, e206_1]
      · refine ⟨-1000001, S, S, ?_, ?_, X, hX, hC, hM⟩
        · rw [e107_0]
          simp only [O0, if_true, isLetterC hC, within_eq, isRowC, cI_s, ii_0]
          rw [if_pos c1, if_pos c2, if_neg c3, e107_1]
        · rw [e206_0]
          simp only [O359, if_true, isLetterM hM.stat, hiny, isRowM, cI_s, ii_0]
          rw [if_pos c1, if_pos c2, if_neg c3, e206_1]
    · refine ⟨-1000001, S, S, ?_, ?_, X, hX, hC, hM⟩
      · rw [e107_0]
        simp only [O0, if_true, isLetterC hC, within_eq, cI_s, ii_0]
        rw [if_pos c1, if_neg c2, e107_1]
      · rw [e206_0]
        simp only [O359, if_true, isLetterM hM.stat, hiny, cI_s, ii_0]
        rw [if_pos c1, if_neg c2, e206_1]
  · refine ⟨-1000001, S, S, ?_, ?_, X, hX, hC, hM⟩
    · rw [e107_0]
      simp only [O0, if_true, isLetterC hC, cI_s, ii_0]
      rw [if_neg c1, e107_1]
    · rw [e206_0]
      simp only [O359, if_true, isLetterM hM.stat, cI_s, ii_0]
      rw [if_neg c1, e206_1]
