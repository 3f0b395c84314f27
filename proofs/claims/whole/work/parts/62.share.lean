/-! share -/
def shQ (a : Hs) (n A i : Nat) : Nat := n * a 6 i / A
def shI (a : Hs) (l j : Nat) : Nat := if j < l ∧ 0 < a 6 j then 1 else 0
theorem shQ_le {a : Hs} {n A : Nat} (hA : 0 < A) : ∀ m, A * sumN (shQ a n A) m ≤ n * sumN (a 6) m
  | 0 => by simp [sumN]
  | m + 1 => by
    have ih := shQ_le (a := a) (n := n) hA m
    have h1 : A * (n * a 6 m / A) ≤ n * a 6 m := Nat.mul_div_le _ _
    show A * (sumN (shQ a n A) m + n * a 6 m / A) ≤ n * (sumN (a 6) m + a 6 m)
    rw [Nat.mul_add, Nat.mul_add]
    omega
theorem sumN_mono {f : Nat → Nat} {m k : Nat} (h : m ≤ k) : sumN f m ≤ sumN f k := by
  induction k with
  | zero => rw [show m = 0 by omega]; exact Nat.le_refl _
  | succ k ih =>
    by_cases e : m = k + 1
    · rw [e]; exact Nat.le_refl _
    · have := ih (by omega)
      show _ ≤ sumN f k + f k
      omega
theorem shQ_n {a : Hs} {n L : Nat} (hA : 0 < sumN (a 6) L) {m : Nat} (hm : m ≤ L) : sumN (shQ a n (sumN (a 6) L)) m ≤ n := by
  have h1 := shQ_le (a := a) (n := n) hA L
  have h2 := sumN_mono (f := shQ a n (sumN (a 6) L)) hm
  have h3 : sumN (shQ a n (sumN (a 6) L)) L ≤ n := by
    rw [Nat.mul_comm n] at h1
    exact Nat.le_of_mul_le_mul_left h1 hA
  omega
theorem shI_tail {a : Hs} {l : Nat} : ∀ m, l ≤ m → sumN (shI a l) m = sumN (shI a l) l := by
  intro m
  induction m with
  | zero => intro h; rw [show l = 0 by omega]
  | succ m ih =>
    intro h
    by_cases e : l = m + 1
    · rw [e]
    · show sumN (shI a l) m + shI a l m = _
      rw [ih (by omega)]
      unfold shI
      rw [if_neg (by omega)]
      rfl
theorem shI_le {a : Hs} {l : Nat} : ∀ m, sumN (shI a l) m ≤ m
  | 0 => by simp [sumN]
  | m + 1 => by
    have := shI_le (a := a) (l := l) m
    have e : shI a l m ≤ 1 := by unfold shI; split <;> omega
    show sumN (shI a l) m + shI a l m ≤ m + 1
    omega
theorem stk_le {a : Hs} {B : Nat} (hw : WFg B a) : sumN (a 6) (a 0 3) ≤ 5994 := by
  have h := sumN_le (f := a 6) (B := 999) (a 0 3) (fun i hi => (hw.2.2.2.2.2 i hi).2.2.2.2.2.1)
  have h6 := hw.1
  have : a 0 3 * 999 ≤ 6 * 999 := Nat.mul_le_mul_right 999 h6
  omega
def shR (a : Hs) (n l : Nat) : Nat := if sumN (a 6) (a 0 3) = 0 then 0 else shQ a n (sumN (a 6) (a 0 3)) l + if 0 < a 6 l ∧ sumN (shI a l) l < n - sumN (shQ a n (sumN (a 6) (a 0 3))) (a 0 3) then 1 else 0
theorem quo_I {n s A : Nat} (hn : n ≤ 999) (hs : s ≤ 999) (hA : 0 < A) (hA2 : A ≤ 5994) : nI n * nI s / nI A = nI (n * s / A) := by
  rw [pk_mul]
  refine pk_div ?_ hA (by omega)
  have : n * s ≤ 999 * 999 := Nat.mul_le_mul hn hs
  omega
theorem shareC {S : Nat → Nat → Int32} {X : Xs} (hC : CR S X) (hX : XOk X) {n l : Nat} (hn : n ≤ 999) (hl : l < X.nw 0 3) (sc : Nat × (Nat → Int32)) (d : Nat) : EX sc (d + 2) 128 0 [.ref 0, .int (nI l), .int (nI n), Jk, Jk, Jk, Jk] [] (mk S) = some (some (.int (nI (shR X.nw n l))), mk S) := by
  have h6 := hX.l6
  have hw := hX.wf
  have hA2 := stk_le hw
  have p : ∀ i, i < X.nw 0 3 → S 29 i = nI (X.nw 6 i) := fun i hi => pl_I hC.now (show 1 ≤ 6 by omega) (show 6 ≤ 8 by omega) (show i < 6 by omega)
  have s9 : ∀ i, i < X.nw 0 3 → X.nw 6 i ≤ 999 := fun i hi => (hw.2.2.2.2.2 i hi).2.2.2.2.2.1
  have eA : (nI (sumN (X.nw 6) (X.nw 0 3)) = 0) ↔ sumN (X.nw 6) (X.nw 0 3) = 0 := nI_eq (b := 0) (by omega) (by omega)
  have el : (nI (X.nw 6 l) = 0) ↔ X.nw 6 l = 0 := nI_eq (b := 0) (by have := s9 l hl; omega) (by omega)
  rw [e128_0]
  simp only [O0, oB_s, Hg isH_23, if_true, stuckTogether_eq hC.now h6, cI_s, fun S => HA isH_23 S (show l < 6 by omega), p l hl, e128_1]
  unfold shR
  by_cases z : sumN (X.nw 6) (X.nw 0 3) = 0
  · rw [if_pos (eA.mpr z), if_pos z]; rfl
  · rw [if_neg (fun q => z (eA.mp q)), if_neg z]
    by_cases zl : X.nw 6 l = 0
    · rw [if_pos (el.mpr zl), if_neg (by omega)]
      unfold shQ
      rw [zl, Nat.mul_zero, Nat.zero_div]
      rfl
    · rw [if_neg (fun q => zl (el.mp q)), e128_2]
      have hA : 0 < sumN (X.nw 6) (X.nw 0 3) := by omega
      obtain ⟨A, hAe⟩ : ∃ A, A = sumN (X.nw 6) (X.nw 0 3) := ⟨_, rfl⟩
      rw [← hAe] at hA hA2 ⊢
      have eA0 : ¬ nI A = 0 := nI_ne0 hA (by omega)
      have loop : ∀ m i, i + m = X.nw 0 3 → EX sc (d + 2) 128 3 [.ref 0, .int (nI l), .int (nI n), .int (nI A), .int (nI (sumN (shQ X.nw n A) i)), .int (nI (sumN (shI X.nw l) i)), .int (nI i)] [] (mk S) = EX sc (d + 2) 128 5 [.ref 0, .int (nI l), .int (nI n), .int (nI A), .int (nI (sumN (shQ X.nw n A) (X.nw 0 3))), .int (nI (sumN (shI X.nw l) (X.nw 0 3))), Jk] [] (mk S) := by
        intro m
        induction m with
        | zero =>
          intro i hi
          rw [e128_3]
          simp only [O0, oB_s, Hg isH_23, hC.now.2.1 3 (by omega)]
          rw [if_pos (nI_le (by omega) (by omega)), show i = X.nw 0 3 by omega]
        | succ m ih =>
          intro i hi
          have hn2 := ih (i + 1) (by omega)
          have hi2 : i < X.nw 0 3 := by omega
          rw [e128_3]
          simp only [O0, oB_s, Hg isH_23, hC.now.2.1 3 (by omega), fun S => HA isH_23 S (show i < 6 by omega), p i hi2, quo_I hn (s9 i hi2) hA hA2, nI_add, nI_1, e128_4]
          rw [if_neg (nI_ge (by omega) (by omega)), if_neg eA0]
          have e1 : (nI l ≤ nI i) ↔ l ≤ i := nI_leI (by omega) (by omega)
          have e2 : (nI (X.nw 6 i) ≤ 0) ↔ X.nw 6 i ≤ 0 := nI_leI (b := 0) (by have := s9 i hi2; omega) (by omega)
          have q1 : sumN (shQ X.nw n A) (i + 1) = sumN (shQ X.nw n A) i + n * X.nw 6 i / A := rfl
          have q2 : sumN (shI X.nw l) (i + 1) = sumN (shI X.nw l) i + (if i < l ∧ 0 < X.nw 6 i then 1 else 0) := rfl
          rw [q1, q2] at hn2
          by_cases c1 : l ≤ i
          · rw [if_pos (e1.mpr c1)]
            rw [if_neg (by omega)] at hn2
            exact hn2
          · rw [if_neg (fun q => c1 (e1.mp q))]
            by_cases c2 : X.nw 6 i ≤ 0
            · rw [if_pos (e2.mpr c2)]
              rw [if_neg (by omega)] at hn2
              exact hn2
            · rw [if_neg (fun q => c2 (e2.mp q))]
              rw [if_pos (by omega)] at hn2
              exact hn2
      have hgv := shQ_n (a := X.nw) (n := n) (L := X.nw 0 3) (by rw [← hAe]; exact hA) (Nat.le_refl _)
      rw [← hAe] at hgv
      have hil := shI_tail (a := X.nw) (l := l) (X.nw 0 3) (by omega)
      have hile := shI_le (a := X.nw) (l := l) l
      refine (show EX sc (d + 2) 128 3 [.ref 0, .int (nI l), .int (nI n), .int (nI A), .int (nI 0), .int (nI 0), .int (nI 0)] [] (mk S) = _ from loop (X.nw 0 3) 0 (by omega)).trans ?_
      rw [e128_5]
      simp only [O0, oB_s, Hg isH_23, fun S => HA isH_23 S (show l < 6 by omega), p l hl, quo_I hn (s9 l hl) hA hA2, pk_sub hgv, hil, e128_6]
      rw [if_neg eA0]
      have e3 : (nI (n - sumN (shQ X.nw n A) (X.nw 0 3)) ≤ nI (sumN (shI X.nw l) l)) ↔ n - sumN (shQ X.nw n A) (X.nw 0 3) ≤ sumN (shI X.nw l) l := nI_leI (by omega) (by omega)
      by_cases c : n - sumN (shQ X.nw n A) (X.nw 0 3) ≤ sumN (shI X.nw l) l
      · rw [if_pos (e3.mpr c), if_neg (by omega)]; rfl
      · rw [if_neg (fun q => c (e3.mp q)), if_pos (by omega), nI_1]; rfl
theorem shareM {S : Nat → Nat → Int32} {X : Xs} (ms : MS S X.nw) (hX : XOk X) {n l : Nat} (hn : n ≤ 999) (hl : l < X.nw 0 3) (hz : sumN (X.nw 6) (X.nw 0 3) ≠ 0) (sc : Nat × (Nat → Int32)) (d : Nat) : EX sc (d + 2) 196 3 [.ref 359, .int (nI l), .int (nI n), .int (nI (sumN (X.nw 6) (X.nw 0 3))), Jk, Jk, Jk, Jk] [] (mk S) = some (some (.int (nI (shR X.nw n l))), mk S) := by
  have h6 := hX.l6
  have hw := hX.wf
  have hA2 := stk_le hw
  have p : ∀ i, i < X.nw 0 3 → S 373 (6 + i) = nI (X.nw 6 i) := fun i hi => (ms.2.1 i hi).2.1
  have s9 : ∀ i, i < X.nw 0 3 → X.nw 6 i ≤ 999 := fun i hi => (hw.2.2.2.2.2 i hi).2.2.2.2.2.1
  unfold shR
  rw [if_neg hz]
  have hA : 0 < sumN (X.nw 6) (X.nw 0 3) := by omega
  have gv := fun m hm => shQ_n (a := X.nw) (n := n) (L := X.nw 0 3) hA (m := m) hm
  obtain ⟨A, hAe⟩ : ∃ A, A = sumN (X.nw 6) (X.nw 0 3) := ⟨_, rfl⟩
  rw [← hAe] at hA hA2 ⊢
  simp only [← hAe] at gv
  have eA0 : ¬ nI A = 0 := nI_ne0 hA (by omega)
  have loop : ∀ m i, i + m = X.nw 0 3 → EX sc (d + 2) 196 4 [.ref 359, .int (nI l), .int (nI n), .int (nI A), .int (nI (n - sumN (shQ X.nw n A) i)), .int (nI i), Jk, Jk] [] (mk S) = EX sc (d + 2) 196 5 [.ref 359, .int (nI l), .int (nI n), .int (nI A), .int (nI (n - sumN (shQ X.nw n A) (X.nw 0 3))), Jk, Jk, Jk] [] (mk S) := by
    intro m
    induction m with
    | zero =>
      intro i hi
      rw [e196_4]
      simp only [O359, oB_s, ms.1.2.1]
      rw [if_pos (nI_le (by omega) (by omega)), show i = X.nw 0 3 by omega]
    | succ m ih =>
      intro i hi
      have hn2 := ih (i + 1) (by omega)
      have hi2 : i < X.nw 0 3 := by omega
      have q1 : sumN (shQ X.nw n A) (i + 1) = sumN (shQ X.nw n A) i + n * X.nw 6 i / A := rfl
      have g1 := gv (i + 1) (by omega)
      rw [q1] at hn2 g1
      rw [e196_4]
      simp only [O359, oB_s, ms.1.2.1, show (6 : Int32) = nI 6 from rfl, nI_add, A373_at (S := S) (show 6 + i < 32 by omega), p i hi2, quo_I hn (s9 i hi2) hA hA2, pk_sub (show n * X.nw 6 i / A ≤ n - sumN (shQ X.nw n A) i by omega), nI_1]
      rw [if_neg (nI_ge (by omega) (by omega)), if_neg eA0, Nat.sub_sub]
      exact hn2
  have hO := gv (X.nw 0 3) (Nat.le_refl _)
  obtain ⟨O, hOe⟩ : ∃ O, O = n - sumN (shQ X.nw n A) (X.nw 0 3) := ⟨_, rfl⟩
  rw [← hOe] at loop ⊢
  obtain ⟨w, hwe⟩ : ∃ w, w = shQ X.nw n A l := ⟨_, rfl⟩
  have loop2 : ∀ m k, k + m = l + 1 → EX sc (d + 2) 196 6 [.ref 359, .int (nI l), Jk, Jk, .int (nI (O - sumN (shI X.nw (l + 1)) k)), .int (nI (w + if k = l + 1 ∧ 0 < X.nw 6 l ∧ sumN (shI X.nw l) l < O then 1 else 0)), .int (nI k), Jk] [] (mk S) = some (some (.int (nI (w + if 0 < X.nw 6 l ∧ sumN (shI X.nw l) l < O then 1 else 0))), mk S) := by
    intro m
    induction m with
    | zero =>
      intro k hk
      have hk2 : k = l + 1 := by omega
      rw [e196_6, if_pos (nI_lt (by omega) (by omega)), e196_13]
      simp only [hk2, true_and]
    | succ m ih =>
      intro k hk
      have hn2 := ih (k + 1) (by omega)
      have hk2 : k < X.nw 0 3 := by omega
      have e2 : (nI (X.nw 6 k) ≤ 0) ↔ X.nw 6 k ≤ 0 := nI_leI (b := 0) (by have := s9 k hk2; omega) (by omega)
      have e3 : (nI (O - sumN (shI X.nw (l + 1)) k) ≤ 0) ↔ O - sumN (shI X.nw (l + 1)) k ≤ 0 := nI_leI (b := 0) (by omega) (by omega)
      have ekl : (nI k = nI l) ↔ k = l := nI_eq (by omega) (by omega)
      have q2 : sumN (shI X.nw (l + 1)) (k + 1) = sumN (shI X.nw (l + 1)) k + (if k < l + 1 ∧ 0 < X.nw 6 k then 1 else 0) := rfl
      have qk : sumN (shI X.nw (l + 1)) l = sumN (shI X.nw l) l := sumN_congr l (fun j hj => by
        unfold shI
        by_cases c : 0 < X.nw 6 j
        · rw [if_pos ⟨by omega, c⟩, if_pos ⟨hj, c⟩]
        · rw [if_neg (fun q => c q.2), if_neg (fun q => c q.2)])
      rw [q2] at hn2
      rw [if_neg (show ¬ (k = l + 1 ∧ 0 < X.nw 6 l ∧ sumN (shI X.nw l) l < O) by omega), Nat.add_zero]
      rw [e196_6, if_neg (nI_nlt (by omega) (by omega))]
      simp only [O359, oB_s, show (6 : Int32) = nI 6 from rfl, nI_add, A373_at (S := S) (show 6 + k < 32 by omega), p k hk2, e196_7, e196_8, e196_9, e196_10, e196_11, e196_12, if_true, i10, if_false, nI_1]
      by_cases c1 : X.nw 6 k ≤ 0
      · rw [if_pos (e2.mpr c1)]
        rw [if_neg (show ¬ (k < l + 1 ∧ 0 < X.nw 6 k) by omega), Nat.add_zero] at hn2
        have hx : ¬ (k + 1 = l + 1 ∧ 0 < X.nw 6 l ∧ sumN (shI X.nw l) l < O) := fun q => by
          have : k = l := by omega
          rw [this] at c1
          omega
        rw [if_neg hx] at hn2
        rw [show nI (O - sumN (shI X.nw (l + 1)) k) - 0 = nI (O - sumN (shI X.nw (l + 1)) k) from pk_sub (b := 0) (by omega), show nI (w + 0) + 0 = nI (w + 0) from nI_add (w + 0) 0]
        exact hn2
      · rw [if_neg (fun q => c1 (e2.mp q))]
        rw [if_pos (show k < l + 1 ∧ 0 < X.nw 6 k by omega)] at hn2
        by_cases c2 : O - sumN (shI X.nw (l + 1)) k ≤ 0
        · rw [if_pos (e3.mpr c2)]
          have hx : ¬ (k + 1 = l + 1 ∧ 0 < X.nw 6 l ∧ sumN (shI X.nw l) l < O) := fun q => by
            have hkl : k = l := by omega
            rw [hkl, qk] at c2
            omega
          rw [if_neg hx, show O - (sumN (shI X.nw (l + 1)) k + 1) = O - sumN (shI X.nw (l + 1)) k by omega] at hn2
          rw [show nI (O - sumN (shI X.nw (l + 1)) k) - 0 = nI (O - sumN (shI X.nw (l + 1)) k) from pk_sub (b := 0) (by omega), show nI (w + 0) + 0 = nI (w + 0) from nI_add (w + 0) 0]
          exact hn2
        · rw [if_neg (fun q => c2 (e3.mp q))]
          have es : nI (O - sumN (shI X.nw (l + 1)) k) - 1 = nI (O - (sumN (shI X.nw (l + 1)) k + 1)) := by
            rw [show O - (sumN (shI X.nw (l + 1)) k + 1) = (O - sumN (shI X.nw (l + 1)) k) - 1 by omega]
            exact pk_sub (b := 1) (by omega)
          rw [es]
          by_cases c3 : k = l
          · rw [if_pos (ekl.mpr c3)]
            have hx : k + 1 = l + 1 ∧ 0 < X.nw 6 l ∧ sumN (shI X.nw l) l < O := by
              refine ⟨by omega, ?_, ?_⟩
              · rw [← c3]; omega
              · rw [← qk, ← c3]; rw [c3] at c2 ⊢; omega
            rw [if_pos hx] at hn2
            exact hn2
          · rw [if_neg (fun q => c3 (ekl.mp q))]
            rw [if_neg (show ¬ (k + 1 = l + 1 ∧ 0 < X.nw 6 l ∧ sumN (shI X.nw l) l < O) by omega)] at hn2
            rw [show nI (w + 0) + 0 = nI (w + 0) from nI_add (w + 0) 0]
            exact hn2
  rw [e196_3]
  have l1 := loop (X.nw 0 3) 0 (by omega)
  have l1' : EX sc (d + 2) 196 4 [.ref 359, .int (nI l), .int (nI n), .int (nI A), .int (nI n), .int 0, Jk, Jk] [] (mk S) = EX sc (d + 2) 196 5 [.ref 359, .int (nI l), .int (nI n), .int (nI A), .int (nI O), Jk, Jk, Jk] [] (mk S) := l1
  rw [l1', e196_5]
  simp only [O359, oB_s, show (6 : Int32) = nI 6 from rfl, nI_add, A373_at (S := S) (show 6 + l < 32 by omega), p l hl, quo_I hn (s9 l hl) hA hA2]
  rw [if_neg eA0]
  have l2 := loop2 (l + 1) 0 (by omega)
  rw [if_neg (show ¬ (0 = l + 1 ∧ 0 < X.nw 6 l ∧ sumN (shI X.nw l) l < O) by omega), Nat.add_zero, hwe] at l2
  exact l2
theorem op_share (sc : Nat × (Nat → Int32)) (x y : Int32) : St2 sc 105 [.ref 0, .int x, .int y] 196 [.ref 359, .int x, .int y, Jk, Jk, Jk, Jk, Jk] := by
  rintro S ⟨X, hX, hC, hM⟩
  have h6 := hX.l6
  have hw := hX.wf
  have hiny := fun S => inL sc y 0 999 0 999 S 37 rfl rfl
  by_cases c1 : 0 ≤ x ∧ x ≤ nI (X.nw 0 3) - 1
  · by_cases c2 : 0 ≤ y ∧ y ≤ 999
    · obtain ⟨l, hl, rfl⟩ := (toL (by omega)).mp c1
      obtain ⟨n, hn, rfl⟩ := toN (N := 999) (by omega) c2
      refine stq (r := nI (shR X.nw n l)) hX hC hM ⟨S, ?_, FS.rf _⟩ (fun T hM1 => ?_)
      · rw [e105_0]
        simp only [O0, if_true, isLetterC hC, within_eq, cI_s, ii_0]
        rw [if_pos c1, if_pos c2, e105_2]
        simp only [O0, if_true, shareC hC hX hn hl sc 36, cI_s]
      · obtain ⟨T1, a1, a2, a3⟩ := aside_spec hM1.stat hM1.now h6 sc 37
        refine ⟨T1, ?_, a3.fm.fn⟩
        have hA2 := stk_le hw
        have eA : (nI (sumN (X.nw 6) (X.nw 0 3)) = 0) ↔ sumN (X.nw 6) (X.nw 0 3) = 0 := nI_eq (b := 0) (by omega) (by omega)
        rw [e196_0]
        simp only [O359, if_true, isLetterM hM1.stat, hiny, cI_s, ii_0]
        rw [if_pos c1, if_pos c2, e196_2]
        simp only [O359, if_true, a1, cV_s, stuckAll_eq a2 h6, cI_s]
        by_cases z : sumN (X.nw 6) (X.nw 0 3) = 0
        · rw [if_pos (eA.mpr z)]
          unfold shR
          rw [if_pos z]; rfl
        · rw [if_neg (fun q => z (eA.mp q))]
          exact shareM a2 hX hn hl z sc 37
    · refine ⟨-1000001, S, S, ?_, ?_, X, hX, hC, hM⟩
      · rw [e105_0]
        simp only [O0, if_true, isLetterC hC, within_eq, cI_s, ii_0]
        rw [if_pos c1, if_neg c2, e105_1]
      · rw [e196_0]
        simp only [O359, if_true, isLetterM hM.stat, hiny, cI_s, ii_0]
        rw [if_pos c1, if_neg c2, e196_1]
  · refine ⟨-1000001, S, S, ?_, ?_, X, hX, hC, hM⟩
    · rw [e105_0]
      simp only [O0, if_true, isLetterC hC, within_eq, cI_s, ii_0]
      rw [if_neg c1, e105_1]
    · rw [e196_0]
      simp only [O359, if_true, isLetterM hM.stat, cI_s, ii_0]
      rw [if_neg c1, e196_1]
