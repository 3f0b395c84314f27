/-! when, over, need -/
def fstV (P : Nat → Bool) : Nat → Nat → Int32
  | 0, _ => -1000000
  | n + 1, v => if P v = true then nI v else fstV P n (v + 1)
theorem one_bit {a : Hs} (h6 : a 0 3 ≤ 6) {i : Nat} (hi : i < a 0 3) : (2 ^ i &&& (63 ^^^ ly a 21) = 0) ↔ a 5 i = 21 := by
  have hlt : 2 ^ i < 64 := by
    have : 2 ^ i < 2 ^ 6 := Nat.pow_lt_pow_right (by omega) (by omega)
    omega
  constructor
  · intro h
    have := andn_bit (y := ly a 21) hlt i
    rw [h, Nat.zero_testBit, Nat.testBit_two_pow, ly_bit] at this
    by_cases e : a 5 i = 21
    · exact e
    · simp [hi, e] at this
  · intro h
    apply Nat.eq_of_testBit_eq
    intro j
    rw [andn_bit hlt, Nat.zero_testBit, Nat.testBit_two_pow, ly_bit]
    by_cases e : i = j
    · subst e
      simp [hi, h]
    · simp [e]
theorem loop34 {a : Hs} {i : Nat} (hi : i < a 0 3) (hw : OkT 100 a) (sc : Nat × (Nat → Int32)) (d : Nat) : ∀ (n t : Nat) (S : Nat → Nat → Int32), t + n = 61 → HR S 46 (tk t a) → ∃ S', EX sc (d + 4) 34 1 [.ref 45, Jk, .int (nI i), .int (nI t)] [] (mk S) = some (some (.int (fstV (fun t => decide ((tk t a) 5 i ≠ 20)) n t)), mk S') ∧ FS S S' := by
  intro n
  induction n with
  | zero =>
    intro t S ht h
    refine ⟨S, ?_, FS.rf _⟩
    rw [e34_1, e34_3, if_pos (show (60 : Int32) < nI t from nI_lt (a := 60) (by omega) (by omega))]
    rfl
  | succ n ih =>
    intro t S ht h
    have hok : OkT 30 (tk t a) := OkT.tkk (n := t) (hw.le (by omega))
    obtain ⟨B, hwB⟩ := hok.wf
    have h6 := hok.l6
    have hi' : i < (tk t a) 0 3 := by rw [tk_0 (by omega)]; exact hi
    have h22 := pl_22 hwB hi'
    have e20 : (nI ((tk t a) 5 i) = 20) ↔ (tk t a) 5 i = 20 := nI_eq (b := 20) (by omega) (by omega)
    have p : S 51 i = nI ((tk t a) 5 i) := pl_I h (show 1 ≤ 5 by omega) (show 5 ≤ 8 by omega) (show i < 6 by omega)
    rw [e34_1, if_neg (show ¬ (60 : Int32) < nI t from nI_nlt (a := 60) (by omega) (by omega))]
    simp only [O45, oB_s, Hg isH_46, fun S => HA isH_46 S (show i < 6 by omega), p]
    unfold fstV
    by_cases c : (tk t a) 5 i = 20
    · rw [if_pos (e20.mpr c), if_neg (show ¬ decide ((tk t a) 5 i ≠ 20) = true by simp [c]), e34_2]
      obtain ⟨S1, k1, k2, k3⟩ := tickT h hok sc d
      simp only [O45, oB_s, Hg isH_46, if_true, k1, cV_s, nI_1]
      rw [← tk_succ] at k2
      obtain ⟨S2, m1, m2⟩ := ih (t + 1) S1 (by omega) k2
      exact ⟨S2, m1, (k3.fs (Or.inl rfl)).tr m2⟩
    · rw [if_neg (fun q => c (e20.mp q)), if_pos (show decide ((tk t a) 5 i ≠ 20) = true by simp [c])]
      exact ⟨S, rfl, FS.rf _⟩
theorem loop35 {a : Hs} {x : Nat} (hx : x < 64) (hw : OkT 100 a) (sc : Nat × (Nat → Int32)) (d : Nat) : ∀ (n t : Nat) (S : Nat → Nat → Int32), t + n = 61 → HR S 46 (tk t a) → ∃ S', EX sc (d + 4) 35 1 [.ref 45, Jk, .int (nI x), .int (nI t)] [] (mk S) = some (some (.int (fstV (fun t => decide (x &&& (63 ^^^ ly (tk t a) 21) = 0)) n t)), mk S') ∧ FS S S' := by
  intro n
  induction n with
  | zero =>
    intro t S ht h
    refine ⟨S, ?_, FS.rf _⟩
    rw [e35_1, e35_3, if_pos (show (60 : Int32) < nI t from nI_lt (a := 60) (by omega) (by omega))]
    rfl
  | succ n ih =>
    intro t S ht h
    have hok : OkT 30 (tk t a) := OkT.tkk (n := t) (hw.le (by omega))
    have h6 := hok.l6
    have p : S 55 21 = nI (ly (tk t a) 21) := h.2.2.2.1 21 (by omega)
    have hlt : x &&& (63 ^^^ ly (tk t a) 21) < 64 := Nat.lt_of_le_of_lt Nat.and_le_left hx
    have e0 : (nI (x &&& (63 ^^^ ly (tk t a) 21)) = 0) ↔ x &&& (63 ^^^ ly (tk t a) 21) = 0 := nI_eq (b := 0) (by omega) (by omega)
    rw [e35_1, if_neg (show ¬ (60 : Int32) < nI t from nI_nlt (a := 60) (by omega) (by omega))]
    simp only [O45, oB_s, Hg isH_46, show (21 : Int32) = nI 21 from rfl, fun S => HA2 isH_46 S (show 21 < 22 by omega), p, andn_I _ hx _ (ly_lt h6 21)]
    unfold fstV
    by_cases c : x &&& (63 ^^^ ly (tk t a) 21) = 0
    · rw [if_pos (e0.mpr c), if_pos (show decide (x &&& (63 ^^^ ly (tk t a) 21) = 0) = true by simp [c])]
      exact ⟨S, rfl, FS.rf _⟩
    · rw [if_neg (fun q => c (e0.mp q)), if_neg (show ¬ decide (x &&& (63 ^^^ ly (tk t a) 21) = 0) = true by simp [c]), e35_2]
      obtain ⟨S1, k1, k2, k3⟩ := tickT h hok sc d
      simp only [O45, oB_s, Hg isH_46, if_true, k1, cV_s, nI_1]
      rw [← tk_succ] at k2
      obtain ⟨S2, m1, m2⟩ := ih (t + 1) S1 (by omega) k2
      exact ⟨S2, m1, (k3.fs (Or.inl rfl)).tr m2⟩
/-- one tick on the row aside -/
theorem tick1M {S : Nat → Nat → Int32} {X : Xs} {t : Nat} (hX : XOk X) (h : MS S (tk t X.nw)) (ht : t ≤ 100) (sc : Nat × (Nat → Int32)) (d : Nat) : ∃ S', EX sc (d + 6) 167 0 [.ref 359, .int 1, Jk] [] (mk S) = some (none, mk S') ∧ MS S' (tk (t + 1) X.nw) ∧ FM S S' := by
  obtain ⟨S1, k1, k2, k3⟩ := goTicks_spec (N := 1) h (hX.rk.tkk t) (OkT.tkk (n := t) (hX.okT (n := t + 1) (by omega))) (by omega) sc d
  refine ⟨S1, k1, ?_, k3⟩
  rw [tk_succ]
  exact k2.ms
theorem loop189 {X : Xs} (hX : XOk X) {i : Nat} (hi : i < X.nw 0 3) (w : Nat) (hw : w ≤ 1) (sc : Nat × (Nat → Int32)) (d : Nat) : ∀ (n t : Nat) (S : Nat → Nat → Int32), t + n = 61 → MS S (tk t X.nw) → ∃ S', EX sc (d + 7) 189 3 [.ref 359, .int (nI i), .int (nI w), .int (nI t)] [] (mk S) = some (some (.int (fstV (fun t => if w = 0 then decide ((tk t X.nw) 5 i ≠ 20) else decide ((tk t X.nw) 5 i = 21)) n t)), mk S') ∧ FM S S' := by
  intro n
  induction n with
  | zero =>
    intro t S ht h
    refine ⟨S, ?_, FM.rf _⟩
    rw [e189_3, e189_7, if_pos (show (61 : Int32) ≤ nI t from nI_le (a := 61) (by omega) (by omega))]
    rfl
  | succ n ih =>
    intro t S ht h
    have hok : OkT 30 (tk t X.nw) := OkT.tkk (n := t) (hX.okT (by omega))
    obtain ⟨B, hwB⟩ := hok.wf
    have h6 := hok.l6
    have hi' : i < (tk t X.nw) 0 3 := by rw [tk_0 (by omega)]; exact hi
    have h22 := pl_22 hwB hi'
    have e20 : (nI ((tk t X.nw) 5 i) = 20) ↔ (tk t X.nw) 5 i = 20 := nI_eq (b := 20) (by omega) (by omega)
    have e21 : (nI ((tk t X.nw) 5 i) = 21) ↔ (tk t X.nw) 5 i = 21 := nI_eq (b := 21) (by omega) (by omega)
    have p : S 373 i = nI ((tk t X.nw) 5 i) := by
      have := (h.2.1 i hi').1
      rw [plv0 (nvt_tk hX t)] at this
      exact this
    have next : ∃ S', EX sc (d + 7) 189 6 [.ref 359, .int (nI i), .int (nI w), .int (nI t)] [] (mk S) = some (some (.int (fstV (fun t => if w = 0 then decide ((tk t X.nw) 5 i ≠ 20) else decide ((tk t X.nw) 5 i = 21)) n (t + 1))), mk S') ∧ FM S S' := by
      obtain ⟨S1, k1, k2, k3⟩ := tick1M hX h (by omega) sc d
      obtain ⟨S2, m1, m2⟩ := ih (t + 1) S1 (by omega) k2
      refine ⟨S2, ?_, k3.tr m2⟩
      rw [e189_6]
      simp only [O359, if_true, k1, cV_s, nI_1, m1]
    rw [e189_3, if_neg (show ¬ (61 : Int32) ≤ nI t from nI_ge (b := 61) (by omega) (by omega)), e189_4]
    simp only [O359, oB_s, A373_at (S := S) (show i < 32 by omega), p, e189_5]
    have hw0 : (nI w = 0) ↔ w = 0 := nI_eq (b := 0) (by omega) (by omega)
    unfold fstV
    by_cases w0 : w = 0
    · rw [if_pos (hw0.mpr w0), if_pos w0]
      by_cases c : (tk t X.nw) 5 i = 20
      · rw [if_pos (e20.mpr c), if_neg (show ¬ decide ((tk t X.nw) 5 i ≠ 20) = true by simp [c])]
        exact next
      · rw [if_neg (fun q => c (e20.mp q)), if_pos (show decide ((tk t X.nw) 5 i ≠ 20) = true by simp [c])]
        exact ⟨S, rfl, FM.rf _⟩
    · rw [if_neg (fun q => w0 (hw0.mp q)), if_neg w0]
      by_cases c : (tk t X.nw) 5 i = 21
      · rw [if_pos (e21.mpr c), if_pos (show decide ((tk t X.nw) 5 i = 21) = true by simp [c])]
        exact ⟨S, rfl, FM.rf _⟩
      · rw [if_neg (fun q => c (e21.mp q)), if_neg (show ¬ decide ((tk t X.nw) 5 i = 21) = true by simp [c])]
        exact next
theorem fstV_congr {P Q : Nat → Bool} (h : ∀ t, t ≤ 100 → P t = Q t) : ∀ n v, v + n ≤ 100 → fstV P n v = fstV Q n v
  | 0, _, _ => rfl
  | n + 1, v, hv => by
    unfold fstV
    rw [h v (by omega), fstV_congr h n (v + 1) (by omega)]
theorem op_when (sc : Nat × (Nat → Int32)) (x y : Int32) : St2 sc 99 [.ref 0, .int x, .int y] 189 [.ref 359, .int x, .int y, Jk] := by
  rintro S ⟨X, hX, hC, hM⟩
  have h6 := hX.l6
  by_cases c1 : 0 ≤ x ∧ x ≤ nI (X.nw 0 3) - 1
  · by_cases c2 : 0 ≤ y ∧ y ≤ 1
    · obtain ⟨i, hi, rfl⟩ := (toL (by omega)).mp c1
      obtain ⟨w, hw, rfl⟩ := toN (N := 1) (by omega) c2
      have hw0 : (nI w = 0) ↔ w = 0 := nI_eq (b := 0) (by omega) (by omega)
      obtain ⟨S1, k1, k2, k3⟩ := copyFrom_spec hC.now isH_46 (Or.inr (by omega)) sc 36
      have hp2 : 2 ^ i < 64 := by
        have : 2 ^ i < 2 ^ 6 := Nat.pow_lt_pow_right (by omega) (by omega)
        omega
      refine stq (r := fstV (fun t => if w = 0 then decide ((tk t X.nw) 5 i ≠ 20) else decide ((tk t X.nw) 5 i = 21)) 61 0) hX hC hM ?_ (fun T hM1 => ?_)
      · by_cases w0 : w = 0
        · obtain ⟨S2, m1, m2⟩ := loop34 hi (hX.okT (n := 100) (by omega)) sc 34 61 0 S1 (by omega) k2
          refine ⟨S2, ?_, (k3.fs (Or.inl rfl)).tr m2⟩
          rw [e99_0]
          simp only [O0, if_true, isLetterC hC, within_eq, cI_s, ii_0]
          rw [if_pos c1, if_pos c2, e99_2, if_pos (hw0.mpr w0)]
          simp only [O0, O45, oB_s, if_true, e34_0, Hg isH_46, k1, cV_s, show (0 : Int32) = nI 0 from rfl, m1, cI_s, w0]
        · obtain ⟨S2, m1, m2⟩ := loop35 hp2 (hX.okT (n := 100) (by omega)) sc 34 61 0 S1 (by omega) k2
          refine ⟨S2, ?_, (k3.fs (Or.inl rfl)).tr m2⟩
          rw [e99_0]
          simp only [O0, if_true, isLetterC hC, within_eq, cI_s, ii_0]
          rw [if_pos c1, if_pos c2, e99_2, if_neg (fun q => w0 (hw0.mp q)), e99_3, one_I i (by omega)]
          simp only [O0, O45, oB_s, if_true, e35_0, Hg isH_46, k1, cV_s, show (0 : Int32) = nI 0 from rfl, m1, cI_s]
          rw [fstV_congr (Q := fun t => if w = 0 then decide ((tk t X.nw) 5 i ≠ 20) else decide ((tk t X.nw) 5 i = 21)) (fun t ht => by
            show decide _ = _
            rw [if_neg w0]
            have hok : OkT 30 (tk t X.nw) := OkT.tkk (n := t) (hX.okT (by omega))
            exact decide_eq_decide.mpr (one_bit hok.l6 (by rw [tk_0 (by omega)]; exact hi))) 61 0 (by omega)]
      · obtain ⟨T1, a1, a2, a3⟩ := aside_spec hM1.stat hM1.now h6 sc 37
        obtain ⟨T2, m1, m2⟩ := loop189 hX hi w hw sc 32 61 0 T1 (by omega) a2
        refine ⟨T2, ?_, a3.fm.fn.tr m2.fn⟩
        rw [e189_0]
        simp only [O359, if_true, isLetterM hM1.stat, fun S => inL sc (nI w) 0 1 0 1 S 37 rfl rfl, cI_s, ii_0]
        rw [if_pos c1, if_pos c2, e189_2]
        simp only [O359, if_true, a1, cV_s]
        exact m1
    · refine ⟨-1000001, S, S, ?_, ?_, X, hX, hC, hM⟩
      · rw [e99_0]
        simp only [O0, if_true, isLetterC hC, within_eq, cI_s, ii_0]
        rw [if_pos c1, if_neg c2, e99_1]
      · rw [e189_0]
        simp only [O359, if_true, isLetterM hM.stat, fun S => inL sc y 0 1 0 1 S 37 rfl rfl, cI_s, ii_0]
        rw [if_pos c1, if_neg c2, e189_1]
  · refine ⟨-1000001, S, S, ?_, ?_, X, hX, hC, hM⟩
    · rw [e99_0]
      simp only [O0, if_true, isLetterC hC, within_eq, cI_s, ii_0]
      rw [if_neg c1, e99_1]
    · rw [e189_0]
      simp only [O359, if_true, isLetterM hM.stat, cI_s, ii_0]
      rw [if_neg c1, e189_1]
theorem loop190 {X : Xs} (hX : XOk X) (sc : Nat × (Nat → Int32)) (d : Nat) : ∀ (n t : Nat) (S : Nat → Nat → Int32), t + n = 61 → MS S (tk t X.nw) → ∃ S', EX sc (d + 7) 190 2 [.ref 359, .int (nI t)] [] (mk S) = some (some (.int (fstV (fun t => decide (outB (tk t X.nw) = 0)) n t)), mk S') ∧ FM S S' := by
  intro n
  induction n with
  | zero =>
    intro t S ht h
    refine ⟨S, ?_, FM.rf _⟩
    rw [e190_2, e190_4, if_pos (show (61 : Int32) ≤ nI t from nI_le (a := 61) (by omega) (by omega))]
    rfl
  | succ n ih =>
    intro t S ht h
    have hok : OkT 30 (tk t X.nw) := OkT.tkk (n := t) (hX.okT (by omega))
    obtain ⟨B, hwB⟩ := hok.wf
    have h6 := hok.l6
    have l1 := ly_lt h6 21
    have l2 := two63 h6
    have e0 : (nI (ly (tk t X.nw) 21) = nI (2 ^ (tk t X.nw) 0 3 - 1)) ↔ outB (tk t X.nw) = 0 := by
      rw [nI_eq (by omega) (by omega)]
      exact out_ly h6
    rw [e190_2, if_neg (show ¬ (61 : Int32) ≤ nI t from nI_ge (b := 61) (by omega) (by omega))]
    simp only [O359, if_true, boxed_spec h hwB, cI_s, everyone_eq h.1 h6]
    unfold fstV
    by_cases c : outB (tk t X.nw) = 0
    · rw [if_pos (e0.mpr c), if_pos (show decide (outB (tk t X.nw) = 0) = true by simp [c])]
      exact ⟨S, rfl, FM.rf _⟩
    · rw [if_neg (fun q => c (e0.mp q)), if_neg (show ¬ decide (outB (tk t X.nw) = 0) = true by simp [c]), e190_3]
      obtain ⟨S1, k1, k2, k3⟩ := tick1M hX h (by omega) sc d
      obtain ⟨S2, m1, m2⟩ := ih (t + 1) S1 (by omega) k2
      refine ⟨S2, ?_, k3.tr m2⟩
      simp only [O359, if_true, k1, cV_s, nI_1, m1]
theorem op_over (sc : Nat × (Nat → Int32)) : St2 sc 100 [.ref 0] 190 [.ref 359, Jk] := by
  rintro S ⟨X, hX, hC, hM⟩
  have h6 := hX.l6
  by_cases c0 : X.nw 0 3 = 0
  · refine ⟨-1000002, S, S, ?_, ?_, X, hX, hC, hM⟩
    · rw [e100_0]
      simp only [O0, if_true, hasNoC hC hX, cI_s, ii_0]
      rw [if_pos c0]
    · rw [e190_0]
      simp only [O359, oB_s]
      rw [if_pos ((hasM hM).mpr c0)]
  · obtain ⟨S1, k1, k2, k3⟩ := copyFrom_spec hC.now isH_46 (Or.inr (by omega)) sc 36
    refine stq (r := fstV (fun t => decide (outB (tk t X.nw) = 0)) 61 0) hX hC hM ?_ (fun T hM1 => ?_)
    · obtain ⟨S2, m1, m2⟩ := loop35 (two63 h6) (hX.okT (n := 100) (by omega)) sc 34 61 0 S1 (by omega) k2
      refine ⟨S2, ?_, (k3.fs (Or.inl rfl)).tr m2⟩
      rw [e100_0]
      simp only [O0, if_true, hasNoC hC hX, cI_s, ii_0]
      rw [if_neg c0, e100_1]
      simp only [O0, O45, oB_s, if_true, Hg isH_23, allLetters_eq hC.now h6, cI_s, e35_0, Hg isH_46, k1, cV_s, show (0 : Int32) = nI 0 from rfl, m1]
      rw [fstV_congr (Q := fun t => decide (outB (tk t X.nw) = 0)) (fun t ht => by
        show decide _ = decide _
        unfold outB
        rw [tk_0 (by omega)]) 61 0 (by omega)]
    · obtain ⟨T1, a1, a2, a3⟩ := aside_spec hM1.stat hM1.now h6 sc 37
      obtain ⟨T2, m1, m2⟩ := loop190 hX sc 32 61 0 T1 (by omega) a2
      refine ⟨T2, ?_, a3.fm.fn.tr m2.fn⟩
      rw [e190_0]
      simp only [O359, oB_s]
      rw [if_neg (fun q => c0 ((hasM hM1).mp q)), e190_1]
      simp only [O359, if_true, a1, cV_s]
      exact m1
