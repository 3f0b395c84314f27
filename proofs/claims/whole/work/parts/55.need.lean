/-! need, floor, letter -/
theorem OkT_wide {n v : Nat} {a : Hs} (h : OkT n a) (hv : v ≤ 100) : OkT n (upA a 0 1 v) := by
  obtain ⟨B, w, h2, h3, h4⟩ := h
  refine ⟨B, ⟨w.1, w.2.1, ?_, w.2.2.2.1, w.2.2.2.2.1, w.2.2.2.2.2⟩, h2, h3, h4⟩
  rw [upA_same]
  exact hv
theorem MS_wide {S : Nat → Nat → Int32} {a : Hs} (h : MS S a) (h6 : a 0 3 ≤ 6) (v : Nat) : MS (up S 373 30 (nI v)) (upA a 0 1 v) := by
  obtain ⟨h1, h2, h3, h4⟩ := h
  have g : MSt (up S 373 30 (nI v)) a := h1.fm RC.up.fm
  refine ⟨g, fun l hl => ?_, ?_, ?_⟩
  · have hl' : l < a 0 3 := hl
    obtain ⟨q1, q2, q3, q4, q5⟩ := h2 l hl'
    rw [up_ne (by omega), up_ne (by omega), up_ne (by omega), up_ne (by omega), up_ne (by omega)]
    exact ⟨q1, q2, q3, q4, q5⟩
  · rw [up_same, upA_same]
  · rw [up_ne (by omega)]; exact h4
def needP (a : Hs) (n v : Nat) : Bool := decide (outB (tk n (upA a 0 1 v)) = 0)
theorem loop40 {a : Hs} {m : Nat} (hm : m ≤ 40) (hw : OkT 100 a) (sc : Nat × (Nat → Int32)) (d : Nat) : ∀ (n v : Nat) (S : Nat → Nat → Int32), v + n = 21 → HR S 23 a → ∃ S', EX sc (d + 5) 40 1 [.ref 45, .ref 23, .int (nI m), .int (nI v)] [] (mk S) = some (some (.int (fstV (needP a m) n v)), mk S') ∧ FS S S' := by
  intro n
  induction n with
  | zero =>
    intro v S hv h
    refine ⟨S, ?_, FS.rf _⟩
    rw [e40_1, e40_3, if_pos (show (20 : Int32) < nI v from nI_lt (a := 20) (by omega) (by omega))]
    rfl
  | succ n ih =>
    intro v S hv h
    obtain ⟨S1, k1, k2, k3⟩ := copyFrom_spec h isH_46 (Or.inr (by omega)) sc (d + 3)
    have k4 : HR (up S1 46 1 (nI v)) 46 (upA a 0 1 v) := HR_sc k2 (by omega)
    have hok : OkT m (upA a 0 1 v) := OkT_wide (hw.le (by omega)) (by omega)
    obtain ⟨S2, m1, m2, m3⟩ := pass_eq k4 hok (by omega) sc d
    obtain ⟨t, ht⟩ := ptk_eq m _ hok
    rw [ht] at m2
    have h6 : (upA (tk m (upA a 0 1 v)) 0 2 t) 0 3 ≤ 6 := by
      rw [upA_ne (by omega), tk_0 (by omega), upA_ne (by omega)]
      exact hw.l6
    have hlo := lettersOutside_eq m2 h6 sc (d + 2)
    rw [outB_t] at hlo
    have hlt : outB (tk m (upA a 0 1 v)) < 64 := by
      have := outB_lt h6
      rw [outB_t] at this
      exact this
    have hfs : FS S S2 := ((k3.fs (Or.inl rfl)).tr (Fr.fs (p := 46) (fun k hk => up_row_ne (by omega)) (Or.inl rfl))).tr (m3.fs (Or.inl rfl))
    have h23 : HR S2 23 a := h.cg (fun k a b => hfs.1 k (by omega) (by omega) (by omega))
    have e0 : (nI (outB (tk m (upA a 0 1 v))) = 0) ↔ outB (tk m (upA a 0 1 v)) = 0 := nI_eq (b := 0) (by omega) (by omega)
    rw [e40_1, if_neg (show ¬ (20 : Int32) < nI v from nI_nlt (a := 20) (by omega) (by omega))]
    simp only [O45, oB_s, Hg isH_46, if_true, k1, cV_s, Hp isH_46, m1, hlo, cI_s]
    unfold fstV needP
    by_cases c : outB (tk m (upA a 0 1 v)) = 0
    · rw [if_pos (e0.mpr c), if_pos (show decide (outB (tk m (upA a 0 1 v)) = 0) = true by simp [c])]
      exact ⟨S2, rfl, hfs⟩
    · rw [if_neg (fun q => c (e0.mp q)), if_neg (show ¬ decide (outB (tk m (upA a 0 1 v)) = 0) = true by simp [c]), e40_2, nI_1]
      obtain ⟨S3, p1, p2⟩ := ih (v + 1) S2 (by omega) h23
      exact ⟨S3, p1, hfs.tr p2⟩
theorem loop193 {X : Xs} (hX : XOk X) {m : Nat} (hm : m ≤ 40) (sc : Nat × (Nat → Int32)) (d : Nat) : ∀ (n v : Nat) (S : Nat → Nat → Int32), v + n = 21 → MP S X → ∃ S', EX sc (d + 7) 193 3 [.ref 359, .int (nI m), .int (nI v)] [] (mk S) = some (some (.int (fstV (needP X.nw m) n v)), mk S') ∧ FN S S' := by
  intro n
  induction n with
  | zero =>
    intro v S hv h
    refine ⟨S, ?_, FN.rf _⟩
    rw [e193_3, e193_5, if_pos (show (21 : Int32) ≤ nI v from nI_le (a := 21) (by omega) (by omega))]
    rfl
  | succ n ih =>
    intro v S hv h
    have hl6 := hX.l6
    obtain ⟨T1, a1, a2, a3⟩ := aside_spec h.stat h.now hl6 sc (d + 5)
    have ms := MS_wide a2 hl6 v
    have hok : OkT m (upA X.nw 0 1 v) := OkT_wide (hX.okT (by omega)) (by omega)
    obtain ⟨T2, b1, b2, b3⟩ := goTicks_spec ms hX.rk hok (by omega) sc d
    obtain ⟨B, hwB⟩ := (OkT.tkk (n := m) (m := 0) hok).wf
    have h6 := hwB.1
    have hfn : FN S T2 := (a3.fm.fn.tr (RC.up (j := 30) (x := nI v)).fm.fn).tr b3.fn
    have l1 := ly_lt h6 21
    have l2 := two63 h6
    have e0 : (nI (ly (tk m (upA X.nw 0 1 v)) 21) = nI (2 ^ (tk m (upA X.nw 0 1 v)) 0 3 - 1)) ↔ outB (tk m (upA X.nw 0 1 v)) = 0 := by
      rw [nI_eq (by omega) (by omega)]
      exact out_ly h6
    rw [e193_3, if_neg (show ¬ (21 : Int32) ≤ nI v from nI_ge (b := 21) (by omega) (by omega))]
    simp only [O359, if_true, a1, cV_s, oB_s, show (30 : Int32) = nI 30 from rfl, A373_st (S := T1) (show 30 < 32 by omega), b1, boxed_spec b2.ms hwB, cI_s, everyone_eq b2.1 h6]
    unfold fstV needP
    by_cases c : outB (tk m (upA X.nw 0 1 v)) = 0
    · rw [if_pos (e0.mpr c), if_pos (show decide (outB (tk m (upA X.nw 0 1 v)) = 0) = true by simp [c])]
      exact ⟨T2, rfl, hfn⟩
    · rw [if_neg (fun q => c (e0.mp q)), if_neg (show ¬ decide (outB (tk m (upA X.nw 0 1 v)) = 0) = true by simp [c]), e193_4, nI_1]
      obtain ⟨S3, p1, p2⟩ := ih (v + 1) T2 (by omega) (h.fn hX hfn)
      exact ⟨S3, p1, hfn.tr p2⟩
theorem op_need (sc : Nat × (Nat → Int32)) (x : Int32) : St2 sc 102 [.ref 0, .int x] 193 [.ref 359, .int x, Jk] := by
  rintro S ⟨X, hX, hC, hM⟩
  by_cases c0 : X.nw 0 3 = 0
  · refine ⟨-1000002, S, S, ?_, ?_, X, hX, hC, hM⟩
    · rw [e102_0]
      simp only [O0, if_true, hasNoC hC hX, cI_s, ii_0]
      rw [if_pos c0]
    · rw [e193_0]
      simp only [O359, oB_s]
      rw [if_pos ((hasM hM).mpr c0)]
  · by_cases c : (1 : Int32) ≤ x ∧ x ≤ 40
    · obtain ⟨m, hm1, hm2, rfl⟩ := toN2 (l := 1) (N := 40) (by omega) (by omega) c
      obtain ⟨S1, k1, k2⟩ := loop40 hm2 (hX.okT (n := 100) (by omega)) sc 33 19 2 S (by omega) hC.now
      refine stq (r := fstV (needP X.nw m) 19 2) hX hC hM ⟨S1, ?_, k2⟩ (fun T hM1 => ?_)
      · rw [e102_0]
        simp only [O0, if_true, hasNoC hC hX, cI_s, ii_0]
        rw [if_neg c0, e102_1, within_eq, cI_s, ii_0, if_pos c, e102_2]
        simp only [O0, O45, oB_s, if_true, e40_0, show (2 : Int32) = nI 2 from rfl, k1, cI_s]
      · obtain ⟨T1, m1, m2⟩ := loop193 hX hm2 sc 32 19 2 T (by omega) hM1
        refine ⟨T1, ?_, m2⟩
        rw [e193_0]
        simp only [O359, oB_s]
        rw [if_neg (fun q => c0 ((hasM hM1).mp q)), e193_1, inL sc (nI m) 1 40 1 40 T 37 rfl rfl, cI_s, ii_0, if_pos c, e193_2]
        exact m1
    · refine ⟨-1000001, S, S, ?_, ?_, X, hX, hC, hM⟩
      · rw [e102_0]
        simp only [O0, if_true, hasNoC hC hX, cI_s, ii_0]
        rw [if_neg c0, e102_1, within_eq, cI_s, ii_0, if_neg c]
      · rw [e193_0]
        simp only [O359, oB_s]
        rw [if_neg (fun q => c0 ((hasM hM).mp q)), e193_1, inL sc x 1 40 1 40 S 37 rfl rfl, cI_s, ii_0, if_neg c]
theorem floorM_eq {S : Nat → Nat → Int32} {X : Xs} (hX : XOk X) (h : MP S X) {f : Nat} (hf : f < 20) (w : Int32) (sc : Nat × (Nat → Int32)) (d : Nat) : EX sc (d + 1) 183 3 [.ref 359, .int (nI f), .int w, .int 0, .int 0] [] (mk S) = EX sc (d + 1) 183 6 [.ref 359, .int (nI f), .int w, .int (nI (ly X.nw f)), Jk] [] (mk S) := by
  have h6 := hX.l6
  have hw := hX.wf
  have loop : ∀ n i, i + n = X.nw 0 3 → EX sc (d + 1) 183 3 [.ref 359, .int (nI f), .int w, .int (nI (lyN (X.nw 5) f i)), .int (nI i)] [] (mk S) = EX sc (d + 1) 183 6 [.ref 359, .int (nI f), .int w, .int (nI (ly X.nw f)), Jk] [] (mk S) := by
    intro n
    induction n with
    | zero =>
      intro i hi
      rw [e183_3]
      simp only [O359, oB_s, h.stat.2.1]
      rw [if_pos (nI_le (by omega) (by omega)), show i = X.nw 0 3 by omega]
      rfl
    | succ n ih =>
      intro i hi
      have hn := ih (i + 1) (by omega)
      have hp := pl_22 hw (show i < X.nw 0 3 by omega)
      have hr : S 365 i = nI (X.nw 5 i) := by
        have := (h.now.1 i (by omega)).1
        rw [plv0 hX.nv] at this
        exact this
      rw [e183_3]
      simp only [O359, oB_s, h.stat.2.1, A365_at (S := S) (show i < 32 by omega), hr]
      rw [if_neg (nI_ge (by omega) (by omega)), e183_4, e183_5, e183_5, nI_1, or_I _ (lyN_64 (by omega)) i (by omega), or_0, set_add (lyN_lt _ _ _)]
      have e : (nI (X.nw 5 i) = nI f) ↔ X.nw 5 i = f := nI_eq (by omega) (by omega)
      unfold lyN at hn
      by_cases c : X.nw 5 i = f
      · rw [if_pos (e.mpr c)]
        rw [if_pos c] at hn
        exact hn
      · rw [if_neg (fun q => c (e.mp q))]
        rw [if_neg c, Nat.add_zero] at hn
        exact hn
  exact loop (X.nw 0 3) 0 (by omega)
theorem op_floor (sc : Nat × (Nat → Int32)) (x y : Int32) : St2 sc 94 [.ref 0, .int x, .int y] 183 [.ref 359, .int x, .int y, Jk, Jk] := by
  rintro S ⟨X, hX, hC, hM⟩
  have h6 := hX.l6
  have hw := hX.wf
  have h9 := hw.2.1
  by_cases c1 : 0 ≤ x ∧ x ≤ nI (X.nw 0 0) - 1
  · by_cases c2 : 0 ≤ y ∧ y ≤ 1
    · obtain ⟨f, hf, rfl⟩ := (toL (by omega)).mp c1
      obtain ⟨w, hw1, rfl⟩ := toN (N := 1) (by omega) c2
      have hw0 : (nI w = 0) ↔ w = 0 := nI_eq (b := 0) (by omega) (by omega)
      refine stq (r := if w = 0 then nI (ld X.nw f) else nI (ly X.nw f)) hX hC hM ⟨S, ?_, FS.rf _⟩ (fun T hM1 => ?_)
      · rw [e94_0]
        simp only [O0, if_true, isFloorC hC, within_eq, cI_s, ii_0]
        rw [if_pos c1, if_pos c2, e94_2, e94_3]
        simp only [O0, oB_s, Hg isH_23, fun S => HA2 isH_23 S (show f < 22 by omega), hC.now.2.2.2.1 f (by omega), hC.now.2.2.2.2 f (by omega), hw0]
        by_cases w0 : w = 0
        · rw [if_pos w0, if_pos w0]
        · rw [if_neg w0, if_neg w0]
      · obtain ⟨T1, a1, a2, a3⟩ := aside_spec hM1.stat hM1.now h6 sc 37
        refine ⟨T1, ?_, a3.fm.fn⟩
        rw [e183_0]
        simp only [O359, if_true, isFloorM hM1.stat, fun S => inL sc (nI w) 0 1 0 1 S 37 rfl rfl, cI_s, ii_0]
        rw [if_pos c1, if_pos c2, e183_2]
        simp only [O359, if_true, a1, cV_s]
        rw [floorM_eq hX (hM1.fn hX a3.fm.fn) (by omega), e183_6, e183_7]
        simp only [O359, if_true, fullNone_eq a2.q hw (show f < 20 by omega) sc 36, cI_s, hw0]
        by_cases w0 : w = 0
        · rw [if_pos w0, if_pos w0]
        · rw [if_neg w0, if_neg w0]
    · refine ⟨-1000001, S, S, ?_, ?_, X, hX, hC, hM⟩
      · rw [e94_0]
        simp only [O0, if_true, isFloorC hC, within_eq, cI_s, ii_0]
        rw [if_pos c1, if_neg c2, e94_1]
      · rw [e183_0]
        simp only [O359, if_true, isFloorM hM.stat, fun S => inL sc y 0 1 0 1 S 37 rfl rfl, cI_s, ii_0]
        rw [if_pos c1, if_neg c2, e183_1]
  · refine ⟨-1000001, S, S, ?_, ?_, X, hX, hC, hM⟩
    · rw [e94_0]
      simp only [O0, if_true, isFloorC hC, within_eq, cI_s, ii_0]
      rw [if_neg c1, e94_1]
    · rw [e183_0]
      simp only [O359, if_true, isFloorM hM.stat, cI_s, ii_0]
      rw [if_neg c1, e183_1]
theorem op_letter (sc : Nat × (Nat → Int32)) (x y : Int32) : St2 sc 93 [.ref 0, .int x, .int y] 182 [.ref 359, .int x, .int y] := by
  rintro S ⟨X, hX, hC, hM⟩
  have h6 := hX.l6
  have hw := hX.wf
  by_cases c1 : 0 ≤ x ∧ x ≤ nI (X.nw 0 3) - 1
  · obtain ⟨i, hi, rfl⟩ := (toL (by omega)).mp c1
    have hb : ¬ nI i = -1000000 := by
      have : ∀ k, k < 6 → ¬ nI k = -1000000 := by decide
      exact this i (by omega)
    by_cases c2 : 0 ≤ y ∧ y ≤ 6
    · obtain ⟨w, hw1, rfl⟩ := toN (N := 6) (by omega) c2
      have cc : ∀ r : Int32, EX sc 39 93 1 [.ref 0, .int (nI i), .int (nI w)] [] (mk S) = some (some (.int r), mk S) → (∀ T, MP T X → MS T X.nw → (if Int32.toInt (nI w) = (0 : Nat) then EX sc 39 182 3 [.ref 359, .int (nI i), Jk] [] (mk T) else if Int32.toInt (nI w) = (1 : Nat) then EX sc 39 182 4 [.ref 359, .int (nI i), Jk] [] (mk T) else if Int32.toInt (nI w) = (2 : Nat) then EX sc 39 182 5 [.ref 359, .int (nI i), Jk] [] (mk T) else if Int32.toInt (nI w) = (3 : Nat) then EX sc 39 182 6 [.ref 359, .int (nI i), Jk] [] (mk T) else if Int32.toInt (nI w) = (4 : Nat) then EX sc 39 182 7 [.ref 359, .int (nI i), Jk] [] (mk T) else if Int32.toInt (nI w) = (5 : Nat) then EX sc 39 182 8 [.ref 359, .int (nI i), Jk] [] (mk T) else EX sc 39 182 9 [.ref 359, .int (nI i), Jk] [] (mk T)) = some (some (.int r), mk T)) → ∃ r S1 S2, EX sc 39 93 0 [.ref 0, .int (nI i), .int (nI w)] [] (mk S) = some (some (.int r), mk S1) ∧ EX sc 39 182 0 [.ref 359, .int (nI i), .int (nI w)] [] (mk S1) = some (some (.int r), mk S2) ∧ Inv S2 := by
        intro r h1 h2
        refine stq (r := r) hX hC hM ⟨S, ?_, FS.rf _⟩ (fun T hM1 => ?_)
        · rw [e93_0]
          simp only [O0, if_true, isLetterC hC, cI_s, ii_0]
          rw [if_pos c1]
          exact h1
        · obtain ⟨T1, a1, a2, a3⟩ := aside_spec hM1.stat hM1.now h6 sc 37
          refine ⟨T1, ?_, a3.fm.fn⟩
          rw [e182_0]
          simp only [O359, if_true, isLetterM hM1.stat, fun S => inL sc (nI w) 0 6 0 6 S 37 rfl rfl, cI_s, ii_0]
          rw [if_pos c1, if_pos c2, e182_2]
          simp only [O359, if_true, a1, cV_s]
          exact h2 T1 (hM1.fn hX a3.fm.fn) a2
      have pc : ∀ o, 1 ≤ o → o ≤ 8 → S (23 + o) i = nI (X.nw o i) := fun o h1 h2 => pl_I hC.now h1 h2 (by omega)
      have p2 : S 25 i = nI (X.nw 2 i) := pc 2 (by omega) (by omega)
      have p3 : S 26 i = nI (X.nw 3 i) := pc 3 (by omega) (by omega)
      have p4 : S 27 i = nI (X.nw 4 i) := pc 4 (by omega) (by omega)
      have p5 : S 28 i = nI (X.nw 5 i) := pc 5 (by omega) (by omega)
      have p6 : S 29 i = nI (X.nw 6 i) := pc 6 (by omega) (by omega)
      have p7 : S 30 i = nI (X.nw 7 i) := pc 7 (by omega) (by omega)
      have e1 : ∀ b : Nat, ∀ x : Int32, x = nI b → x + nI i = nI (b + i) := fun b x hx => by rw [hx, nI_add]
      have rw5 : ∀ T, MP T X → T 365 i = nI (X.nw 5 i) ∧ T 365 (6 + i) = nI (X.nw 6 i) ∧ T 365 (12 + i) = nI (X.nw 7 i) ∧ T 365 (18 + i) = nI (X.nw 4 i) ∧ T 365 (24 + i) = nI (X.nw 2 i) ∧ T 364 i = nI (X.nw 3 i) := by
        intro T hM1
        obtain ⟨q1, q2, q3, q4, q5⟩ := hM1.now.1 i hi
        rw [plv0 hX.nv] at q1
        have := (hM1.stat.2.2 i hi).2
        rw [hM1.none, if_neg hb] at this
        exact ⟨q1, q2, q3, q4, q5, this⟩
      match w, hw1, cc with
      | 0, _, cc =>
        refine cc (nI (X.nw 2 i)) ?_ (fun T hM1 ms => ?_)
        · rw [e93_1, if_pos (by decide), e93_2]
          simp only [O0, oB_s, Hg isH_23, fun S => HA isH_23 S (show i < 6 by omega), p2]
        · rw [if_pos (by decide), e182_3]
          simp only [O359, oB_s, e1 24 24 rfl, A365_at (S := T) (show 24 + i < 32 by omega), (rw5 T hM1).2.2.2.2.1]
      | 1, _, cc =>
        refine cc (nI (X.nw 3 i)) ?_ (fun T hM1 ms => ?_)
        · rw [e93_1, if_neg (by decide), if_pos (by decide), e93_3]
          simp only [O0, oB_s, Hg isH_23, fun S => HA isH_23 S (show i < 6 by omega), p3]
        · rw [if_neg (by decide), if_pos (by decide), e182_4]
          simp only [O359, oB_s, aI_at (S := T) A364 (show i < 6 by omega) (by omega), (rw5 T hM1).2.2.2.2.2]
      | 2, _, cc =>
        refine cc (nI (X.nw 4 i)) ?_ (fun T hM1 ms => ?_)
        · rw [e93_1, if_neg (by decide), if_neg (by decide), if_pos (by decide), e93_4]
          simp only [O0, oB_s, Hg isH_23, fun S => HA isH_23 S (show i < 6 by omega), p4]
        · rw [if_neg (by decide), if_neg (by decide), if_pos (by decide), e182_5]
          simp only [O359, oB_s, e1 18 18 rfl, A365_at (S := T) (show 18 + i < 32 by omega), (rw5 T hM1).2.2.2.1]
      | 3, _, cc =>
        refine cc (nI (X.nw 5 i)) ?_ (fun T hM1 ms => ?_)
        · rw [e93_1, if_neg (by decide), if_neg (by decide), if_neg (by decide), if_pos (by decide), e93_5]
          simp only [O0, oB_s, Hg isH_23, fun S => HA isH_23 S (show i < 6 by omega), p5]
        · rw [if_neg (by decide), if_neg (by decide), if_neg (by decide), if_pos (by decide), e182_6]
          simp only [O359, oB_s, A365_at (S := T) (show i < 32 by omega), (rw5 T hM1).1]
      | 4, _, cc =>
        refine cc (nI (X.nw 6 i)) ?_ (fun T hM1 ms => ?_)
        · rw [e93_1, if_neg (by decide), if_neg (by decide), if_neg (by decide), if_neg (by decide), if_pos (by decide), e93_6]
          simp only [O0, oB_s, Hg isH_23, fun S => HA isH_23 S (show i < 6 by omega), p6]
        · rw [if_neg (by decide), if_neg (by decide), if_neg (by decide), if_neg (by decide), if_pos (by decide), e182_7]
          simp only [O359, oB_s, e1 6 6 rfl, A365_at (S := T) (show 6 + i < 32 by omega), (rw5 T hM1).2.1]
      | 5, _, cc =>
        refine cc (nI (X.nw 7 i)) ?_ (fun T hM1 ms => ?_)
        · rw [e93_1, if_neg (by decide), if_neg (by decide), if_neg (by decide), if_neg (by decide), if_neg (by decide), if_pos (by decide), e93_7]
          simp only [O0, oB_s, Hg isH_23, fun S => HA isH_23 S (show i < 6 by omega), p7]
        · rw [if_neg (by decide), if_neg (by decide), if_neg (by decide), if_neg (by decide), if_neg (by decide), if_pos (by decide), e182_8]
          simp only [O359, oB_s, e1 12 12 rfl, A365_at (S := T) (show 12 + i < 32 by omega), (rw5 T hM1).2.2.1]
      | 6, _, cc =>
        refine cc (if X.nw 5 i < 20 then nI (fallS X.nw i) else 0) ?_ (fun T hM1 ms => ?_)
        · rw [e93_1, if_neg (by decide), if_neg (by decide), if_neg (by decide), if_neg (by decide), if_neg (by decide), if_neg (by decide), if_pos (by decide), e93_8]
          simp only [O0, oB_s, Hg isH_23, if_true, isInShaft_eq hC.now hw hi, cI_s, ii_0, e93_9, floorsToFall_eq hC.now hw (show 54 * X.nw 0 2 ≤ 1000000 by have := hX.tk; omega) hi sc 37]
          by_cases c : X.nw 5 i < 20
          · rw [if_pos c, if_pos c]
          · rw [if_neg c, if_neg c]
        · rw [if_neg (by decide), if_neg (by decide), if_neg (by decide), if_neg (by decide), if_neg (by decide), if_neg (by decide), e182_9]
          simp only [O359, if_true, isShaft_eq ms hw hi, cI_s, ii_0, e182_10]
          by_cases c : X.nw 5 i < 20
          · rw [if_pos c, if_pos c, fallOf_eq ms.q hw (show 54 * X.nw 0 2 ≤ 1000000 by have := hX.tk; omega) hi c sc 36, cI_s]
          · rw [if_neg c, if_neg c]
    · refine ⟨-1000001, S, S, ?_, ?_, X, hX, hC, hM⟩
      · have ne : ∀ k : Nat, k ≤ 6 → ¬ Int32.toInt y = (k : Nat) := fun k hk q => c2 ⟨by rw [Int32.le_iff_toInt_le, show (0 : Int32).toInt = 0 from rfl]; omega, by rw [Int32.le_iff_toInt_le, show (6 : Int32).toInt = 6 from rfl]; omega⟩
        rw [e93_0]
        simp only [O0, if_true, isLetterC hC, cI_s, ii_0]
        rw [if_pos c1, e93_1, if_neg (ne 0 (by omega)), if_neg (ne 1 (by omega)), if_neg (ne 2 (by omega)), if_neg (ne 3 (by omega)), if_neg (ne 4 (by omega)), if_neg (ne 5 (by omega)), if_neg (ne 6 (by omega)), e93_10]
      · rw [e182_0]
        simp only [O359, if_true, isLetterM hM.stat, fun S => inL sc y 0 6 0 6 S 37 rfl rfl, cI_s, ii_0]
        rw [if_pos c1, if_neg c2, e182_1]
  · refine ⟨-1000001, S, S, ?_, ?_, X, hX, hC, hM⟩
    · rw [e93_0]
      simp only [O0, if_true, isLetterC hC, cI_s, ii_0]
      rw [if_neg c1]
    · rw [e182_0]
      simp only [O359, if_true, isLetterM hM.stat, cI_s, ii_0]
      rw [if_neg c1, e182_1]
