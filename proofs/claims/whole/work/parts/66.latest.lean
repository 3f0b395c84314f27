/-! latest: the call -/
def fD (P : Nat → Bool) (lo : Nat) : Nat → Int32
  | 0 => -1000000
  | n + 1 => if P (lo + n) = true then nI (lo + n) else fD P lo n
theorem fD_skip {P : Nat → Bool} {lo m : Nat} : ∀ n, m ≤ n → (∀ s, lo + m ≤ s → s < lo + n → P s = false) → fD P lo n = fD P lo m
  | 0, h, _ => by rw [show m = 0 by omega]
  | n + 1, h, hp => by
    by_cases e : m = n + 1
    · rw [e]
    · show (if P (lo + n) = true then nI (lo + n) else fD P lo n) = _
      rw [if_neg (by rw [hp (lo + n) (by omega) (by omega)]; decide)]
      exact fD_skip n (by omega) (fun s h1 h2 => hp s h1 (by omega))
theorem fD_low {P : Nat → Bool} {lo : Nat} (h : ∀ s, s < lo → P s = P lo) : ∀ k, fD P 0 (lo + (k + 1)) = fD P lo (k + 1)
  | 0 => by
    show (if P (0 + lo) = true then nI (0 + lo) else fD P 0 lo) = (if P (lo + 0) = true then nI (lo + 0) else -1000000)
    rw [Nat.zero_add, Nat.add_zero]
    by_cases c : P lo = true
    · rw [if_pos c, if_pos c]
    · rw [if_neg c, if_neg c]
      have := fD_skip (P := P) (lo := 0) (m := 0) lo (by omega) (fun s _ hs => by rw [h s (by omega)]; simpa using c)
      rw [this]
      rfl
  | k + 1 => by
    show (if P (0 + (lo + (k + 1))) = true then nI (0 + (lo + (k + 1))) else fD P 0 (lo + (k + 1))) = (if P (lo + (k + 1)) = true then nI (lo + (k + 1)) else fD P lo (k + 1))
    rw [Nat.zero_add, fD_low h k]
def latP (a : Hs) (l n s : Nat) : Bool := decide ((tk n (upA a 4 l s)) 5 l = 21)
theorem addm1 (x : Int32) : x + (-1) = x - 1 := (Int32.sub_eq_add_neg x 1).symm
theorem subm1 (n : Nat) (hn : n < 1000) : nI n - 1 < nI n := by
  rw [Int32.lt_iff_toInt_lt, nI_toInt (by omega), show nI n - 1 = nI n - nI 1 from rfl, pk_sub_toInt (by omega) (by omega)]
  omega
theorem OkT_4 {n v l : Nat} {a : Hs} (h : OkT n a) (hv : v ≤ 5000) : OkT n (upA a 4 l v) := by
  obtain ⟨B, w, h2, h3, h4⟩ := h
  refine ⟨B, ⟨w.1, w.2.1, w.2.2.1, w.2.2.2.1, w.2.2.2.2.1, fun i hi => ?_⟩, h2, h3, h4⟩
  obtain ⟨q1, q2, q3, q4, q5, q6, q7, q8⟩ := w.2.2.2.2.2 i hi
  refine ⟨q1, q2, q3, ?_, q5, q6, q7, q8⟩
  rw [upA_at]
  split <;> omega
theorem MS_4 {S : Nat → Nat → Int32} {a : Hs} (h : MS S a) (h6 : a 0 3 ≤ 6) {l : Nat} (hl : l < a 0 3) (v : Nat) : MS (up S 373 (18 + l) (nI v)) (upA a 4 l v) := by
  obtain ⟨h1, h2, h3, h4⟩ := h
  have g : MSt (up S 373 (18 + l) (nI v)) a := h1.fm RC.up.fm
  refine ⟨g, fun i hi => ?_, ?_, ?_⟩
  · have hi' : i < a 0 3 := hi
    obtain ⟨q1, q2, q3, q4, q5⟩ := h2 i hi'
    rw [up_ne (by omega), up_ne (by omega), up_ne (by omega), up_at, up_ne (by omega)]
    refine ⟨q1, q2, q3, ?_, q5⟩
    by_cases e : i = l
    · rw [if_pos ⟨rfl, by omega⟩, e, upA_same]
    · rw [if_neg (by omega), upA_ne (fun z => e z.2)]; exact q4
  · rw [up_ne (by omega)]; exact h3
  · rw [up_ne (by omega)]; exact h4
theorem loop41 {a : Hs} {m l lo : Nat} (hm : m ≤ 40) (hl : l < a 0 3) (hlo : lo ≤ 100) (hw : OkT 100 a) (sc : Nat × (Nat → Int32)) (d : Nat) : ∀ (n : Nat) (S : Nat → Nat → Int32), lo + n ≤ 100 → HR S 23 a → ∃ S', EX sc (d + 5) 41 1 [.ref 45, .ref 23, .int (nI l), .int (nI m), Jk, .int (nI lo), .int (nI (lo + n) - 1)] [] (mk S) = some (some (.int (fD (latP a l m) lo n)), mk S') ∧ FS S S' := by
  have h6 := hw.l6
  intro n
  induction n with
  | zero =>
    intro S hn h
    refine ⟨S, ?_, FS.rf _⟩
    rw [e41_1, e41_3, if_pos (show nI (lo + 0) - 1 < nI lo from subm1 lo (by omega))]
    rfl
  | succ n ih =>
    intro S hn h
    obtain ⟨S1, k1, k2, k3⟩ := copyFrom_spec h isH_46 (Or.inr (by omega)) sc (d + 3)
    have k4 : HR (up S1 (46 + 4) l (nI (lo + n))) 46 (upA a 4 l (lo + n)) := HR_set k2 (by omega) (by omega) (by omega) (by omega)
    have hok : OkT m (upA a 4 l (lo + n)) := OkT_4 (hw.le (by omega)) (by omega)
    obtain ⟨S2, m1, m2, m3⟩ := pass_eq k4 hok (by omega) sc d
    obtain ⟨t, ht⟩ := ptk_eq m _ hok
    rw [ht] at m2
    have p : S2 51 l = nI ((tk m (upA a 4 l (lo + n))) 5 l) := by
      have := pl_I m2 (show 1 ≤ 5 by omega) (show 5 ≤ 8 by omega) (show l < 6 by omega)
      rw [upA_c (by omega)] at this
      exact this
    obtain ⟨B, hwB⟩ := (OkT.tkk (n := m) (m := 0) hok).wf
    have h22 := pl_22 hwB (i := l) (by rw [tk_0 (by omega), upA_c (by omega)]; exact hl)
    have e21 : (nI ((tk m (upA a 4 l (lo + n))) 5 l) = 21) ↔ (tk m (upA a 4 l (lo + n))) 5 l = 21 := nI_eq (b := 21) (by omega) (by omega)
    have hfs : FS S S2 := ((k3.fs (Or.inl rfl)).tr (Fr.fs (p := 46) (fun k hk => up_row_ne (by omega)) (Or.inl rfl))).tr (m3.fs (Or.inl rfl))
    have h23 : HR S2 23 a := h.cg (fun k a b => hfs.1 k (by omega) (by omega) (by omega))
    have hst : sI (mk S1) 50 (nI l) (nI (lo + n)) = some (mk (up S1 (46 + 4) l (nI (lo + n)))) := (HS isH_46 S1 (show l < 6 by omega) (nI (lo + n))).2.2.2.1
    rw [show lo + (n + 1) = (lo + n) + 1 by omega, nI_pred, e41_1, if_neg (nI_nlt (by omega) (by omega))]
    simp only [O45, oB_s, Hg isH_46, if_true, k1, cV_s, hst, m1, fun S => HA isH_46 S (show l < 6 by omega), p]
    show ∃ S', _ = some (some (Value.int (if latP a l m (lo + n) = true then nI (lo + n) else fD (latP a l m) lo n)), mk S') ∧ _
    unfold latP
    by_cases c : (tk m (upA a 4 l (lo + n))) 5 l = 21
    · rw [if_pos (e21.mpr c), if_pos (by simp [c])]
      exact ⟨S2, rfl, hfs⟩
    · rw [if_neg (fun q => c (e21.mp q)), if_neg (by simp [c]), e41_2, addm1]
      obtain ⟨S3, p1, p2⟩ := ih S2 (by omega) h23
      exact ⟨S3, p1, hfs.tr p2⟩
theorem loop194 {X : Xs} (hX : XOk X) {m l : Nat} (hm : m ≤ 40) (hl : l < X.nw 0 3) (sc : Nat × (Nat → Int32)) (d : Nat) : ∀ (n : Nat) (S : Nat → Nat → Int32), n ≤ 100 → MP S X → ∃ S', EX sc (d + 7) 194 4 [.ref 359, .int (nI l), .int (nI m), .int (nI n - 1)] [] (mk S) = some (some (.int (fD (latP X.nw l m) 0 n)), mk S') ∧ FN S S' := by
  have hl6 := hX.l6
  intro n
  induction n with
  | zero =>
    intro S hn h
    refine ⟨S, ?_, FN.rf _⟩
    rw [e194_4, e194_6, if_pos (by decide)]
    rfl
  | succ n ih =>
    intro S hn h
    obtain ⟨T1, a1, a2, a3⟩ := aside_spec h.stat h.now hl6 sc (d + 5)
    have ms := MS_4 a2 hl6 hl n
    have hok : OkT m (upA X.nw 4 l n) := OkT_4 (hX.okT (by omega)) (by omega)
    obtain ⟨T2, b1, b2, b3⟩ := goTicks_spec ms hX.rk hok (by omega) sc d
    obtain ⟨B, hwB⟩ := (OkT.tkk (n := m) (m := 0) hok).wf
    have hl2 : l < (tk m (upA X.nw 4 l n)) 0 3 := by rw [tk_0 (by omega), upA_c (by omega)]; exact hl
    have h22 := pl_22 hwB hl2
    have e21 : (nI ((tk m (upA X.nw 4 l n)) 5 l) = 21) ↔ (tk m (upA X.nw 4 l n)) 5 l = 21 := nI_eq (b := 21) (by omega) (by omega)
    have p : T2 373 l = nI ((tk m (upA X.nw 4 l n)) 5 l) := by
      have := (b2.2.1.1 l hl2).1
      rw [plv0 (by rw [tk_0 (by omega), upA_c (by omega)]; exact hX.nv)] at this
      exact this
    have hfn : FN S T2 := (a3.fm.fn.tr (RC.up (j := 18 + l) (x := nI n)).fm.fn).tr b3.fn
    rw [nI_pred, e194_4, if_neg (nI_pos (by omega))]
    simp only [O359, if_true, a1, cV_s, oB_s, show (18 : Int32) = nI 18 from rfl, nI_add, A373_st (S := T1) (show 18 + l < 32 by omega), b1, A373_at (S := T2) (show l < 32 by omega), p]
    show ∃ S', _ = some (some (Value.int (if latP X.nw l m (0 + n) = true then nI (0 + n) else fD (latP X.nw l m) 0 n)), mk S') ∧ _
    rw [Nat.zero_add]
    unfold latP
    by_cases c : (tk m (upA X.nw 4 l n)) 5 l = 21
    · rw [if_pos (e21.mpr c), if_pos (by simp [c])]
      exact ⟨T2, rfl, hfn⟩
    · rw [if_neg (fun q => c (e21.mp q)), if_neg (by simp [c]), e194_5, addm1]
      obtain ⟨S3, p1, p2⟩ := ih T2 (by omega) (h.fn hX hfn)
      exact ⟨S3, p1, hfn.tr p2⟩
theorem op_latest (sc : Nat × (Nat → Int32)) (x y : Int32) : St2 sc 103 [.ref 0, .int x, .int y] 194 [.ref 359, .int x, .int y, Jk] := by
  rintro S ⟨X, hX, hC, hM⟩
  have h6 := hX.l6
  have hw := hX.wf
  have htk := hX.tk
  have hiny := fun S => inL sc y 1 40 1 40 S 37 rfl rfl
  by_cases c1 : 0 ≤ x ∧ x ≤ nI (X.nw 0 3) - 1
  · by_cases c2 : 1 ≤ y ∧ y ≤ 40
    · obtain ⟨l, hl, rfl⟩ := (toL (by omega)).mp c1
      obtain ⟨m, hm1, hm2, rfl⟩ := toN2 (l := 1) (N := 40) (by omega) (by omega) c2
      have h22 := pl_22 hw hl
      have e20 : (nI (X.nw 5 l) = 20) ↔ X.nw 5 l = 20 := nI_eq (b := 20) (by omega) (by omega)
      have pC : S 28 l = nI (X.nw 5 l) := pl_I hC.now (show 1 ≤ 5 by omega) (show 5 ≤ 8 by omega) (show l < 6 by omega)
      have pM : ∀ T, MP T X → T 365 l = nI (X.nw 5 l) := fun T hM1 => by
        have := (hM1.now.1 l hl).1
        rw [plv0 hX.nv] at this
        exact this
      by_cases c3 : X.nw 5 l = 20
      · obtain ⟨hi, hhi⟩ : ∃ hi, hi = if X.nw 0 2 + m - 1 < 99 then X.nw 0 2 + m - 1 else 99 := ⟨_, rfl⟩
        obtain ⟨lo, hlo⟩ : ∃ lo, lo = if X.nw 0 2 < hi then X.nw 0 2 else hi := ⟨_, rfl⟩
        have b1 : hi ≤ 99 := by rw [hhi]; split <;> omega
        have b2 : lo ≤ hi := by rw [hlo]; split <;> omega
        have b3 : lo ≤ X.nw 0 2 := by rw [hlo]; split <;> omega
        have b4 : hi < 99 → hi = X.nw 0 2 + m - 1 := by rw [hhi]; split <;> omega
        have alike : ∀ s s', s ≤ X.nw 0 2 → s' ≤ X.nw 0 2 → latP X.nw l m s = latP X.nw l m s' := by
          intro s s' hs hs'
          have := tk_4 (l := l) (v := s) m (upA X.nw 4 l s') (by rw [upA_same, upA_c (by omega)]; exact hs') (by rw [upA_c (by omega)]; exact hs)
          rw [upA_upA] at this
          unfold latP
          rw [this, up4_c (by omega)]
        have late : ∀ s, hi < s → s < 100 → latP X.nw l m s = false := by
          intro s h1 h2
          have := tk_wait (l := l) m (upA X.nw 4 l s) (by rw [upA_c (by omega)]; exact hw.2.1) (by rw [upA_c (by omega)]; exact c3) (by rw [upA_same, upA_c (by omega)]; have := b4 (by omega); omega)
          unfold latP
          rw [this]
          rfl
        have same : fD (latP X.nw l m) 0 100 = fD (latP X.nw l m) lo (hi + 1 - lo) := by
          rw [fD_skip (m := hi + 1) 100 (by omega) (fun s h1 h2 => late s (by omega) (by omega))]
          have := fD_low (P := latP X.nw l m) (lo := lo) (fun s hs => alike s lo (by omega) b3) (hi - lo)
          rw [show lo + (hi - lo + 1) = hi + 1 by omega, show hi - lo + 1 = hi + 1 - lo by omega] at this
          exact this
        obtain ⟨S1, k1, k2⟩ := loop41 hm2 hl (show lo ≤ 100 by omega) (hX.okT (n := 100) (by omega)) sc 33 (hi + 1 - lo) S (by omega) hC.now
        refine stq (r := fD (latP X.nw l m) lo (hi + 1 - lo)) hX hC hM ⟨S1, ?_, k2⟩ (fun T hM1 => ?_)
        · rw [show lo + (hi + 1 - lo) = hi + 1 by omega, nI_pred] at k1
          have q1 : nI (X.nw 0 2) + nI m - 1 = nI (X.nw 0 2 + m - 1) := by
            rw [nI_add]
            exact pk_sub (b := 1) (by omega)
          have q2 : (if nI (X.nw 0 2 + m - 1) < 99 then nI (X.nw 0 2 + m - 1) else 99) = nI hi := by
            have e : (nI (X.nw 0 2 + m - 1) < 99) ↔ X.nw 0 2 + m - 1 < 99 := nI_ltI (b := 99) (by omega) (by omega)
            rw [hhi]
            by_cases c : X.nw 0 2 + m - 1 < 99
            · rw [if_pos (e.mpr c), if_pos c]
            · rw [if_neg (fun q => c (e.mp q)), if_neg c]; rfl
          have q3 : (if nI (X.nw 0 2) < nI hi then nI (X.nw 0 2) else nI hi) = nI lo := by
            have e : (nI (X.nw 0 2) < nI hi) ↔ X.nw 0 2 < hi := nI_ltI (by omega) (by omega)
            rw [hlo]
            by_cases c : X.nw 0 2 < hi
            · rw [if_pos (e.mpr c), if_pos c]
            · rw [if_neg (fun q => c (e.mp q)), if_neg c]
          rw [e103_0]
          simp only [O0, if_true, isLetterC hC, within_eq, cI_s, ii_0]
          rw [if_pos c1, if_pos c2, e103_2]
          simp only [O0, oB_s, Hg isH_23, fun S => HA isH_23 S (show l < 6 by omega), pC]
          rw [if_pos (e20.mpr c3), e103_3]
          simp only [O0, O45, oB_s, if_true, e41_0, Hg isH_23, hC.now.2.1 2 (by omega), q1, q2, q3, k1, cI_s]
        · obtain ⟨T1, m1, m2⟩ := loop194 hX hm2 hl sc 32 100 T (by omega) hM1
          refine ⟨T1, ?_, m2⟩
          rw [e194_0]
          simp only [O359, if_true, isLetterM hM1.stat, hiny, cI_s, ii_0]
          rw [if_pos c1, if_pos c2, e194_2]
          simp only [O359, oB_s, A365_at (S := T) (show l < 32 by omega), pM T hM1]
          rw [if_pos (e20.mpr c3), e194_3, ← same]
          exact m1
      · refine ⟨-1000002, S, S, ?_, ?_, X, hX, hC, hM⟩
        · rw [e103_0]
          simp only [O0, if_true, isLetterC hC, within_eq, cI_s, ii_0]
          rw [if_pos c1, if_pos c2, e103_2]
          simp only [O0, oB_s, Hg isH_23, fun S => HA isH_23 S (show l < 6 by omega), pC]
          rw [if_neg (fun q => c3 (e20.mp q))]
        · rw [e194_0]
          simp only [O359, if_true, isLetterM hM.stat, hiny, cI_s, ii_0]
          rw [if_pos c1, if_pos c2, e194_2]
          simp only [O359, oB_s, A365_at (S := S) (show l < 32 by omega), pM S hM]
          rw [if_neg (fun q => c3 (e20.mp q))]
    · refine ⟨-1000001, S, S, ?_, ?_, X, hX, hC, hM⟩
      · rw [e103_0]
        simp only [O0, if_true, isLetterC hC, within_eq, cI_s, ii_0]
        rw [if_pos c1, if_neg c2, e103_1]
      · rw [e194_0]
        simp only [O359, if_true, isLetterM hM.stat, hiny, cI_s, ii_0]
        rw [if_pos c1, if_neg c2, e194_1]
  · refine ⟨-1000001, S, S, ?_, ?_, X, hX, hC, hM⟩
    · rw [e103_0]
      simp only [O0, if_true, isLetterC hC, within_eq, cI_s, ii_0]
      rw [if_neg c1, e103_1]
    · rw [e194_0]
      simp only [O359, if_true, isLetterM hM.stat, cI_s, ii_0]
      rw [if_neg c1, e194_1]
