/-! what is foretold -/
theorem tk_succ : ∀ n a, tk (n + 1) a = tickS (tk n a)
  | 0, _ => rfl
  | n + 1, a => by
    show tk (n + 1) (tickS a) = tickS (tk n (tickS a))
    exact tk_succ n (tickS a)
theorem tk_c {c : Nat} (h : c ≠ 0 ∧ c ≠ 5 ∧ c ≠ 6 ∧ c ≠ 7) : ∀ n a, (tk n a) c = a c
  | 0, _ => rfl
  | n + 1, a => by
    show (tk n (tickS a)) c = a c
    rw [tk_c h n, tickS_c h]
theorem tk_0 {j : Nat} (h : j ≠ 2) : ∀ n a, (tk n a) 0 j = a 0 j
  | 0, _ => rfl
  | n + 1, a => by
    show (tk n (tickS a)) 0 j = a 0 j
    rw [tk_0 h n, tickS_0 h]
theorem OkT.tkk : ∀ {n m : Nat} {a : Hs}, OkT (n + m) a → OkT m (tk n a)
  | 0, m, a, h => by rw [Nat.zero_add] at h; exact h
  | n + 1, m, a, h => by
    rw [show n + 1 + m = (n + m) + 1 by omega] at h
    show OkT m (tk n (tickS a))
    exact OkT.tkk (n := n) h.tick
theorem OkT.wf {n : Nat} {a : Hs} (h : OkT n a) : ∃ B, WFg B a := by
  obtain ⟨B, h1, h2, h3, h4⟩ := h
  exact ⟨B, h1⟩
theorem RkId.tkk {a : Hs} (h : RkId a) (n : Nat) : RkId (tk n a) := by
  unfold RkId
  rw [tk_0 (by omega), tk_c (by omega)]
  exact h
theorem out_box {a : Hs} (h6 : a 0 3 ≤ 6) : (outB a = 0) ↔ ∀ j, j < a 0 3 → a 5 j = 21 := by
  constructor
  · intro h j hj
    have := outB_bit h6 j
    rw [h, Nat.zero_testBit] at this
    by_cases e : a 5 j = 21
    · exact e
    · simp [hj, e] at this
  · intro h
    apply Nat.eq_of_testBit_eq
    intro j
    rw [outB_bit h6, Nat.zero_testBit]
    by_cases hj : j < a 0 3
    · simp [h j hj]
    · simp [hj]
theorem out_ly {a : Hs} (h6 : a 0 3 ≤ 6) : (ly a 21 = 2 ^ (a 0 3) - 1) ↔ outB a = 0 := by
  rw [out_box h6]
  constructor
  · intro h j hj
    have := ly_bit a 21 j
    rw [h, Nat.testBit_two_pow_sub_one] at this
    by_cases e : a 5 j = 21
    · exact e
    · simp [hj, e] at this
  · intro h
    apply Nat.eq_of_testBit_eq
    intro j
    rw [ly_bit, Nat.testBit_two_pow_sub_one]
    by_cases hj : j < a 0 3
    · simp [h j hj]
    · simp [hj]
theorem tick_box {a : Hs} (h6 : a 0 3 ≤ 6) (h9 : a 0 0 ≤ 9) (h : outB a = 0) (hr : ∀ k, k < a 0 3 → a 8 k < a 0 3) : tickS a = upA a 0 2 (a 0 2 + 1) := by
  have hb := (out_box h6).mp h
  have fl : ∀ n, n ≤ a 0 0 → iter n (floorA (a 5)) a = a := by
    intro n
    induction n with
    | zero => intro _; rfl
    | succ n ih =>
      intro hn
      show floorA (a 5) n (iter n (floorA (a 5)) a) = a
      rw [ih (by omega), floorA_eq]
      have := iter_none (lay := a 5) (f := n) (l := 0) (b := a) (a 0 3) (fun j _ hj => by rw [hb j (by omega)]; omega)
      rw [Nat.zero_add] at this
      exact this
  show upA (iter (a 0 3) comeA (iter (a 0 0) (floorA (a 5)) a)) 0 2 (a 0 2 + 1) = _
  rw [fl _ (Nat.le_refl _), come_none (fun j hj q => by have := hb j hj; omega) hr _ (Nat.le_refl _)]
theorem outB_t {a : Hs} {t : Nat} : outB (upA a 0 2 t) = outB a := by
  unfold outB ly
  rw [upA_ne (by omega), upA_c (by omega)]
theorem tk_box : ∀ n a, a 0 3 ≤ 6 → a 0 0 ≤ 9 → outB a = 0 → (∀ k, k < a 0 3 → a 8 k < a 0 3) → tk n a = upA a 0 2 (a 0 2 + n)
  | 0, a, _, _, _, _ => by
    show a = upA a 0 2 (a 0 2)
    rw [upA_self]
  | n + 1, a, h6, h9, h, hr => by
    show tk n (tickS a) = _
    rw [tick_box h6 h9 h hr, tk_box n (upA a 0 2 (a 0 2 + 1)) h6 h9 (by rw [outB_t]; exact h) hr, upA_upA, upA_same, show a 0 2 + 1 + n = a 0 2 + (n + 1) by omega]
theorem ptk_eq : ∀ n a, OkT n a → ∃ t, ptk n a = upA (tk n a) 0 2 t
  | 0, a, _ => ⟨a 0 2, by rw [show tk 0 a = a from rfl, upA_self]; rfl⟩
  | n + 1, a, h => by
    obtain ⟨B, w, -, -, -⟩ := id h
    unfold ptk
    by_cases c : outB a = 0
    · rw [if_pos c, tk_box (n + 1) a w.1 w.2.1 c (fun k hk => (w.2.2.2.2.2 k hk).2.2.2.2.2.2.2)]
      exact ⟨a 0 2, by rw [upA_upA, upA_self]⟩
    · rw [if_neg c]
      exact ptk_eq n _ h.tick
theorem ly_t {a : Hs} {t q : Nat} : ly (upA a 0 2 t) q = ly a q := by
  unfold ly
  rw [upA_ne (by omega), upA_c (by omega)]
theorem ld_t {a : Hs} {t q : Nat} : ld (upA a 0 2 t) q = ld a q := by
  unfold ld
  rw [upA_ne (by omega), upA_c (by omega), upA_c (by omega)]
theorem isH_46 : isH 46 := by unfold isH; omega
theorem isH_57 : isH 57 := by unfold isH; omega
theorem behind_spec {S : Nat → Nat → Int32} {a : Hs} {n : Nat} (h : HR S 23 a) (hw : OkT n a) (hn : n ≤ 60) (sc : Nat × (Nat → Int32)) (d : Nat) : ∃ S' t, EX sc (d + 5) 33 0 [.ref 45, .ref 23, .int (nI n)] [] (mk S) = some (some (.ref 46), mk S') ∧ HR S' 46 (upA (tk n a) 0 2 t) ∧ FS S S' := by
  obtain ⟨S1, k1, k2, k3⟩ := copyFrom_spec h isH_46 (Or.inr (by omega)) sc (d + 3)
  obtain ⟨S2, m1, m2, m3⟩ := pass_eq k2 hw (by omega) sc d
  obtain ⟨t, ht⟩ := ptk_eq n a hw
  rw [ht] at m2
  refine ⟨S2, t, ?_, m2, (k3.fs (Or.inl rfl)).tr (m3.fs (Or.inl rfl))⟩
  rw [e33_0]
  simp only [O45, oB_s, Hg isH_46, if_true, k1, cV_s, m1]
theorem aheadM {S : Nat → Nat → Int32} {X : Xs} {n : Nat} (hM : MP S X) (hX : XOk X) (hn : n ≤ 60) (sc : Nat × (Nat → Int32)) (d : Nat) : ∃ S1 S2, EX sc (d + 6) 156 0 [.ref 359, Jk] [] (mk S) = some (none, mk S1) ∧ EX sc (d + 6) 167 0 [.ref 359, .int (nI n), Jk] [] (mk S1) = some (none, mk S2) ∧ MS S2 (tk n X.nw) ∧ FN S S2 := by
  obtain ⟨T1, a1, a2, a3⟩ := aside_spec hM.stat hM.now hX.l6 sc (d + 5)
  obtain ⟨T3, d1, d2, d3⟩ := goTicks_spec a2 hX.rk (hX.okT (n := n) (by omega)) (by omega) sc d
  exact ⟨T1, T3, a1, d1, d2.ms, a3.fm.fn.tr d3.fn⟩
theorem isAheadM (S : Nat → Nat → Int32) (x : Int32) (sc : Nat × (Nat → Int32)) (d : Nat) : EX sc (d + 2) 185 0 [.int x] [] (mk S) = some (some (.int (if 0 ≤ x ∧ x ≤ 60 then 1 else 0)), mk S) := by
  rw [e185_0, inL sc x 0 60 0 60 S d rfl rfl, cI_s, ii_ok]
theorem nvt_tk {X : Xs} (h : XOk X) (n : Nat) : (tk n X.nw) 0 4 = 0 := by rw [tk_0 (by omega)]; exact h.nv
theorem op_ahead (sc : Nat × (Nat → Int32)) (x y z : Int32) : St2 sc 96 [.ref 0, .int x, .int y, .int z, Jk] 186 [.ref 359, .int x, .int y, .int z] := by
  rintro S ⟨X, hX, hC, hM⟩
  have h6 := hX.l6
  have bad : ¬ ((0 ≤ x ∧ x ≤ nI (X.nw 0 3) - 1) ∧ (0 ≤ y ∧ y ≤ 60) ∧ (0 ≤ z ∧ z ≤ 2)) → ∃ r S1 S2, EX sc 39 96 0 [.ref 0, .int x, .int y, .int z, Jk] [] (mk S) = some (some (.int r), mk S1) ∧ EX sc 39 186 0 [.ref 359, .int x, .int y, .int z] [] (mk S1) = some (some (.int r), mk S2) ∧ Inv S2 := by
    intro hb
    refine ⟨-1000001, S, S, ?_, ?_, X, hX, hC, hM⟩
    · rw [e96_0]
      simp only [O0, if_true, isLetterC hC, within_eq, cI_s, ii_0, e96_1]
      by_cases c1 : 0 ≤ x ∧ x ≤ nI (X.nw 0 3) - 1
      · rw [if_pos c1]
        by_cases c2 : 0 ≤ y ∧ y ≤ 60
        · rw [if_pos c2, if_neg (fun q => hb ⟨c1, c2, q⟩)]
        · rw [if_neg c2]
      · rw [if_neg c1]
    · rw [e186_0]
      simp only [O359, if_true, isLetterM hM.stat, isAheadM, fun S => inL sc z 0 2 0 2 S 37 rfl rfl, cI_s, ii_0, e186_1]
      by_cases c1 : 0 ≤ x ∧ x ≤ nI (X.nw 0 3) - 1
      · rw [if_pos c1]
        by_cases c2 : 0 ≤ y ∧ y ≤ 60
        · rw [if_pos c2, if_neg (fun q => hb ⟨c1, c2, q⟩)]
        · rw [if_neg c2]
      · rw [if_neg c1]
  by_cases hc : (0 ≤ x ∧ x ≤ nI (X.nw 0 3) - 1) ∧ (0 ≤ y ∧ y ≤ 60) ∧ (0 ≤ z ∧ z ≤ 2)
  · obtain ⟨c1, c2, c3⟩ := hc
    obtain ⟨i, hi, rfl⟩ := (toL (by omega)).mp c1
    obtain ⟨n, hn, rfl⟩ := toN (N := 60) (by omega) c2
    obtain ⟨w, hw, rfl⟩ := toN (N := 2) (by omega) c3
    obtain ⟨S1, t, k1, k2, k3⟩ := behind_spec hC.now (hX.okT (n := n) (by omega)) hn sc 33
    have hi' : i < (tk n X.nw) 0 3 := by rw [tk_0 (by omega)]; exact hi
    refine stq (r := nI ((tk n X.nw) (5 + w) i)) hX hC hM ⟨S1, ?_, k3⟩ (fun T hM1 => ?_)
    · rw [e96_0]
      simp only [O0, if_true, isLetterC hC, within_eq, cI_s, ii_0]
      rw [if_pos c1, if_pos c2, if_pos c3, e96_2]
      have hp : ∀ o, 1 ≤ o → o ≤ 8 → S1 (46 + o) i = nI ((tk n X.nw) o i) := fun o h1 h2 => by
        have := pl_I k2 h1 h2 (show i < 6 by omega)
        rw [upA_c (by omega)] at this
        exact this
      have p5 : S1 51 i = nI ((tk n X.nw) 5 i) := hp 5 (by omega) (by omega)
      have p6 : S1 52 i = nI ((tk n X.nw) 6 i) := hp 6 (by omega) (by omega)
      have p7 : S1 53 i = nI ((tk n X.nw) 7 i) := hp 7 (by omega) (by omega)
      simp only [O0, O45, oB_s, if_true, k1, cR_s, Hg isH_46, fun S => HA isH_46 S (show i < 6 by omega), e96_3, e96_4, p5, p6, p7]
      match w, hw with
      | 0, _ => exact if_pos rfl
      | 1, _ => exact (if_neg (by decide)).trans (if_pos rfl)
      | 2, _ => exact (if_neg (by decide)).trans (if_neg (by decide))
    · obtain ⟨T1, T2, a1, a2, a3, a4⟩ := aheadM hM1 hX hn sc 32
      refine ⟨T2, ?_, a4⟩
      rw [e186_0]
      simp only [O359, if_true, isLetterM hM1.stat, isAheadM, fun S => inL sc (nI w) 0 2 0 2 S 37 rfl rfl, cI_s, ii_0]
      rw [if_pos c1, if_pos c2, if_pos c3, e186_2]
      obtain ⟨r1, r2, r3, r4, r5⟩ := a3.2.1 i hi'
      rw [plv0 (nvt_tk hX n)] at r1
      have hv : T2 373 (6 * w + i) = nI ((tk n X.nw) (5 + w) i) := by
        match w, hw with
        | 0, _ => rw [Nat.mul_zero, Nat.zero_add]; exact r1
        | 1, _ => exact r2
        | 2, _ => exact r3
      simp only [O359, if_true, a1, a2, cV_s, oB_s, show (6 : Int32) = nI 6 from rfl, pk_mul, nI_add, A373_at (S := T2) (show 6 * w + i < 32 by omega), hv]
  · exact bad hc
theorem op_full (sc : Nat × (Nat → Int32)) (x y : Int32) : St2 sc 97 [.ref 0, .int x, .int y] 187 [.ref 359, .int x, .int y] := by
  rintro S ⟨X, hX, hC, hM⟩
  have h6 := hX.l6
  have h9 := hX.wf.2.1
  by_cases c1 : 0 ≤ x ∧ x ≤ nI (X.nw 0 0) - 1
  · by_cases c2 : 0 ≤ y ∧ y ≤ 60
    · obtain ⟨f, hf, rfl⟩ := (toL (by omega)).mp c1
      obtain ⟨n, hn, rfl⟩ := toN (N := 60) (by omega) c2
      obtain ⟨S1, t, k1, k2, k3⟩ := behind_spec hC.now (hX.okT (n := n) (by omega)) hn sc 33
      refine stq (r := nI (ld (tk n X.nw) f)) hX hC hM ⟨S1, ?_, k3⟩ (fun T hM1 => ?_)
      · rw [e97_0]
        simp only [O0, if_true, isFloorC hC, within_eq, cI_s, ii_0]
        rw [if_pos c1, if_pos c2, e97_2]
        have p : S1 56 f = nI (ld (tk n X.nw) f) := by
          have := k2.2.2.2.2 f (by omega)
          rw [ld_t] at this
          exact this
        simp only [O0, O45, oB_s, if_true, k1, cR_s, Hg isH_46, fun S => HA2 isH_46 S (show f < 22 by omega), p]
      · obtain ⟨T1, T2, a1, a2, a3, a4⟩ := aheadM hM1 hX hn sc 32
        obtain ⟨B, hwB⟩ := (OkT.tkk (n := n) (m := 0) (hX.okT (n := n + 0) (by omega))).wf
        refine ⟨T2, ?_, a4⟩
        rw [e187_0]
        simp only [O359, if_true, isFloorM hM1.stat, isAheadM, cI_s, ii_0]
        rw [if_pos c1, if_pos c2, e187_2]
        simp only [O359, if_true, a1, a2, cV_s, fullNone_eq a3.q hwB (show f < 20 by omega) sc 36, cI_s]
    · refine ⟨-1000001, S, S, ?_, ?_, X, hX, hC, hM⟩
      · rw [e97_0]
        simp only [O0, if_true, isFloorC hC, within_eq, cI_s, ii_0]
        rw [if_pos c1, if_neg c2, e97_1]
      · rw [e187_0]
        simp only [O359, if_true, isFloorM hM.stat, isAheadM, cI_s, ii_0]
        rw [if_pos c1, if_neg c2, e187_1]
  · refine ⟨-1000001, S, S, ?_, ?_, X, hX, hC, hM⟩
    · rw [e97_0]
      simp only [O0, if_true, isFloorC hC, within_eq, cI_s, ii_0]
      rw [if_neg c1, e97_1]
    · rw [e187_0]
      simp only [O359, if_true, isFloorM hM.stat, isAheadM, cI_s, ii_0]
      rw [if_neg c1, e187_1]
theorem op_all (sc : Nat × (Nat → Int32)) (x y : Int32) : St2 sc 98 [.ref 0, .int x, .int y, Jk] 188 [.ref 359, .int x, .int y] := by
  rintro S ⟨X, hX, hC, hM⟩
  have h6 := hX.l6
  by_cases c0 : X.nw 0 3 = 0
  · refine ⟨-1000002, S, S, ?_, ?_, X, hX, hC, hM⟩
    · rw [e98_0]
      simp only [O0, if_true, hasNoC hC hX, cI_s, ii_0]
      rw [if_pos c0]
    · rw [e188_0]
      simp only [O359, oB_s]
      rw [if_pos ((hasM hM).mpr c0)]
  · have bad : ¬ ((0 ≤ x ∧ x ≤ 60) ∧ (0 ≤ y ∧ y ≤ 1)) → ∃ r S1 S2, EX sc 39 98 0 [.ref 0, .int x, .int y, Jk] [] (mk S) = some (some (.int r), mk S1) ∧ EX sc 39 188 0 [.ref 359, .int x, .int y] [] (mk S1) = some (some (.int r), mk S2) ∧ Inv S2 := by
      intro hb
      refine ⟨-1000001, S, S, ?_, ?_, X, hX, hC, hM⟩
      · rw [e98_0]
        simp only [O0, if_true, hasNoC hC hX, cI_s, ii_0]
        rw [if_neg c0, e98_1]
        simp only [within_eq, cI_s, ii_0, e98_2]
        by_cases c2 : 0 ≤ x ∧ x ≤ 60
        · rw [if_pos c2, if_neg (fun q => hb ⟨c2, q⟩)]
        · rw [if_neg c2]
      · rw [e188_0]
        simp only [O359, oB_s]
        rw [if_neg (fun q => c0 ((hasM hM).mp q)), e188_1]
        simp only [isAheadM, fun S => inL sc y 0 1 0 1 S 37 rfl rfl, cI_s, ii_0, e188_2]
        by_cases c2 : 0 ≤ x ∧ x ≤ 60
        · rw [if_pos c2, if_neg (fun q => hb ⟨c2, q⟩)]
        · rw [if_neg c2]
    by_cases hc : (0 ≤ x ∧ x ≤ 60) ∧ (0 ≤ y ∧ y ≤ 1)
    · obtain ⟨c2, c3⟩ := hc
      obtain ⟨n, hn, rfl⟩ := toN (N := 60) (by omega) c2
      obtain ⟨w, hw, rfl⟩ := toN (N := 1) (by omega) c3
      obtain ⟨S1, t, k1, k2, k3⟩ := behind_spec hC.now (hX.okT (n := n) (by omega)) hn sc 33
      obtain ⟨B, hwB⟩ := (OkT.tkk (n := n) (m := 0) (hX.okT (n := n + 0) (by omega))).wf
      have hL : (tk n X.nw) 0 3 = X.nw 0 3 := tk_0 (by omega) n _
      refine stq (r := if w = 0 then nI (ly (tk n X.nw) 21) else nI (sumN ((tk n X.nw) 6) ((tk n X.nw) 0 3))) hX hC hM ⟨S1, ?_, k3⟩ (fun T hM1 => ?_)
      · rw [e98_0]
        simp only [O0, if_true, hasNoC hC hX, cI_s, ii_0]
        rw [if_neg c0, e98_1, within_eq, cI_s, ii_0, if_pos c2, within_eq, cI_s, ii_0, if_pos c3, e98_3]
        have p : S1 55 21 = nI (ly (tk n X.nw) 21) := by
          have := k2.2.2.2.1 21 (by omega)
          rw [ly_t] at this
          exact this
        have q := stuckTogether_eq k2 (by rw [upA_ne (by omega), hL]; exact h6) sc 37
        rw [upA_ne (show ¬ ((0 : Nat) = 0 ∧ (3 : Nat) = 2) by omega), upA_c (show (6 : Nat) ≠ 0 by omega)] at q
        simp only [O0, O45, oB_s, if_true, k1, cR_s, Hg isH_46, show (21 : Int32) = nI 21 from rfl, fun S => HA2 isH_46 S (show 21 < 22 by omega), p, e98_4, q, cI_s]
        match w, hw with
        | 0, _ => exact if_pos rfl
        | 1, _ => exact if_neg (by decide)
      · obtain ⟨T1, T2, a1, a2, a3, a4⟩ := aheadM hM1 hX hn sc 32
        refine ⟨T2, ?_, a4⟩
        rw [e188_0]
        simp only [O359, oB_s]
        rw [if_neg (fun q => c0 ((hasM hM1).mp q)), e188_1, isAheadM, cI_s, ii_0, if_pos c2, inL sc (nI w) 0 1 0 1 T 37 rfl rfl, cI_s, ii_0, if_pos c3, e188_3]
        simp only [O359, if_true, a1, a2, cV_s, boxed_spec a3 hwB, cI_s, e188_4, stuckAll_eq a3 (show (tk n X.nw) 0 3 ≤ 6 by rw [hL]; exact h6)]
        match w, hw with
        | 0, _ => exact if_pos rfl
        | 1, _ => exact if_neg (by decide)
    · exact bad hc
