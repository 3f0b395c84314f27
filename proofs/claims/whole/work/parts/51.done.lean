/-! ticks, undo -/
def tickX (X : Xs) : Xs := (keepX X).wnow (tickS X.nw) (keepX X).ac (keepX X).an
def tickXN : Nat → Xs → Xs
  | 0, X => X
  | n + 1, X => tickXN n (tickX X)
theorem XOk_tickX {X : Xs} (hX : XOk X) (hg : Gd X.nw) (ht : X.nw 0 2 < 999) : XOk (tickX X) ∧ Gd (tickX X).nw := ⟨XOk_now (XOk_keep hX hg) (Gd_tick hg ht) (Same_tick X.nw), Gd_tick hg ht⟩
theorem ticksC_spec {N : Nat} (hN : N ≤ 24) (sc : Nat × (Nat → Int32)) (d : Nat) : ∀ (n k : Nat) (S : Nat → Nat → Int32) (X : Xs), k + n = N → CR S X → XOk X → Gd X.nw → X.nw 0 2 + n ≤ 999 → ∃ S', EX sc (d + 4) 89 4 [.ref 0, .int (nI N), .int (nI k)] [] (mk S) = some (some (.int (nI (ly (tickXN n X).nw 21))), mk S') ∧ CR S' (tickXN n X) ∧ XOk (tickXN n X) ∧ FrC S S' := by
  intro n
  induction n with
  | zero =>
    intro k S X hk hC hX hg ht
    refine ⟨S, ?_, hC, hX, FrC.rf _⟩
    rw [e89_4, if_pos (nI_le (by omega) (by omega)), e89_5]
    simp only [O0, oB_s, Hg isH_23, show (21 : Int32) = nI 21 from rfl, fun S => HA2 isH_23 S (show 21 < 22 by omega), hC.now.2.2.2.1 21 (by omega)]
    rfl
  | succ n ih =>
    intro k S X hk hC hX hg ht
    obtain ⟨S1, k1, k2, k3, k4⟩ := keep_spec hC hX sc (d + 1)
    have hn : HR S1 23 X.nw := k2.now
    obtain ⟨S2, q1, q2, q3⟩ := tickT hn (hg.okT (n := 1) (by omega)) sc d
    obtain ⟨x1, x2⟩ := XOk_tickX hX hg (by omega)
    have hC2 : CR S2 (tickX X) := CR_now k2 k3 q2 q3
    have htt : (tickX X).nw 0 2 + n ≤ 999 := by
      have : (tickX X).nw 0 2 = X.nw 0 2 + 1 := tickS_t X.nw
      omega
    obtain ⟨S3, m1, m2, m3, m4⟩ := ih (k + 1) S2 (tickX X) (by omega) hC2 x1 x2 htt
    refine ⟨S3, ?_, m2, m3, (k4.tr (q3.c isH_23)).tr m4⟩
    rw [e89_4, if_neg (nI_ge (by omega) (by omega))]
    simp only [O0, if_true, k1, cV_s, oB_s, Hg isH_23, q1, nI_1]
    exact m1
theorem ticksM_spec {N : Nat} (hN : N ≤ 24) (sc : Nat × (Nat → Int32)) (d : Nat) : ∀ (n k : Nat) (S : Nat → Nat → Int32) (X : Xs), k + n = N → MP S X → XOk X → Gd X.nw → X.nw 0 2 + n ≤ 999 → (k = 0 ∨ MRow (S 373) X.nw) → ∃ S', EX sc (d + 7) 176 4 [.ref 359, .int (nI N), .int (nI k)] [] (mk S) = EX sc (d + 7) 176 5 [.ref 359, Jk, Jk] [] (mk S') ∧ MP S' (tickXN n X) ∧ FrM S S' ∧ (N = 0 ∨ MRow (S' 373) (tickXN n X).nw) := by
  intro n
  induction n with
  | zero =>
    intro k S X hk hM hX hg ht hr
    refine ⟨S, ?_, hM, FrM.rf _, ?_⟩
    · rw [e176_4, if_pos (nI_le (by omega) (by omega))]
    · rcases hr with hr | hr
      · exact Or.inl (by omega)
      · exact Or.inr hr
  | succ n ih =>
    intro k S X hk hM hX hg ht hr
    have hl6 := hX.l6
    obtain ⟨T2, b1, b2, b3⟩ := note_spec hM hX sc (d + 5)
    have hX1 := XOk_keep hX hg
    obtain ⟨T1, a1, a2, a3⟩ := aside_spec b2.stat b2.now hl6 sc (d + 5)
    have hM2 := b2.fn hX1 a3.fm.fn
    obtain ⟨T3, d1, d2, d3⟩ := goTicks_spec a2 hg.2.2.2.1 (hg.okT (n := 1) (by omega)) (by omega) sc d
    have hM3 := hM2.fn hX1 d3.fn
    obtain ⟨T4, f1, f2, f3, f4⟩ := take_spec hM3 hX1 (Same_tick X.nw) d2.2.1 sc (d + 5)
    obtain ⟨x1, x2⟩ := XOk_tickX hX hg (by omega)
    have htt : (tickX X).nw 0 2 + n ≤ 999 := by
      have : (tickX X).nw 0 2 = X.nw 0 2 + 1 := tickS_t X.nw
      omega
    obtain ⟨T5, g1, g2, g3, g4⟩ := ih (k + 1) T4 (tickX X) (by omega) f2 x1 x2 htt (Or.inr f3)
    refine ⟨T5, ?_, g2, fun k hk => ?_, g4⟩
    · rw [e176_4, if_neg (nI_ge (by omega) (by omega))]
      simp only [O359, if_true, b1, a1, cV_s, show (1 : Int32) = nI 1 from rfl, d1, f1, nI_add]
      exact g1
    · rw [g3 k hk, f4 k (by omega), d3 k (by omega), a3 k (by omega), b3 k (by omega) (by omega)]
theorem op_ticks (sc : Nat × (Nat → Int32)) (x : Int32) : St2 sc 89 [.ref 0, .int x, Jk] 176 [.ref 359, .int x, Jk] := by
  rintro S ⟨X, hX, hC, hM⟩
  by_cases c0 : X.nw 0 3 = 0
  · refine ⟨-1000002, S, S, ?_, ?_, X, hX, hC, hM⟩
    · rw [e89_0]
      simp only [O0, if_true, hasNoC hC hX, cI_s, ii_0]
      rw [if_pos c0]
    · rw [e176_0]
      simp only [O359, oB_s]
      rw [if_pos ((hasM hM).mpr c0)]
  · have hg := hX.gd c0
    have ht := hX.tk
    have hin := fun S => inL sc x 1 24 1 24 S 37 rfl rfl
    by_cases c : (1 : Int32) ≤ x ∧ x ≤ 24
    · obtain ⟨n, hn1, hn2, rfl⟩ := toN2 (l := 1) (N := 24) (by omega) (by omega) c
      have e999 : (nI (X.nw 0 2 + n) ≤ 999) ↔ X.nw 0 2 + n ≤ 999 := nI_leI (b := 999) (by omega) (by omega)
      by_cases c2 : X.nw 0 2 + n ≤ 999
      · obtain ⟨S1, k1, k2, k3, k4⟩ := ticksC_spec hn2 sc 35 n 0 S X (by omega) hC hX hg c2
        refine stp (X := X) (X' := tickXN n X) (r := nI (ly (tickXN n X).nw 21)) hX k3 hM ⟨S1, ?_, k2, k4⟩ (fun T hM1 => ?_)
        · rw [e89_0]
          simp only [O0, if_true, hasNoC hC hX, cI_s, ii_0]
          rw [if_neg c0, e89_1, within_eq, cI_s, ii_0, if_pos c, e89_2]
          simp only [O0, oB_s, Hg isH_23, hC.now.2.1 2 (by omega), nI_add]
          rw [if_pos (e999.mpr c2), e89_3]
          exact k1
        · obtain ⟨T1, m1, m2, m3, m4⟩ := ticksM_spec hn2 sc 32 n 0 T X (by omega) hM1 hX hg c2 (Or.inl rfl)
          have hms : MS T1 (tickXN n X).nw := ⟨m2.stat, m4.resolve_left (by omega)⟩
          refine ⟨T1, ?_, m2, m3⟩
          rw [e176_0]
          simp only [O359, oB_s]
          rw [if_neg (fun q => c0 ((hasM hM1).mp q)), e176_1, hin, cI_s, ii_0, if_pos c, e176_2]
          have h31 : T 365 31 = nI (X.nw 0 2) := hM1.now.2.2
          simp only [O359, oB_s, show (31 : Int32) = nI 31 from rfl, A365_at (S := T) (show 31 < 32 by omega), h31, nI_add]
          rw [if_pos (e999.mpr c2), e176_3, show (0 : Int32) = nI 0 from rfl, m1, e176_5]
          simp only [O359, if_true, boxed_spec hms k3.wf, cI_s]
      · refine ⟨-1000003, S, S, ?_, ?_, X, hX, hC, hM⟩
        · rw [e89_0]
          simp only [O0, if_true, hasNoC hC hX, cI_s, ii_0]
          rw [if_neg c0, e89_1, within_eq, cI_s, ii_0, if_pos c, e89_2]
          simp only [O0, oB_s, Hg isH_23, hC.now.2.1 2 (by omega), nI_add]
          rw [if_neg (fun q => c2 (e999.mp q))]
        · rw [e176_0]
          simp only [O359, oB_s]
          rw [if_neg (fun q => c0 ((hasM hM).mp q)), e176_1, hin, cI_s, ii_0, if_pos c, e176_2]
          have h31 : S 365 31 = nI (X.nw 0 2) := hM.now.2.2
          simp only [O359, oB_s, show (31 : Int32) = nI 31 from rfl, A365_at (S := S) (show 31 < 32 by omega), h31, nI_add]
          rw [if_neg (fun q => c2 (e999.mp q))]
    · refine ⟨-1000001, S, S, ?_, ?_, X, hX, hC, hM⟩
      · rw [e89_0]
        simp only [O0, if_true, hasNoC hC hX, cI_s, ii_0]
        rw [if_neg c0, e89_1, within_eq, cI_s, ii_0, if_neg c]
      · rw [e176_0]
        simp only [O359, oB_s]
        rw [if_neg (fun q => c0 ((hasM hM).mp q)), e176_1, hin, cI_s, ii_0, if_neg c]
def undoX (X : Xs) : Xs := X.wnow (X.ac 0) (fun j => X.ac (j + 1)) (X.an - 1)
theorem XOk_undo {X : Xs} (h : XOk X) (ha : X.an ≠ 0) : XOk (undoX X) := by
  obtain ⟨h1, h2, h3, h4, h5, h6, h7, h8⟩ := h
  have h0 := h7 0 (by omega)
  have hb1 := h0.1.2.2.2.2.1
  refine ⟨h1, h2, h3, h4, Or.inl h0.1, show X.an - 1 ≤ 24 by omega, fun j hj => ?_, fun k hk => (h8 k hk).imp (fun z => ⟨z.1, show (X.ac 0) 0 3 ≠ 0 by omega⟩) id⟩
  have hj' : j < X.an - 1 := hj
  obtain ⟨g1, g2, g3, g4⟩ := h7 (j + 1) (by omega)
  refine ⟨g1, ?_, ?_, fun l hl => ?_⟩
  · show (X.ac (j + 1)) 0 0 = (X.ac 0) 0 0
    rw [g2, h0.2.1]
  · show (X.ac (j + 1)) 0 3 = (X.ac 0) 0 3
    rw [g3, h0.2.2.1]
  · show (X.ac (j + 1)) 1 l = (X.ac 0) 1 l ∧ (X.ac (j + 1)) 3 l = (X.ac 0) 3 l
    have hl' : l < (X.ac (j + 1)) 0 3 := hl
    have := h0.2.2.2 l (by rw [h0.2.2.1, ← g3]; exact hl')
    rw [this.1, this.2]
    exact g4 l hl
theorem op_undo (sc : Nat × (Nat → Int32)) : St2 sc 88 [.ref 0] 175 [.ref 359, Jk] := by
  rintro S ⟨X, hX, hC, hM⟩
  have han := hX.2.2.2.2.2.1
  have hl6 := hX.l6
  obtain ⟨g9, x, hx, g10, ga⟩ := hC.acts
  have e0 : (nI X.an = 0) ↔ X.an = 0 := nI_eq (b := 0) (by omega) (by omega)
  by_cases c : X.an = 0
  · refine ⟨-1000002, S, S, ?_, ?_, X, hX, hC, hM⟩
    · rw [e88_0]
      simp only [O0, oB_s, g9]
      rw [if_pos (e0.mpr c)]
    · rw [e175_0]
      simp only [O359, oB_s, hM.acts.1]
      rw [if_pos (e0.mpr c)]
  · have er : nI x + 24 - 1 - (nI x + 24 - 1) / 24 * 24 = nI ((x + 23) % 24) := by
      rw [show (24 : Int32) = nI 24 from rfl, nI_add, show x + 24 = (x + 23) + 1 by omega, nI_pred]
      exact pk_rem (by omega) (by omega) (by omega)
    obtain ⟨m, hm⟩ : ∃ m, X.an = m + 1 := ⟨X.an - 1, by omega⟩
    have ep : nI X.an - 1 = nI (X.an - 1) := by rw [hm, nI_pred]; rfl
    have hxx : (x + 23) % 24 < 24 := Nat.mod_lt _ (by omega)
    have hU : ∃ U, U = up (up S 0 10 (nI ((x + 23) % 24))) 0 9 (nI (X.an - 1)) := ⟨_, rfl⟩
    obtain ⟨U, hU⟩ := hU
    have h0 : HR U (73 + 11 * ((x + 23) % 24)) (X.ac 0) := (ga 0 (by omega)).cg (fun k a b => by rw [hU, up_row_ne (by omega), up_row_ne (by omega)])
    obtain ⟨T, k1, k2, k3⟩ := copyFrom_spec h0 isH_23 (Or.inl (by omega)) sc 37
    have hS' : ∃ S', S' = up T 45 5 0 := ⟨_, rfl⟩
    obtain ⟨S', hS'⟩ := hS'
    have hf : ∀ k, k ≠ 0 → k ≠ 45 → ¬ (23 ≤ k ∧ k ≤ 33) → S' k = S k := fun k a b e => by
      rw [hS', up_row_ne b, k3 k (by omega), hU, up_row_ne a, up_row_ne a]
    have hf0 : ∀ j, j ≠ 9 → j ≠ 10 → S' 0 j = S 0 j := fun j a b => by
      rw [hS', up_row_ne (by omega), k3 0 (by omega), hU, up_ne (by omega), up_ne (by omega)]
    have t9 : T 0 9 = nI (X.an - 1) := by rw [k3 0 (by omega), hU, up_same]
    have t10 : T 0 10 = nI ((x + 23) % 24) := by rw [k3 0 (by omega), hU, up_ne (by omega), up_same]
    refine stp (X := X) (X' := undoX X) (r := nI (X.an - 1)) hX (XOk_undo hX c) hM ⟨S', ?_, ?_, fun k hk => hf k (by omega) (by omega) (by omega)⟩ (fun V hM1 => ?_)
    · have u9 : ∀ v, up S 0 10 v 0 9 = nI X.an := fun v => by rw [up_ne (by omega), g9]
      have u10 : U 0 10 = nI ((x + 23) % 24) := by rw [hU, up_ne (by omega), up_same]
      have t59 : S' 0 9 = nI (X.an - 1) := by rw [hS', up_row_ne (by omega), t9]
      rw [e88_0]
      simp only [O0, oB_s, g9]
      rw [if_neg (fun q => c (e0.mp q)), e88_1]
      simp only [O0, oB_s, g10, er, P0, u9, ep, ← hU, u10, aR71 U hxx, Hg isH_23, if_true, k1, cV_s, O45, e32_0, P45, ← hS', t59]
      rw [if_neg (show ¬ (24 : Int32) = 0 by decide)]
    · exact ⟨hC.shelf.cg (fun k h1 h2 => hf k (by omega) (by omega) (by omega)), by rw [hf0 12 (by omega) (by omega)]; exact hC.st, by rw [hf0 11 (by omega) (by omega)]; exact hC.fl, by rw [hf 13 (by omega) (by omega) (by omega), hf 14 (by omega) (by omega) (by omega)]; exact hC.tape, by rw [hf 15 (by omega) (by omega) (by omega), hf 16 (by omega) (by omega) (by omega)]; exact hC.trace, k2.cg (fun k a b => by rw [hS', up_row_ne (by omega)]), by obtain ⟨b, hb⟩ := hC.draft; exact ⟨b, hb.cg (fun k h1 h2 => hf k (by omega) (by omega) (by omega))⟩, ⟨by rw [hS', up_row_ne (by omega)]; exact t9, (x + 23) % 24, hxx, by rw [hS', up_row_ne (by omega)]; exact t10, fun j hj => by
      have hj' : j < X.an - 1 := hj
      show HR S' (73 + 11 * (((x + 23) % 24 + 23 - j) % 24)) (X.ac (j + 1))
      rw [show ((x + 23) % 24 + 23 - j) % 24 = (x + 23 - (j + 1)) % 24 by omega]
      have : (x + 23 - (j + 1)) % 24 < 24 := Nat.mod_lt _ (by omega)
      exact (ga (j + 1) (by omega)).cg (fun k a b => hf k (by omega) (by omega) (by omega))⟩, fun k hk => (hC.img k hk).cg (fun k h1 h2 => hf k (by omega) (by omega) (by omega)), Or.inl (by rw [hS', up_same])⟩
    · have hg := hM1.acts
      have h0m := hg.2 0 (by omega)
      have hac := hX.2.2.2.2.2.2.1 0 (by omega)
      have l6 : (X.ac 0) 0 3 ≤ 6 := by rw [hac.2.2.1]; exact hl6
      have hW : ∃ W, W = up V 359 11 (nI (X.an - 1)) := ⟨_, rfl⟩
      obtain ⟨W, hW⟩ := hW
      have loop := loopN (N := 32) (fun k T => EX sc 39 175 2 [.ref 359, .int (nI k)] [] (mk T)) (fun T => EX sc 39 175 3 [.ref 359, Jk] [] (mk T)) (fun k => cpR W 365 366 0 (32 * (X.an - 1)) k) (by
        show EX sc 39 175 2 _ _ _ = EX sc 39 175 3 _ _ _
        rw [e175_2, if_pos (by decide)]) (fun k hk => by
        show EX sc 39 175 2 _ _ _ = EX sc 39 175 2 _ _ _
        rw [e175_2, if_neg (show ¬ (32 : Int32) ≤ nI k from nI_ge (b := 32) (by omega) (by omega))]
        have hst := cpR_step (S := W) (dst := 365) (src := 366) (b := 0) (a := 32 * (X.an - 1)) (n := k) (Or.inl (by omega))
        rw [Nat.zero_add] at hst
        have h11 : W 359 11 = nI (X.an - 1) := by rw [hW, up_same]
        simp only [O359, oB_s, cpR_ne (show 359 ≠ 365 by omega), h11, show (32 : Int32) = nI 32 from rfl, pk_mul, nI_add, A366_at (S := cpR W 365 366 0 (32 * (X.an - 1)) k) (show 32 * (X.an - 1) + k < 768 by omega), A365_st (S := cpR W 365 366 0 (32 * (X.an - 1)) k) (show k < 32 by omega), hst, nI_1]) 32 0 (by omega)
      rw [cpR_0] at loop
      have hZ : ∃ Z, Z = cpR W 365 366 0 (32 * (X.an - 1)) 32 := ⟨_, rfl⟩
      obtain ⟨Z, hZ⟩ := hZ
      rw [← hZ] at loop
      have hf2 : ∀ k, k ≠ 359 → k ≠ 365 → Z k = V k := fun k a b => by rw [hZ, cpR_ne b, hW, up_row_ne a]
      have hg2 : ∀ j, j ≠ 11 → Z 359 j = V 359 j := fun j a => by rw [hZ, cpR_ne (by omega), hW, up_ne (by omega)]
      have st : MSt Z (X.ac 0) := by
        have := hM1.stat.cg hl6 hM1.none (S' := Z) (hg2 4 (by omega)) (hg2 5 (by omega)) (hg2 29 (by omega)) (hf2 363 (by omega) (by omega)) (hf2 364 (by omega) (by omega))
        unfold MSt at this ⊢
        rw [hac.2.1, hac.2.2.1]
        refine ⟨this.1, this.2.1, fun l hl => ?_⟩
        rw [(hac.2.2.2 l (by rw [hac.2.2.1]; exact hl)).1, (hac.2.2.2 l (by rw [hac.2.2.1]; exact hl)).2]
        exact this.2.2 l hl
      refine ⟨Z, ?_, ?_, fun k hk => hf2 k (by omega) (by omega)⟩
      · rw [e175_0]
        simp only [O359, oB_s, hg.1]
        rw [if_neg (fun q => c (e0.mp q)), e175_1]
        simp only [O359, oB_s, hg.1, ep, P359, ← hW]
        have h11 : Z 359 11 = nI (X.an - 1) := by rw [hZ, cpR_ne (by omega), hW, up_same]
        rw [show (0 : Int32) = nI 0 from rfl, loop, e175_3]
        simp only [O359, oB_s, h11]
      · exact ⟨by rw [hf2 360 (by omega) (by omega), hf2 361 (by omega) (by omega), hf2 362 (by omega) (by omega)]; exact hM1.shelf, by rw [hg2 3 (by omega)]; exact hM1.st, by rw [hg2 16 (by omega)]; exact hM1.fl, by rw [hg2 14 (by omega), hf2 368 (by omega) (by omega)]; exact hM1.tape, by rw [hg2 18 (by omega), hf2 369 (by omega) (by omega)]; exact hM1.trace, by rw [hg2 29 (by omega)]; exact hM1.none, st, h0m.congr l6 (fun t ht => by rw [hZ, cpR_at (by omega) (by omega), hW, up_row_ne (by omega)]; show V 366 (32 * (X.an - 1) + (t - 0)) = V 366 (32 * (X.an - 1 - 0) + t); rw [show 32 * (X.an - 1) + (t - 0) = 32 * (X.an - 1 - 0) + t by omega]), by rw [hg2 6 (by omega)]; show _ = if (X.ac 0) 0 3 = 0 then 0 else 1; rw [hac.2.2.1]; exact hM1.has, ⟨by rw [hZ, cpR_ne (by omega), hW, up_same]; rfl, fun j hj => by
        have hj' : j < X.an - 1 := hj
        show MRow (fun t => Z 366 (32 * (X.an - 1 - 1 - j) + t)) (X.ac (j + 1))
        rw [hf2 366 (by omega) (by omega), show X.an - 1 - 1 - j = X.an - 1 - (j + 1) by omega]
        exact hg.2 (j + 1) (by omega)⟩, by rw [hg2 13 (by omega), hf2 367 (by omega) (by omega)]; exact hM1.img⟩
