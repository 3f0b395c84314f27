/-! what is done: wide, poke, post, ticks, undo -/
theorem toN2 {x : Int32} {l N : Nat} (hN : N < 2 ^ 31) (hl : l < 2 ^ 31) (h : nI l ≤ x ∧ x ≤ nI N) : ∃ j, l ≤ j ∧ j ≤ N ∧ x = nI j := by
  have h1 := h.1
  rw [Int32.le_iff_toInt_le, nI_toInt hl] at h1
  obtain ⟨j, k1, k2⟩ := toN hN ⟨by rw [Int32.le_iff_toInt_le, show (0 : Int32).toInt = 0 from rfl]; omega, h.2⟩
  refine ⟨j, ?_, k1, k2⟩
  rw [k2, nI_toInt (by omega)] at h1
  omega
theorem XOk.gd {X : Xs} (h : XOk X) (hn : X.nw 0 3 ≠ 0) : Gd X.nw := (h.2.2.2.2.1).resolve_right (fun q => hn q.1)
theorem XOk.wf {X : Xs} (h : XOk X) : WFg (54 * X.nw 0 2) X.nw := by
  rcases h.2.2.2.2.1 with q | ⟨q1, q2, q3, q4, q5⟩
  · exact q.1
  · exact ⟨by omega, by omega, by omega, by omega, by omega, fun i hi => by omega⟩
theorem XOk.nv {X : Xs} (h : XOk X) : X.nw 0 4 = 0 := by
  rcases h.2.2.2.2.1 with q | ⟨q1, q2, q3, q4, q5⟩
  · exact q.2.2.1
  · exact q5
theorem XOk.tk {X : Xs} (h : XOk X) : X.nw 0 2 ≤ 999 := by
  rcases h.2.2.2.2.1 with q | ⟨q1, q2, q3, q4, q5⟩
  · exact q.2.1
  · omega
theorem hasM {S : Nat → Nat → Int32} {X : Xs} (h : MP S X) : (S 359 6 = 0) ↔ X.nw 0 3 = 0 := by
  rw [h.has]
  by_cases c : X.nw 0 3 = 0
  · simp [c]
  · rw [if_neg c]; exact ⟨fun q => absurd q i10, fun q => absurd q c⟩
theorem inL (sc : Nat × (Nat → Int32)) (x lo hi : Int32) (lo' hi' : Int64) (S : Nat → Nat → Int32) (d : Nat) (h1 : Int32.toInt64 lo = lo') (h2 : Int32.toInt64 hi = hi') : EX sc (d + 1) 134 0 [.long (Int32.toInt64 x), Jk, .long lo', Jk, .long hi', Jk] [] (mk S) = some (some (.int (if lo ≤ x ∧ x ≤ hi then 1 else 0)), mk S) := by
  rw [← h1, ← h2]
  exact in_eq S x lo hi sc d
theorem XOk_now {X : Xs} {b : Hs} (h : XOk X) (hg : Gd b) (hs : SameSt b X.nw) : XOk (X.wnow b X.ac X.an) := by
  obtain ⟨h1, h2, h3, h4, h5, h6, h7, h8⟩ := h
  have hb1 := hg.2.2.2.2.1
  refine ⟨h1, h2, h3, h4, Or.inl hg, h6, fun j hj => ?_, fun k hk => (h8 k hk).imp (fun z => ⟨z.1, show b 0 3 ≠ 0 by omega⟩) id⟩
  obtain ⟨g1, g2, g3, g4⟩ := h7 j hj
  refine ⟨g1, ?_, ?_, fun l hl => ?_⟩
  · show (X.ac j) 0 0 = b 0 0
    rw [g2, hs.1]
  · show (X.ac j) 0 3 = b 0 3
    rw [g3, hs.2.1]
  · have := hs.2.2 l (by rw [hs.2.1, ← g3]; exact hl)
    show (X.ac j) 1 l = b 1 l ∧ (X.ac j) 3 l = b 3 l
    rw [this.1, this.2]
    exact g4 l hl
theorem SameSt.up {a : Hs} {c j v : Nat} (h0 : c = 0 → j ≠ 0 ∧ j ≠ 3) (h1 : c ≠ 1) (h3 : c ≠ 3) : SameSt (upA a c j v) a :=
  ⟨upA_ne (fun q => (h0 q.1.symm).1 q.2.symm), upA_ne (fun q => (h0 q.1.symm).2 q.2.symm), fun l _ => ⟨by rw [upA_c (fun q => h1 q.symm)], by rw [upA_c (fun q => h3 q.symm)]⟩⟩
theorem SameSt.tr {a b c : Hs} (h1 : SameSt a b) (h2 : SameSt b c) : SameSt a c := ⟨h1.1.trans h2.1, h1.2.1.trans h2.2.1, fun l hl => ⟨(h1.2.2 l hl).1.trans (h2.2.2 l (by rw [← h1.2.1]; exact hl)).1, (h1.2.2 l hl).2.trans (h2.2.2 l (by rw [← h1.2.1]; exact hl)).2⟩⟩
theorem Gd_wide {a : Hs} (h : Gd a) {v : Nat} (h1 : 2 ≤ v) (h2 : v ≤ 20) : Gd (upA a 0 1 v) := by
  obtain ⟨⟨w1, w2, w3, w4, w5, w6⟩, g2, g3, g4, g5, g6, g7, g8, g9⟩ := h
  have e : ∀ j, j ≠ 1 → upA a 0 1 v 0 j = a 0 j := fun j hj => upA_ne (fun q => hj q.2)
  have e1 : upA a 0 1 v 0 1 = v := upA_same _ _ _ _
  have er : ∀ c, c ≠ 0 → upA a 0 1 v c = a c := fun c hc => upA_c hc
  unfold Gd WFg RkId
  rw [e1, e 3 (by omega), e 0 (by omega), e 2 (by omega), e 4 (by omega), er 1 (by omega), er 2 (by omega), er 3 (by omega), er 4 (by omega), er 5 (by omega), er 6 (by omega), er 7 (by omega), er 8 (by omega)]
  exact ⟨⟨w1, w2, by omega, w4, w5, w6⟩, g2, g3, g4, g5, g6, h1, h2, g9⟩
theorem Gd_move {a : Hs} (h : Gd a) {i q : Nat} (hq : q < a 0 0 ∨ q = 20 ∨ q = 21) : Gd (upA a 5 i q) := by
  obtain ⟨g1, g2, g3, g4, g5, g6, g7, g8, g9⟩ := h
  exact ⟨WF_mv g1 hq, g2, g3, g4, g5, g6, g7, g8, g9⟩
def postA (a : Hs) (i f : Nat) : Hs := upA (upA (upA (upA (upA a 5 i 20) 2 i f) 4 i (a 0 2)) 6 i 0) 7 i 0
theorem postA_0 (a : Hs) (i f : Nat) : postA a i f 0 = a 0 := by
  unfold postA
  rw [upA_c (by omega), upA_c (by omega), upA_c (by omega), upA_c (by omega), upA_c (by omega)]
theorem postA_c {a : Hs} {i f c : Nat} (h : c ≠ 2 ∧ c ≠ 4 ∧ c ≠ 5 ∧ c ≠ 6 ∧ c ≠ 7) : postA a i f c = a c := by
  unfold postA
  rw [upA_c (by omega), upA_c (by omega), upA_c (by omega), upA_c (by omega), upA_c (by omega)]
theorem postA_l {a : Hs} {i f l : Nat} : postA a i f 2 l = (if l = i then f else a 2 l) ∧ postA a i f 4 l = (if l = i then a 0 2 else a 4 l) ∧ postA a i f 5 l = (if l = i then 20 else a 5 l) ∧ postA a i f 6 l = (if l = i then 0 else a 6 l) ∧ postA a i f 7 l = (if l = i then 0 else a 7 l) := by
  unfold postA
  simp only [upA_at]
  simp
theorem Gd_post {a : Hs} (h : Gd a) {i f : Nat} (hi : i < a 0 3) (hf : f < a 0 0) : Gd (postA a i f) := by
  obtain ⟨⟨w1, w2, w3, w4, w5, w6⟩, g2, g3, g4, g5, g6, g7, g8, g9⟩ := h
  unfold Gd WFg RkId
  rw [postA_0, postA_c (c := 1) (by omega), postA_c (c := 3) (by omega), postA_c (c := 8) (by omega)]
  refine ⟨⟨w1, w2, w3, w4, w5, fun l hl => ?_⟩, g2, g3, g4, g5, g6, g7, g8, fun l hl => ?_⟩
  · obtain ⟨q1, q2, q3, q4, q5, q6, q7, q8⟩ := w6 l hl
    obtain ⟨p2, p4, p5, p6, p7⟩ := postA_l (a := a) (i := i) (f := f) (l := l)
    rw [p2, p4, p5, p6, p7]
    by_cases e : l = i
    · simp only [e, if_true]
      subst e
      exact ⟨q1, hf, q3, by omega, Or.inr (Or.inl trivial), by omega, by omega, q8⟩
    · simp only [e, if_false]
      exact ⟨q1, q2, q3, q4, q5, q6, q7, q8⟩
  · obtain ⟨q1, q2, q3, q4⟩ := g9 l hl
    rw [(postA_l (a := a) (i := i) (f := f) (l := l)).2.1]
    refine ⟨q1, q2, q3, ?_⟩
    split <;> omega
theorem Gd_tick {a : Hs} (h : Gd a) (ht : a 0 2 < 999) : Gd (tickS a) := by
  obtain ⟨g1, g2, g3, g4, g5, g6, g7, g8, g9⟩ := h
  have w := WF_tick g1 (by omega)
  unfold Gd RkId
  rw [tickS_t, tickS_0 (by omega), tickS_0 (by omega), tickS_0 (by omega), tickS_0 (by omega), tickS_c (c := 1) (by omega), tickS_c (c := 3) (by omega), tickS_c (c := 4) (by omega), tickS_c (c := 8) (by omega)]
  exact ⟨w.mono (by omega), by omega, g3, g4, g5, g6, g7, g8, g9⟩
theorem Same_tick (a : Hs) : SameSt (tickS a) a := ⟨tickS_0 (by omega), tickS_0 (by omega), fun l _ => ⟨by rw [tickS_c (by omega)], by rw [tickS_c (by omega)]⟩⟩
theorem RkId.ok {a : Hs} (h : RkId a) : RkOk a := fun i j hi hj e => by rw [h i hi, h j hj] at e; exact e
theorem Gd.okT {a : Hs} (h : Gd a) {n : Nat} (hn : n ≤ 4000) : OkT n a := by
  have := h.2.1
  exact ⟨54 * a 0 2, h.1, by omega, by omega, h.2.2.2.1.ok⟩
theorem XOk.okT {X : Xs} (h : XOk X) {n : Nat} (hn : n ≤ 4000) : OkT n X.nw := by
  have := h.tk
  refine ⟨54 * X.nw 0 2, h.wf, by omega, by omega, ?_⟩
  rcases h.2.2.2.2.1 with q | ⟨q1, q2, q3, q4, q5⟩
  · exact q.2.2.2.1.ok
  · intro i j hi; omega
theorem XOk.rk {X : Xs} (h : XOk X) : RkId X.nw := by
  rcases h.2.2.2.2.1 with q | ⟨q1, q2, q3, q4, q5⟩
  · exact q.2.2.2.1
  · intro i hi; omega
theorem op_wide (sc : Nat × (Nat → Int32)) (x : Int32) : St2 sc 90 [.ref 0, .int x, Jk] 177 [.ref 359, .int x, Jk] := by
  rintro S ⟨X, hX, hC, hM⟩
  by_cases c0 : X.nw 0 3 = 0
  · refine ⟨-1000002, S, S, ?_, ?_, X, hX, hC, hM⟩
    · rw [e90_0]
      simp only [O0, if_true, hasNoC hC hX, cI_s, ii_0]
      rw [if_pos c0]
    · rw [e177_0]
      simp only [O359, oB_s]
      rw [if_pos ((hasM hM).mpr c0)]
  · have hg := hX.gd c0
    by_cases c : (2 : Int32) ≤ x ∧ x ≤ 20
    · obtain ⟨v, hv1, hv2, rfl⟩ := toN2 (l := 2) (N := 20) (by omega) (by omega) c
      obtain ⟨S1, k1, k2, k3, k4⟩ := keep_spec hC hX sc 36
      have hX1 := XOk_keep hX hg
      refine stp (X := X) (X' := (keepX X).wnow (upA X.nw 0 1 v) (keepX X).ac (keepX X).an) (r := nI (X.nw 0 1)) hX (XOk_now hX1 (Gd_wide hg hv1 hv2) (SameSt.up (by omega) (by omega) (by omega))) hM ⟨_, ?_, CR_now (S' := up S1 23 1 (nI v)) k2 k3 (HR_sc k2.now (by omega)) (fun k hk => up_row_ne (by omega)), k4.tr (FrC.up (by omega))⟩ (fun S2 hM1 => ?_)
      · rw [e90_0]
        simp only [O0, if_true, hasNoC hC hX, cI_s, ii_0]
        rw [if_neg c0, e90_1, within_eq, cI_s, ii_0, if_pos c, e90_2]
        have hw : S1 23 1 = nI (X.nw 0 1) := k2.now.2.1 1 (by omega)
        simp only [O0, if_true, k1, cV_s, Hg isH_23, Hp isH_23, oB_s, hw]
      · obtain ⟨S3, m1, m2, m3⟩ := note_spec hM1 hX sc 37
        refine ⟨up S3 365 30 (nI v), ?_, MP_now m2 hX1 (SameSt.up (by omega) (by omega) (by omega)) ?_ (fun k h1 h2 => up_row_ne h1), fun k hk => ?_⟩
        · have hin := inL sc (nI v) 2 20 2 20 S2 37 rfl rfl
          rw [e177_0]
          simp only [O359, oB_s]
          rw [if_neg (fun q => c0 ((hasM hM1).mp q)), e177_1]
          rw [hin, cI_s, ii_0, if_pos c, e177_2]
          have h30 : S3 365 30 = nI (X.nw 0 1) := m2.now.2.1
          simp only [O359, if_true, m1, cV_s, oB_s, show (30 : Int32) = nI 30 from rfl, A365_at (S := S3) (show 30 < 32 by omega), A365_st (S := S3) (show 30 < 32 by omega), h30]
        · obtain ⟨r1, r2, r3⟩ := m2.now
          refine ⟨fun l hl => ?_, ?_, ?_⟩
          · have hl' : l < X.nw 0 3 := hl
            have := hX.l6
            obtain ⟨q1, q2, q3, q4, q5⟩ := r1 l hl'
            rw [up_ne (by omega), up_ne (by omega), up_ne (by omega), up_ne (by omega), up_ne (by omega)]
            exact ⟨q1, q2, q3, q4, q5⟩
          · rw [up_same, upA_same]
          · rw [up_ne (by omega)]; exact r3
        · rw [up_row_ne (by omega)]; exact m3 k (by omega) (by omega)
    · refine ⟨-1000001, S, S, ?_, ?_, X, hX, hC, hM⟩
      · rw [e90_0]
        simp only [O0, if_true, hasNoC hC hX, cI_s, ii_0]
        rw [if_neg c0, e90_1, within_eq, cI_s, ii_0, if_neg c]
      · have hin := inL sc x 2 20 2 20 S 37 rfl rfl
        rw [e177_0]
        simp only [O359, oB_s]
        rw [if_neg (fun q => c0 ((hasM hM).mp q)), e177_1]
        rw [hin, cI_s, ii_0, if_neg c]
theorem op_kind (sc : Nat × (Nat → Int32)) (x : Int32) : St2 sc 112 [.ref 0, .int x] 211 [.ref 359, .int x] := by
  rintro S ⟨X, hX, hC, hM⟩
  have h6 := hX.l6
  by_cases c : 0 ≤ x ∧ x ≤ nI (X.nw 0 3) - 1
  · obtain ⟨i, hi, rfl⟩ := (toL (by omega)).mp c
    have hb : ¬ nI i = -1000000 := by
      have : ∀ k, k < 6 → ¬ nI k = -1000000 := by decide
      exact this i (by omega)
    refine ⟨nI (X.nw 1 i), S, S, ?_, ?_, X, hX, hC, hM⟩
    · rw [e112_0]
      simp only [O0, if_true, isLetterC hC, cI_s, ii_0]
      rw [if_pos c]
      simp only [O0, oB_s, Hg isH_23, fun S => HA isH_23 S (show i < 6 by omega), pl_I hC.now (show 1 ≤ 1 by omega) (show 1 ≤ 8 by omega) (show i < 6 by omega)]
    · rw [e211_0]
      simp only [O359, if_true, isLetterM hM.stat, cI_s, ii_0]
      rw [if_pos c]
      have := (hM.stat.2.2 i hi).1
      rw [hM.none, if_neg hb] at this
      simp only [O359, oB_s, aI_at (S := S) A363 (show i < 6 by omega) (by omega), this]
  · refine ⟨-1000001, S, S, ?_, ?_, X, hX, hC, hM⟩
    · rw [e112_0]
      simp only [O0, if_true, isLetterC hC, cI_s, ii_0]
      rw [if_neg c, e112_1]
    · rw [e211_0]
      simp only [O359, if_true, isLetterM hM.stat, cI_s, ii_0]
      rw [if_neg c, e211_1]
