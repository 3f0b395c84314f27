/-! byTurns: the reference, and the call -/
def okP (a : Hs) (p : Nat) : Bool := decide (p = a 0 3 ∨ a 5 p < 20)
def stP (a : Hs) (p : Nat) : Hs := if p < a 0 3 ∧ a 5 p < 20 then pkA a p else a
def stB (a : Hs) (b : Nat) : Hs := if 2 < a 0 1 then upA a 0 1 (a 0 1 - b) else a
theorem stP_3 (a : Hs) (p : Nat) : (stP a p) 0 3 = a 0 3 := by
  unfold stP
  split
  · exact congrFun (upA_c (by omega)) 3
  · rfl
theorem stB_3 (a : Hs) (b : Nat) : (stB a b) 0 3 = a 0 3 := by
  unfold stB
  split
  · exact upA_ne (by omega)
  · rfl
theorem OkT_P {n p : Nat} {a : Hs} (h : OkT n a) : OkT n (stP a p) := by
  unfold stP
  split
  · next c =>
    obtain ⟨B, hB⟩ := h.wf
    exact OkT_move h (dn_ok hB c.1 c.2)
  · exact h
theorem OkT_B {n b : Nat} {a : Hs} (h : OkT n a) : OkT n (stB a b) := by
  unfold stB
  split
  · obtain ⟨B, hB⟩ := h.wf
    have := hB.2.2.1
    exact OkT_wide h (by omega)
  · exact h
theorem RkId_P {p : Nat} {a : Hs} (h : RkId a) : RkId (stP a p) := by
  unfold RkId
  rw [stP_3]
  intro k hk
  unfold stP
  split
  · exact (congrFun (upA_c (by omega)) k).trans (h k hk)
  · exact h k hk
theorem RkId_B {b : Nat} {a : Hs} (h : RkId a) : RkId (stB a b) := by
  unfold RkId
  rw [stB_3]
  intro k hk
  unfold stB
  split
  · exact (congrFun (upA_c (by omega)) k).trans (h k hk)
  · exact h k hk
theorem poke197 {S : Nat → Nat → Int32} {a : Hs} {B : Nat} (h : MS S a) (hw : WFg B a) {p : Nat} (hp : p ≤ a 0 3) (sc : Nat × (Nat → Int32)) (d : Nat) : ∃ S', EX sc (d + 2) 197 0 [.ref 359, .int (nI p)] [] (mk S) = some (some (.int (if okP a p = true then 1 else 0)), mk S') ∧ MS S' (stP a p) ∧ RC S S' := by
  have h6 := hw.1
  rw [e197_0]
  simp only [O359, oB_s, h.1.2.1]
  by_cases c1 : p = a 0 3
  · refine ⟨S, ?_, ?_, RC.rf _⟩
    · rw [if_pos (by rw [c1]), if_pos (show (1 : Int32) = 0 ∨ True from Or.inr trivial), if_pos (show okP a p = true from decide_eq_true (Or.inl c1))]
    · unfold stP
      rw [if_neg (by omega)]
      exact h
  · rw [if_neg (fun q => c1 ((nI_eq (by omega) (by omega)).mp q)), e197_1]
    simp only [O359, if_true, isShaft_eq h hw (show p < a 0 3 by omega), cI_s, ii_0]
    by_cases c2 : a 5 p < 20
    · obtain ⟨S1, k1, k2, k3⟩ := goPoke_spec h hw (show p < a 0 3 by omega) c2 sc d
      refine ⟨S1, ?_, ?_, k3⟩
      · rw [if_pos c2, e197_2]
        simp only [O359, if_true, k1, cV_s]
        rw [if_pos (show okP a p = true from decide_eq_true (Or.inr c2))]
        rfl
      · unfold stP
        rw [if_pos ⟨by omega, c2⟩]
        exact k2
    · refine ⟨S, ?_, ?_, RC.rf _⟩
      · rw [if_neg c2, if_neg (show ¬ okP a p = true from fun q => by
          have := of_decide_eq_true q
          omega)]
        rfl
      · unfold stP
        rw [if_neg (fun q => c2 q.2)]
        exact h
theorem sq198 {S : Nat → Nat → Int32} {a : Hs} {B : Nat} (h : MS S a) (hw : WFg B a) {b : Nat} (hb : b ≤ 1) (sc : Nat × (Nat → Int32)) (d : Nat) : ∃ S', EX sc (d + 1) 198 0 [.ref 359, .int (nI b)] [] (mk S) = some (none, mk S') ∧ MS S' (stB a b) ∧ RC S S' := by
  have h6 := hw.1
  have hwd := hw.2.2.1
  have q30 : S 373 30 = nI (a 0 1) := h.2.2.1
  rw [e198_0]
  simp only [O359, oB_s, show (30 : Int32) = nI 30 from rfl, A373_at (S := S) (show 30 < 32 by omega), q30]
  by_cases c : 2 < a 0 1
  · refine ⟨up S 373 30 (nI (a 0 1 - b)), ?_, ?_, RC.up⟩
    · rw [if_neg (show ¬ nI (a 0 1) ≤ 2 from nI_ge (a := 2) c (by omega)), e198_2, pk_sub (by omega), A373_st (by omega)]
      rfl
    · unfold stB
      rw [if_pos c]
      exact MS_wide h h6 _
  · refine ⟨up S 373 30 (nI (a 0 1)), ?_, ?_, RC.up⟩
    · rw [if_pos (show nI (a 0 1) ≤ 2 from nI_le (b := 2) (by omega) (by omega)), e198_1, e198_2, show nI (a 0 1) - 0 = nI (a 0 1) from pk_sub (b := 0) (by omega), A373_st (by omega)]
      rfl
    · unfold stB
      rw [if_neg c]
      have := MS_wide h h6 (a 0 1)
      rw [upA_self] at this
      exact this
def gV (m n : Nat) (a : Hs) (p1 b1 p2 b2 : Nat) : Option Nat := if (okP a p1 = true ∧ okP (stB (stP a p1) b1) p2 = true) ∧ (1 ≤ n ∨ p1 = a 0 3) ∧ (2 ≤ n ∨ b1 = 0) ∧ (3 ≤ n ∨ p2 = a 0 3) ∧ (4 ≤ n ∨ b2 = 0) then some (leafV m (stB (stP (stB (stP a p1) b1) p2) b2)) else none
def gIo : Option Nat → Int32
  | none => -1
  | some v => nI v
theorem eval199 {X : Xs} (hX : XOk X) {m n p1 b1 p2 b2 : Nat} (hm : m ≤ 20) (hn : n ≤ 4) (hp1 : p1 ≤ X.nw 0 3) (hb1 : b1 ≤ 1) (hp2 : p2 ≤ X.nw 0 3) (hb2 : b2 ≤ 1) (sc : Nat × (Nat → Int32)) (d : Nat) (S : Nat → Nat → Int32) (hM : MP S X) : ∃ S', EX sc (d + 7) 199 0 [.ref 359, .int (nI n), .int (nI m), .int (nI p1), .int (nI b1), .int (nI p2), .int (nI b2), Jk] [] (mk S) = some (some (.int (gIo (gV m n X.nw p1 b1 p2 b2))), mk S') ∧ FN S S' := by
  have h6 := hX.l6
  have ok0 : OkT m X.nw := hX.okT (by omega)
  have ok1 : OkT m (stP X.nw p1) := OkT_P ok0
  have ok2 : OkT m (stB (stP X.nw p1) b1) := OkT_B ok1
  have ok3 : OkT m (stP (stB (stP X.nw p1) b1) p2) := OkT_P ok2
  have ok4 : OkT m (stB (stP (stB (stP X.nw p1) b1) p2) b2) := OkT_B ok3
  obtain ⟨B0, w0⟩ := ok0.wf
  obtain ⟨B1, w1⟩ := ok1.wf
  obtain ⟨B2, w2⟩ := ok2.wf
  obtain ⟨B3, w3⟩ := ok3.wf
  obtain ⟨B4, w4⟩ := ok4.wf
  have l2 : (stB (stP X.nw p1) b1) 0 3 = X.nw 0 3 := by rw [stB_3, stP_3]
  obtain ⟨T1, a1, a2, a3⟩ := aside_spec hM.stat hM.now h6 sc (d + 5)
  obtain ⟨T2, c1, c2, c3⟩ := poke197 a2 w0 hp1 sc (d + 4)
  obtain ⟨T3, d1, d2, d3⟩ := sq198 c2 w1 hb1 sc (d + 5)
  have f3 : FN S T3 := (a3.tr (c3.tr d3)).fm.fn
  have bad : ∀ T a' B', MS T a' → WFg B' a' → FN S T → gV m n X.nw p1 b1 p2 b2 = none → ∃ S', EX sc (d + 7) 199 1 [.ref 359, .int (nI n), .int (nI m), .int (nI p1), .int (nI b1), .int (nI p2), .int (nI b2), Jk] [] (mk T) = some (some (.int (gIo (gV m n X.nw p1 b1 p2 b2))), mk S') ∧ FN S S' := by
    intro T a' B' hT hw' hf hg
    obtain ⟨T', e1, e2, e3⟩ := sq198 hT hw' hb2 sc (d + 5)
    refine ⟨T', ?_, hf.tr e3.fm.fn⟩
    rw [e199_1, e199_2]
    simp only [O359, if_true, e1, cV_s, e199_6, hg]
    rfl
  rw [e199_0]
  simp only [O359, if_true, a1, cV_s, c1, cI_s, d1, ii_0]
  by_cases k1 : okP X.nw p1 = true
  · rw [if_pos k1]
    obtain ⟨T4, e1, e2, e3⟩ := poke197 d2 w2 (p := p2) (by rw [l2]; exact hp2) sc (d + 4)
    simp only [O359, if_true, e1, cI_s, ii_0]
    by_cases k2 : okP (stB (stP X.nw p1) b1) p2 = true
    · rw [if_pos k2]
      obtain ⟨T5, g1, g2, g3⟩ := sq198 e2 w3 hb2 sc (d + 5)
      have f5 : FN S T5 := f3.tr (e3.tr g3).fm.fn
      have h5 : T5 359 5 = nI (X.nw 0 3) := by rw [g2.1.2.1, stB_3, stP_3, stB_3, stP_3]
      rw [e199_2]
      simp only [O359, if_true, g1, cV_s, i10, if_false, oB_s, h5]
      have no : ¬ ((1 ≤ n ∨ p1 = X.nw 0 3) ∧ (2 ≤ n ∨ b1 = 0) ∧ (3 ≤ n ∨ p2 = X.nw 0 3) ∧ (4 ≤ n ∨ b2 = 0)) → ∃ S', EX sc (d + 7) 199 6 [Jk, Jk, Jk, Jk, Jk, Jk, Jk, Jk] [] (mk T5) = some (some (.int (gIo (gV m n X.nw p1 b1 p2 b2))), mk S') ∧ FN S S' := fun q => by
        refine ⟨T5, ?_, f5⟩
        have : gV m n X.nw p1 b1 p2 b2 = none := if_neg (fun z => q z.2)
        rw [this, e199_6]
        rfl
      have r3 : (1 ≤ n ∨ p1 = X.nw 0 3) → ∃ S', EX sc (d + 7) 199 3 [.ref 359, .int (nI n), .int (nI m), Jk, .int (nI b1), .int (nI p2), .int (nI b2), Jk] [] (mk T5) = some (some (.int (gIo (gV m n X.nw p1 b1 p2 b2))), mk S') ∧ FN S S' := by
        intro v1
        have r4 : (2 ≤ n ∨ b1 = 0) → ∃ S', EX sc (d + 7) 199 4 [.ref 359, .int (nI n), .int (nI m), Jk, Jk, .int (nI p2), .int (nI b2), Jk] [] (mk T5) = some (some (.int (gIo (gV m n X.nw p1 b1 p2 b2))), mk S') ∧ FN S S' := by
          intro v2
          have r5 : (3 ≤ n ∨ p2 = X.nw 0 3) → ∃ S', EX sc (d + 7) 199 5 [.ref 359, .int (nI n), .int (nI m), Jk, Jk, Jk, .int (nI b2), Jk] [] (mk T5) = some (some (.int (gIo (gV m n X.nw p1 b1 p2 b2))), mk S') ∧ FN S S' := by
            intro v3
            have r7 : (4 ≤ n ∨ b2 = 0) → ∃ S', EX sc (d + 7) 199 7 [.ref 359, Jk, .int (nI m), Jk, Jk, Jk, Jk, Jk] [] (mk T5) = some (some (.int (gIo (gV m n X.nw p1 b1 p2 b2))), mk S') ∧ FN S S' := by
              intro v4
              obtain ⟨T6, x1, x2, x3⟩ := goTicks_spec g2 (RkId_B (RkId_P (RkId_B (RkId_P hX.rk)))) ok4 (by omega) sc d
              obtain ⟨B6, w6⟩ := (OkT.tkk (n := m) (m := 0) ok4).wf
              have l6 : ly (tk m (stB (stP (stB (stP X.nw p1) b1) p2) b2)) 21 < 64 := ly_lt w6.1 21
              refine ⟨T6, ?_, f5.tr x3.fn⟩
              rw [e199_7]
              simp only [O359, if_true, x1, cV_s, boxed_spec x2.ms w6, cI_s, ones_eq T6 (n := 6) (by omega) l6]
              have : gV m n X.nw p1 b1 p2 b2 = some (leafV m (stB (stP (stB (stP X.nw p1) b1) p2) b2)) := if_pos ⟨⟨k1, k2⟩, v1, v2, v3, v4⟩
              rw [this]
              rfl
            rw [e199_5]
            by_cases y4 : 4 ≤ n
            · rw [if_pos (show (4 : Int32) ≤ nI n from nI_le (a := 4) y4 (by omega))]
              exact r7 (Or.inl y4)
            · rw [if_neg (show ¬ (4 : Int32) ≤ nI n from nI_ge (b := 4) (by omega) (by omega))]
              by_cases z4 : b2 = 0
              · rw [if_pos (show nI b2 ≤ 0 from nI_le (b := 0) (by omega) (by omega))]
                exact r7 (Or.inr z4)
              · rw [if_neg (show ¬ nI b2 ≤ 0 from nI_ge (a := 0) (by omega) (by omega))]
                exact no (by omega)
          rw [e199_4]
          simp only [O359, oB_s, h5]
          by_cases y3 : 3 ≤ n
          · rw [if_pos (show (3 : Int32) ≤ nI n from nI_le (a := 3) y3 (by omega))]
            exact r5 (Or.inl y3)
          · rw [if_neg (show ¬ (3 : Int32) ≤ nI n from nI_ge (b := 3) (by omega) (by omega))]
            by_cases z3 : p2 = X.nw 0 3
            · rw [if_neg (nI_nlt (by omega) (by omega))]
              exact r5 (Or.inr z3)
            · rw [if_pos ((nI_ltI (by omega) (by omega)).mpr (by omega))]
              exact no (by omega)
        rw [e199_3]
        by_cases y2 : 2 ≤ n
        · rw [if_pos (show (2 : Int32) ≤ nI n from nI_le (a := 2) y2 (by omega))]
          exact r4 (Or.inl y2)
        · rw [if_neg (show ¬ (2 : Int32) ≤ nI n from nI_ge (b := 2) (by omega) (by omega))]
          by_cases z2 : b1 = 0
          · rw [if_neg (show ¬ (0 : Int32) < nI b1 from nI_nlt (a := 0) (by omega) (by omega))]
            exact r4 (Or.inr z2)
          · rw [if_pos (show (0 : Int32) < nI b1 from (nI_ltI (a := 0) (by omega) (by omega)).mpr (by omega))]
            exact no (by omega)
      by_cases y1 : 1 ≤ n
      · rw [if_pos (show (1 : Int32) ≤ nI n from nI_le (a := 1) y1 (by omega))]
        exact r3 (Or.inl y1)
      · rw [if_neg (show ¬ (1 : Int32) ≤ nI n from nI_ge (b := 1) (by omega) (by omega))]
        by_cases z1 : p1 = X.nw 0 3
        · rw [if_neg (nI_nlt (by omega) (by omega))]
          exact r3 (Or.inr z1)
        · rw [if_pos ((nI_ltI (by omega) (by omega)).mpr (by omega))]
          exact no (by omega)
    · rw [if_neg k2]
      exact bad T4 _ B3 e2 w3 (f3.tr e3.fm.fn) (if_neg (fun z => k2 z.1.2))
  · rw [if_neg k1]
    exact bad T3 _ B2 d2 w2 f3 (if_neg (fun z => k1 z.1.1))
