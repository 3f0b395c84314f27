/-! lost: the class's sum -/
def wB (a : Hs) (l n s : Nat) : Prop := s.testBit l = false ∧ (tk n (upA a 0 4 s)) 5 l = 21
theorem OkT_nv {n v : Nat} {a : Hs} (h : OkT n a) (hv : v < 64) : OkT n (upA a 0 4 v) := by
  obtain ⟨B, w, h2, h3, h4⟩ := h
  refine ⟨B, ⟨w.1, w.2.1, w.2.2.1, w.2.2.2.1, ?_, w.2.2.2.2.2⟩, h2, h3, h4⟩
  rw [upA_same]
  exact hv
theorem without_spec {S : Nat → Nat → Int32} {a : Hs} {n l s : Nat} (h : HR S 23 a) (hw : OkT 100 a) (hn : n ≤ 60) (hl : l < a 0 3) (hs : s < 64) (sc : Nat × (Nat → Int32)) (d : Nat) : ∃ S' r, EX sc (d + 4) 49 0 [.ref 45, .ref 23, .int (nI l), .int (nI n), .int (nI s), Jk] [] (mk S) = some (some (.int r), mk S') ∧ (r = 1 ∧ wB a l n s ∨ r = 0 ∧ ¬ wB a l n s) ∧ FS S S' := by
  have h6 := hw.l6
  rw [e49_0, bit_I s hs l (by omega)]
  cases hb : s.testBit l with
  | true =>
    rw [if_pos rfl, if_neg (by decide), if_pos (Or.inl rfl)]
    exact ⟨S, 0, rfl, Or.inr ⟨rfl, fun q => by have := q.1; rw [hb] at this; cases this⟩, FS.rf _⟩
  | false =>
    rw [if_pos (show nI (if false = true then 1 else 0) = 0 from rfl), e49_1]
    obtain ⟨S1, k1, k2, k3⟩ := copyFrom_spec h isH_46 (Or.inr (by omega)) sc (d + 2)
    have k4 : HR (up S1 46 4 (nI s)) 46 (upA a 0 4 s) := HR_sc k2 (by omega)
    obtain ⟨S2, m1, m2⟩ := loop49 hn sc d n 0 (up S1 46 4 (nI s)) (upA a 0 4 s) (by omega) k4 (OkT_nv (hw.le (by omega)) hs) hl
    simp only [O45, oB_s, Hg isH_46, if_true, k1, cV_s, Hp isH_46, show (0 : Int32) = nI 0 from rfl, m1]
    refine ⟨S2, _, rfl, ?_, ((k3.fs (Or.inl rfl)).tr (Fr.fs (p := 46) (fun k hk => up_row_ne (by omega)) (Or.inl rfl))).tr m2⟩
    by_cases c : (tk n (upA a 0 4 s)) 5 l = 21
    · rw [if_pos c]; exact Or.inl ⟨rfl, hb, c⟩
    · rw [if_neg c]; exact Or.inr ⟨rfl, fun q => c q.2⟩
