/-! drawn -/
def drX (x : Nat) : Nat := x * 16807 % 2147483647
def drB (a : Hs) (x : Nat) : Hs := if a 5 (x % a 0 3) = 21 then postA a (x % a 0 3) (x % a 0 0) else if x % 4 = 0 then upA a 0 1 (x % 19 + 2) else a
def drN : Nat → Hs → Nat → Int32 → Hs × Int32
  | 0, a, _, c => (a, c)
  | n + 1, a, x, c => drN n (tickS (drB a (drX x))) (drX x) (c + (nI (bitN 6 (ly (tickS (drB a (drX x))) 21)) - nI (bitN 6 (ly (drB a (drX x)) 21))))
theorem OkT_post {n : Nat} {a : Hs} (h : OkT n a) {i f : Nat} (hf : f < a 0 0) : OkT n (postA a i f) := by
  obtain ⟨B, ⟨w1, w2, w3, w4, w5, w6⟩, h2, h3, h4⟩ := h
  refine ⟨B, ?_, h2, by rw [postA_0]; exact h3, ?_⟩
  · unfold WFg
    rw [postA_0, postA_c (c := 1) (by omega), postA_c (c := 3) (by omega), postA_c (c := 8) (by omega)]
    refine ⟨w1, w2, w3, w4, w5, fun l hl => ?_⟩
    obtain ⟨q1, q2, q3, q4, q5, q6, q7, q8⟩ := w6 l hl
    obtain ⟨p2, p4, p5, p6, p7⟩ := postA_l (a := a) (i := i) (f := f) (l := l)
    rw [p2, p4, p5, p6, p7]
    by_cases e : l = i
    · simp only [e, if_true]
      subst e
      exact ⟨q1, hf, q3, by omega, Or.inr (Or.inl trivial), by omega, by omega, q8⟩
    · simp only [e, if_false]
      exact ⟨q1, q2, q3, q4, q5, q6, q7, q8⟩
  · unfold RkOk
    rw [postA_0, postA_c (c := 8) (by omega)]
    exact h4
/-- what stays through draws -/
def DrOk (n : Nat) (a : Hs) : Prop := OkT n a ∧ RkId a ∧ a 0 4 = 0 ∧ 0 < a 0 3 ∧ 0 < a 0 0
theorem DrOk.b {n : Nat} {a : Hs} (h : DrOk n a) (x : Nat) : DrOk n (drB a x) ∧ (drB a x) 0 3 = a 0 3 ∧ (drB a x) 0 0 = a 0 0 := by
  obtain ⟨h1, h2, h3, h4, h5⟩ := h
  unfold drB
  split
  · refine ⟨⟨OkT_post h1 (Nat.mod_lt _ h5), ?_, by rw [postA_0]; exact h3, by rw [postA_0]; exact h4, by rw [postA_0]; exact h5⟩, by rw [postA_0], by rw [postA_0]⟩
    unfold RkId
    rw [postA_0, postA_c (c := 8) (by omega)]
    exact h2
  · split
    · have : x % 19 < 19 := Nat.mod_lt _ (by omega)
      exact ⟨⟨OkT_wide h1 (by omega), h2, h3, h4, h5⟩, rfl, rfl⟩
    · exact ⟨⟨h1, h2, h3, h4, h5⟩, rfl, rfl⟩
theorem DrOk.t {n : Nat} {a : Hs} (h : DrOk (n + 1) a) : DrOk n (tickS a) := by
  obtain ⟨h1, h2, h3, h4, h5⟩ := h
  refine ⟨h1.tick, ?_, by rw [tickS_0 (by omega)]; exact h3, by rw [tickS_0 (by omega)]; exact h4, by rw [tickS_0 (by omega)]; exact h5⟩
  unfold RkId
  rw [tickS_0 (by omega), tickS_c (by omega)]
  exact h2
theorem drX_lt (x : Nat) : drX x < 2147483647 := Nat.mod_lt _ (by omega)
theorem drX_I {x : Nat} (hx : x < 2147483648) : (lN x * 16807) - (lN x * 16807) / 2147483647 * 2147483647 = lN (drX x) := by
  rw [show (16807 : Int64) = lN 16807 from rfl, lN_mul, show (2147483647 : Int64) = lN 2147483647 from rfl]
  exact pk_lRem (by omega) (by omega) (by omega)
theorem lrem_I {x m : Nat} (hx : x < 2147483648) (hm : 0 < m) (hm2 : m < 1000) : Int64.toInt32 (lN x - lN x / Int32.toInt64 (nI m) * Int32.toInt64 (nI m)) = nI (x % m) := by
  rw [nI_l (by omega), pk_lRem (by omega) hm (by omega), lN_i]
theorem drC_loop {N : Nat} (hN : N ≤ 60) (w : Int32) (sc : Nat × (Nat → Int32)) (d : Nat) : ∀ (n t : Nat) (S : Nat → Nat → Int32) (a : Hs) (x : Nat) (c : Int32), t + n = N → HR S 46 a → DrOk (n + 1) a → x < 2147483648 → ∃ S', EX sc (d + 4) 52 1 [.ref 45, Jk, .int (nI N), Jk, .int w, .long (lN x), Jk, .int c, .int (nI t), Jk, Jk] [] (mk S) = EX sc (d + 4) 52 4 [.ref 45, Jk, Jk, Jk, .int w, Jk, Jk, .int (drN n a x c).2, Jk, Jk, Jk] [] (mk S') ∧ HR S' 46 (drN n a x c).1 ∧ (drN n a x c).1 0 3 = a 0 3 ∧ FS S S' := by
  intro n
  induction n with
  | zero =>
    intro t S a x c ht h hd hx
    refine ⟨S, ?_, h, rfl, FS.rf _⟩
    rw [e52_1, if_pos (nI_le (by omega) (by omega))]
    rfl
  | succ n ih =>
    intro t S a x c ht h hd hx
    obtain ⟨hok, hrk, hnv, hL, hF⟩ := id hd
    obtain ⟨B, hw⟩ := hok.wf
    have h6 := hw.1
    have h9 := hw.2.1
    have hx2 := drX_lt x
    obtain ⟨⟨bok, brk, bnv, bL, bF⟩, bL2, bF2⟩ := hd.b (drX x)
    have hl : drX x % a 0 3 < a 0 3 := Nat.mod_lt _ hL
    have hl6 : drX x % a 0 3 < 6 := by omega
    have p5 : S 51 (drX x % a 0 3) = nI (a 5 (drX x % a 0 3)) := pl_I h (show 1 ≤ 5 by omega) (show 5 ≤ 8 by omega) hl6
    have h22 := pl_22 hw hl
    have e21 : (nI (a 5 (drX x % a 0 3)) = 21) ↔ a 5 (drX x % a 0 3) = 21 := nI_eq (b := 21) (by omega) (by omega)
    have e4 : (lg_cmp (lN (drX x) - lN (drX x) / 4 * 4) 0 = 0) ↔ drX x % 4 = 0 := by
      rw [lg_cmp_eq, show (4 : Int64) = lN 4 from rfl, pk_lRem (by omega) (by omega) (by omega)]
      exact pk_lEQ (b := 0) (by omega) (by omega)
    have e19 : Int64.toInt32 (lN (drX x) - lN (drX x) / 19 * 19) + 2 = nI (drX x % 19 + 2) := by
      rw [show (19 : Int64) = lN 19 from rfl, pk_lRem (by omega) (by omega) (by omega), lN_i]
      exact nI_add _ 2
    have nz : ∀ m, 0 < m → m < 1000 → ¬ Int32.toInt64 (nI m) = 0 := fun m h1 h2 q => by
      rw [nI_l (by omega)] at q
      have := (pk_lEQ (a := m) (b := 0) (by omega) (by omega)).mp q
      omega
    have next : ∀ S1, HR S1 46 (drB a (drX x)) → FS S S1 → ∃ S', EX sc (d + 4) 52 3 [.ref 45, Jk, .int (nI N), Jk, .int w, .long (lN (drX x)), Jk, .int c, .int (nI t), Jk, Jk] [] (mk S1) = EX sc (d + 4) 52 4 [.ref 45, Jk, Jk, Jk, .int w, Jk, Jk, .int (drN (n + 1) a x c).2, Jk, Jk, Jk] [] (mk S') ∧ HR S' 46 (drN (n + 1) a x c).1 ∧ (drN (n + 1) a x c).1 0 3 = a 0 3 ∧ FS S S' := by
      intro S1 hb hfs
      have hb6 := bok.l6
      obtain ⟨S2, k1, k2, k3⟩ := tickT hb bok sc d
      have ht6 : (tickS (drB a (drX x))) 0 3 ≤ 6 := by rw [tickS_0 (by omega)]; exact hb6
      obtain ⟨S3, m1, m2, m3, m4⟩ := ih (t + 1) S2 (tickS (drB a (drX x))) (drX x) (c + (nI (bitN 6 (ly (tickS (drB a (drX x))) 21)) - nI (bitN 6 (ly (drB a (drX x)) 21)))) (by omega) k2 (DrOk.t ⟨bok, brk, bnv, bL, bF⟩) (by omega)
      refine ⟨S3, ?_, m2, ?_, (hfs.tr (k3.fs (Or.inl rfl))).tr m4⟩
      · rw [e52_3]
        simp only [O45, oB_s, Hg isH_46, if_true, lettersBoxed_eq hb hb6 sc (d + 1), cI_s, k1, cV_s, lettersBoxed_eq k2 ht6 sc (d + 1), nI_1]
        exact m1
      · show (drN n (tickS (drB a (drX x))) (drX x) _).1 0 3 = a 0 3
        rw [m3, tickS_0 (by omega), bL2]
    have cb : drB a (drX x) = if a 5 (drX x % a 0 3) = 21 then postA a (drX x % a 0 3) (drX x % a 0 0) else if drX x % 4 = 0 then upA a 0 1 (drX x % 19 + 2) else a := rfl
    rw [e52_1, if_neg (nI_ge (by omega) (by omega)), drX_I hx]
    simp only [O45, oB_s, Hg isH_46, h.2.1 3 (by omega), h.2.1 0 (by omega), lrem_I (show drX x < 2147483648 by omega) hL (show a 0 3 < 1000 by omega), lrem_I (show drX x < 2147483648 by omega) hF (show a 0 0 < 1000 by omega), fun S => HA isH_46 S hl6, p5, if_true]
    rw [if_neg (nI_nle hL (by omega)), if_neg (nI_nle hF (by omega)), if_neg (by decide), if_neg (nz _ hL (by omega))]
    by_cases c1 : a 5 (drX x % a 0 3) = 21
    · rw [if_pos (e21.mpr c1), if_neg (nz _ hF (by omega))]
      obtain ⟨S1, k1, k2, k3⟩ := postAnew_spec h hw (f := drX x % a 0 0) hl sc (d + 1)
      rw [k1, cV_s]
      exact next S1 (by rw [cb, if_pos c1]; exact k2) (k3.fs (Or.inl rfl))
    · rw [if_neg (fun q => c1 (e21.mp q)), e52_2, if_neg (by decide)]
      by_cases c2 : drX x % 4 = 0
      · rw [if_pos (e4.mpr c2)]
        simp only [O45, oB_s, e19, Hp isH_46]
        rw [if_neg (by decide)]
        exact next _ (by rw [cb, if_neg c1, if_pos c2]; exact HR_sc h (by omega)) (Fr.fs (p := 46) (fun k hk => up_row_ne (by omega)) (Or.inl rfl))
      · rw [if_neg (fun q => c2 (e4.mp q))]
        exact next S (by rw [cb, if_neg c1, if_neg c2]; exact h) (FS.rf _)
