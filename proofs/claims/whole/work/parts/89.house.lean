/-! house: the reference reads -/
theorem nres_0 {tp : Nat → Int32} {tl p lo hi : Nat} (h : nres tp tl p lo hi = 0) : lo ≤ vl tp tl p ∧ vl tp tl p ≤ hi := by
  unfold nres at h
  by_cases c : fg tp tl p = 0 ∨ fg tp tl p = 3
  · rw [if_pos c] at h; omega
  · rw [if_neg c] at h
    by_cases c2 : lo ≤ vl tp tl p ∧ vl tp tl p ≤ hi
    · exact c2
    · rw [if_neg c2] at h; omega
theorem nres_le {tp : Nat → Int32} {tl p lo hi : Nat} : nres tp tl p lo hi ≤ 2 := by
  unfold nres
  split
  · omega
  · split <;> omega
theorem bt_lt {tp : Nat → Int32} {tl p : Nat} {c : Int32} (h : bt tp tl p = c) (hc : c ≠ -1) : p < tl := by
  by_cases z : p < tl
  · exact z
  · have : bt tp tl p = -1 := if_neg z
    exact absurd (h.symm.trans this) hc
theorem fg_tl {tp : Nat → Int32} {tl p : Nat} (hp : p ≤ tl) : p + fg tp tl p ≤ tl := by
  unfold fg
  split
  · next f0 =>
    have := bt_fig f0
    split
    · next f1 =>
      have := bt_fig f1
      split
      · next f2 =>
        have := bt_fig f2
        omega
      · omega
    · omega
  · omega
theorem sgK_r {tp : Nat → Int32} {tl p : Nat} {c : Int32} {K : Nat → Ot} {z : Nat × List Nat} (h : sgK tp tl p c K = .inr z) : bt tp tl p = c ∧ K (p + 1) = .inr z := by
  unfold sgK at h
  by_cases e : bt tp tl p = c
  · rw [if_pos e] at h; exact ⟨e, h⟩
  · rw [if_neg e] at h; cases h
theorem nmK_r {tp : Nat → Int32} {tl p lo hi : Nat} {K : Nat → Nat → Ot} {z : Nat × List Nat} (h : nmK tp tl p lo hi K = .inr z) : nres tp tl p lo hi = 0 ∧ K (p + fg tp tl p) (vl tp tl p) = .inr z := by
  unfold nmK at h
  by_cases e : nres tp tl p lo hi = 0
  · rw [if_pos e] at h; exact ⟨e, h⟩
  · rw [if_neg e] at h; cases h
theorem sgK_l {tp : Nat → Int32} {tl p : Nat} {c : Int32} {K : Nat → Ot} {e q : Nat} (h : sgK tp tl p c K = .inl (e, q)) : (1 ≤ e ∧ e ≤ 3) ∨ K (p + 1) = .inl (e, q) := by
  unfold sgK at h
  by_cases c1 : bt tp tl p = c
  · rw [if_pos c1] at h; exact Or.inr h
  · rw [if_neg c1] at h
    have := (Prod.mk.inj (Sum.inl.inj h)).1
    exact Or.inl (by omega)
theorem nmK_l {tp : Nat → Int32} {tl p lo hi : Nat} {K : Nat → Nat → Ot} {e q : Nat} (h : nmK tp tl p lo hi K = .inl (e, q)) : (1 ≤ e ∧ e ≤ 3) ∨ K (p + fg tp tl p) (vl tp tl p) = .inl (e, q) := by
  unfold nmK at h
  by_cases c1 : nres tp tl p lo hi = 0
  · rw [if_pos c1] at h; exact Or.inr h
  · rw [if_neg c1] at h
    have := (Prod.mk.inj (Sum.inl.inj h)).1
    have := nres_le (tp := tp) (tl := tl) (p := p) (lo := lo) (hi := hi)
    exact Or.inl (by omega)
theorem lawO_l {tp : Nat → Int32} {tl e q : Nat} (h : lawO tp tl = .inl (e, q)) : 1 ≤ e ∧ e ≤ 3 := by
  unfold lawO at h
  rcases sgK_l h with h | h
  · exact h
  · rcases nmK_l h with h | h
    · exact h
    · rcases sgK_l h with h | h
      · exact h
      · rcases nmK_l h with h | h
        · exact h
        · rcases sgK_l h with h | h
          · exact h
          · cases h
theorem lawO_r {tp : Nat → Int32} {tl p : Nat} {vs : List Nat} (h : lawO tp tl = .inr (p, vs)) : ∃ F W, vs = [F, W] ∧ 3 ≤ F ∧ F ≤ 9 ∧ 2 ≤ W ∧ W ≤ 20 ∧ p ≤ tl := by
  unfold lawO at h
  obtain ⟨_, h⟩ := sgK_r h
  obtain ⟨n1, h⟩ := nmK_r h
  obtain ⟨_, h⟩ := sgK_r h
  obtain ⟨n2, h⟩ := nmK_r h
  obtain ⟨b, h⟩ := sgK_r h
  have := bt_lt b (by decide)
  obtain ⟨z1, z2⟩ := Prod.mk.inj (Sum.inr.inj h)
  have v1 := nres_0 n1
  have v2 := nres_0 n2
  exact ⟨_, _, z2.symm, v1.1, v1.2, v2.1, v2.2, by omega⟩
theorem letO_l {tp : Nat → Int32} {tl p F k e q : Nat} (h : letO tp tl p F k = .inl (e, q)) : 1 ≤ e ∧ e ≤ 3 := by
  unfold letO at h
  by_cases c0 : kdN (bt tp tl p) = 0
  · rw [if_pos c0] at h
    have := (Prod.mk.inj (Sum.inl.inj h)).1
    omega
  · rw [if_neg c0] at h
    by_cases c6 : k = 6
    · rw [if_pos c6] at h
      have := (Prod.mk.inj (Sum.inl.inj h)).1
      omega
    · rw [if_neg c6] at h
      rcases nmK_l h with h | h
      · exact h
      · rcases sgK_l h with h | h
        · exact h
        · rcases nmK_l h with h | h
          · exact h
          · rcases sgK_l h with h | h
            · exact h
            · rcases nmK_l h with h | h
              · exact h
              · rcases sgK_l h with h | h
                · exact h
                · cases h
theorem letO_r {tp : Nat → Int32} {tl p F k p' : Nat} {vs : List Nat} (h : letO tp tl p F k = .inr (p', vs)) : ∃ kd fl th st, vs = [kd, fl, th, st] ∧ 1 ≤ kd ∧ kd ≤ 5 ∧ fl ≤ F - 1 ∧ 1 ≤ th ∧ th ≤ 9 ∧ st ≤ 20 ∧ p < p' ∧ p' ≤ tl ∧ k ≠ 6 := by
  unfold letO at h
  by_cases c0 : kdN (bt tp tl p) = 0
  · rw [if_pos c0] at h; cases h
  · rw [if_neg c0] at h
    by_cases c6 : k = 6
    · rw [if_pos c6] at h; cases h
    · rw [if_neg c6] at h
      obtain ⟨n1, h⟩ := nmK_r h
      obtain ⟨_, h⟩ := sgK_r h
      obtain ⟨n2, h⟩ := nmK_r h
      obtain ⟨_, h⟩ := sgK_r h
      obtain ⟨n3, h⟩ := nmK_r h
      obtain ⟨b, h⟩ := sgK_r h
      have := bt_lt b (by decide)
      obtain ⟨z1, z2⟩ := Prod.mk.inj (Sum.inr.inj h)
      have v1 := nres_0 n1
      have v2 := nres_0 n2
      have v3 := nres_0 n3
      have := kdN_le (bt tp tl p)
      exact ⟨_, _, _, _, z2.symm, by omega, by omega, v1.2, v2.1, v2.2, v3.2, by omega, by omega, c6⟩
def PMo (Q : (Nat → Nat → Int32) → List Nat → Prop) (T : Nat → Nat → Int32) (o : Ot) (r : Option Res) : Prop := (∀ e p, o = .inl (e, p) → ∃ T', r = some (some (.int (nI e)), mk T') ∧ T' 359 20 = nI p ∧ FN T T') ∧ ∀ p vs, o = .inr (p, vs) → ∃ T', r = some (some (.int 0), mk T') ∧ T' 359 19 = nI p ∧ FN T T' ∧ Q T' vs
theorem PM_l {Q : (Nat → Nat → Int32) → List Nat → Prop} {S S' : Nat → Nat → Int32} {e p : Nat} {r : Option Res} (h1 : r = some (some (.int (nI e)), mk S')) (h2 : S' 359 20 = nI p) (h4 : FN S S') : PMo Q S (.inl (e, p)) r := by
  refine ⟨fun e' p' q => ?_, fun p' vs q => (by cases q)⟩
  obtain ⟨z1, z2⟩ := Prod.mk.inj (Sum.inl.inj q)
  rw [← z1, ← z2]
  exact ⟨S', h1, h2, h4⟩
theorem PM_r {Q : (Nat → Nat → Int32) → List Nat → Prop} {S S' : Nat → Nat → Int32} {p : Nat} {vs : List Nat} {r : Option Res} (h1 : r = some (some (.int 0), mk S')) (h2 : S' 359 19 = nI p) (h4 : FN S S') (h5 : Q S' vs) : PMo Q S (.inr (p, vs)) r := by
  refine ⟨fun e' p' q => (by cases q), fun p' vs' q => ?_⟩
  obtain ⟨z1, z2⟩ := Prod.mk.inj (Sum.inr.inj q)
  rw [← z1, ← z2]
  exact ⟨S', h1, h2, h4, h5⟩
theorem FN.u359 {S : Nat → Nat → Int32} {j : Nat} {x : Int32} (hj : 19 ≤ j ∧ j ≤ 27) : FN S (up S 359 j x) := ⟨fun _ h _ => up_row_ne h, fun _ _ _ c => up_ne (by omega)⟩
theorem FN.u37 {S : Nat → Nat → Int32} {k j : Nat} {x : Int32} (hk : 370 ≤ k) : FN S (up S k j x) := ⟨fun _ _ h => up_row_ne (by omega), fun _ _ _ _ => by rw [up_row_ne (by omega)]⟩
theorem law_M {tp : Nat → Int32} {tl : Nat} {T : Nat → Nat → Int32} (h : TM tp tl T) (h19 : T 359 19 = nI 0) (hz : ∀ j, j < 32 → T 372 j = 0) (h27 : T 359 27 = 0) (sc : Nat × (Nat → Int32)) (d : Nat) : PMo (fun T' vs => ∃ F W, vs = [F, W] ∧ T' 359 26 = nI F ∧ (∀ j, j < 32 → T' 372 j = if j = 30 then nI W else 0) ∧ T' 359 27 = 0) T (lawO tp tl) (EX sc (d + 5) 150 0 [.ref 359, Jk] [] (mk T)) := by
  have fl4 : ∀ e (T : Nat → Nat → Int32), 1 ≤ e → e ≤ 3 → EX sc (d + 5) 150 4 [.ref 359, .int (nI e)] [] (mk T) = some (some (.int (nI e)), mk T) := fun e T h1 h2 => by
    rw [e150_4, if_neg (nI_ne0 (by omega) (by omega)), e150_5]
  have fl3 : ∀ e (T : Nat → Nat → Int32), 1 ≤ e → e ≤ 3 → EX sc (d + 5) 150 3 [.ref 359, Jk] [.int (nI e)] (mk T) = some (some (.int (nI e)), mk T) := fun e T h1 h2 => by
    rw [e150_3, if_neg (nI_ne0 (by omega) (by omega)), fl4 e T h1 h2]
  have fl1 : ∀ e (T : Nat → Nat → Int32), 1 ≤ e → e ≤ 3 → EX sc (d + 5) 150 1 [.ref 359, .int (nI e)] [] (mk T) = some (some (.int (nI e)), mk T) := fun e T h1 h2 => by
    rw [e150_1, if_neg (nI_ne0 (by omega) (by omega)), e150_2, fl3 e T h1 h2]
  unfold lawO
  obtain ⟨T1, a1, a2, a3, a4⟩ := M_sign h (by omega) h19 (c := 104) (by decide) (by decide) (by decide) (by decide) sc d
  rw [e150_0]
  simp only [O359, if_true, a1, cI_s]
  unfold sgK
  by_cases c1 : bt tp tl 0 = 104
  · rw [if_pos c1, if_pos c1]
    have p1 := bt_lt c1 (by decide)
    obtain ⟨T2, b1, b2, b3, b4⟩ := M_num (h.fx a2) (p := 0 + 1) (by omega) (a4 c1) (lo := 3) (hi := 9) (by omega) (by omega) sc d
    have b1' : EX sc (d + 4) 149 0 [.ref 359, .int 3, .int 9] [] (mk T1) = _ := b1
    simp only [if_true, O359, b1', cI_s, oB_s, P359]
    have f2 : FN T (up T2 359 26 (T2 359 22)) := (a2.tr b2).fn.tr (FN.u359 (by omega))
    unfold nmK
    have nle := nres_le (tp := tp) (tl := tl) (p := 0 + 1) (lo := 3) (hi := 9)
    by_cases c2 : nres tp tl (0 + 1) 3 9 = 0
    · obtain ⟨b5, b6⟩ := b4 c2
      rw [if_pos c2, c2, e150_1, if_pos (show nI 0 = 0 from rfl)]
      have t2 := fg_tl (tp := tp) (tl := tl) (p := 0 + 1) (by omega)
      generalize hF : vl tp tl (0 + 1) = F at b6
      generalize hp2 : 0 + 1 + fg tp tl (0 + 1) = p2 at b5 t2
      obtain ⟨T3, hT3⟩ : ∃ T3, T3 = up T2 359 26 (T2 359 22) := ⟨_, rfl⟩
      rw [← hT3] at f2 ⊢
      have h26 : T3 359 26 = nI F := by rw [hT3, up_same]; exact b6
      have t319 : T3 359 19 = nI p2 := by rw [hT3, up_ne (by omega)]; exact b5
      obtain ⟨T4, d1, d2, d3, d4⟩ := M_sign (h.fn f2) t2 t319 (c := 44) (by decide) (by decide) (by decide) (by decide) sc d
      simp only [O359, if_true, d1, cI_s]
      by_cases c3 : bt tp tl p2 = 44
      · rw [if_pos c3, if_pos c3, e150_3, if_pos rfl]
        have p3 := bt_lt c3 (by decide)
        have f4 : FN T T4 := f2.tr d2.fn
        obtain ⟨T5, g1, g2, g3, g4⟩ := M_num (h.fn f4) (p := p2 + 1) (by omega) (d4 c3) (lo := 2) (hi := 20) (by omega) (by omega) sc d
        have g1' : EX sc (d + 4) 149 0 [.ref 359, .int 2, .int 20] [] (mk T4) = _ := g1
        have nle2 := nres_le (tp := tp) (tl := tl) (p := p2 + 1) (lo := 2) (hi := 20)
        have s30 : sI (mk T5) 372 30 (T5 359 22) = some (mk (up T5 372 30 (T5 359 22))) := sI_at A372 (j := 30) (by omega) (by omega) _
        simp only [O359, if_true, g1', cI_s, oB_s, s30]
        have f5 : FN T (up T5 372 30 (T5 359 22)) := (f4.tr g2.fn).tr (FN.u37 (by omega))
        by_cases c4 : nres tp tl (p2 + 1) 2 20 = 0
        · obtain ⟨g5, g6⟩ := g4 c4
          rw [if_pos c4, c4, e150_4, if_pos (show nI 0 = 0 from rfl)]
          have t5 := fg_tl (tp := tp) (tl := tl) (p := p2 + 1) (by omega)
          generalize hW : vl tp tl (p2 + 1) = W at g6
          generalize hp4 : p2 + 1 + fg tp tl (p2 + 1) = p4 at g5 t5
          obtain ⟨T6, hT6⟩ : ∃ T6, T6 = up T5 372 30 (T5 359 22) := ⟨_, rfl⟩
          rw [← hT6] at f5 ⊢
          have t619 : T6 359 19 = nI p4 := by rw [hT6, up_row_ne (by omega)]; exact g5
          obtain ⟨T7, k1, k2, k3, k4⟩ := M_sign (h.fn f5) t5 t619 (c := 59) (by decide) (by decide) (by decide) (by decide) sc d
          simp only [O359, if_true, k1, cI_s]
          by_cases c5 : bt tp tl p4 = 59
          · rw [if_pos c5, if_pos c5]
            refine PM_r rfl (k4 c5) (f5.tr k2.fn) ⟨F, W, rfl, ?_, fun j hj => ?_, ?_⟩
            · rw [k2.2 26 (by omega), hT6, up_row_ne (by omega), g2.2 26 (by omega), d2.2 26 (by omega)]; exact h26
            · rw [k2.1 372 (by omega), hT6]
              by_cases e : j = 30
              · rw [if_pos e, e, up_same]; exact g6
              · rw [if_neg e, up_ne (fun z => e z.2), g2.1 372 (by omega), d2.1 372 (by omega), hT3, up_row_ne (by omega), b2.1 372 (by omega), a2.1 372 (by omega)]
                exact hz j hj
            · rw [k2.2 27 (by omega), hT6, up_row_ne (by omega), g2.2 27 (by omega), d2.2 27 (by omega), hT3, up_ne (by omega), b2.2 27 (by omega), a2.2 27 (by omega)]
              exact h27
          · rw [if_neg c5, if_neg c5]
            exact PM_l (e := 1) rfl k3 (f5.tr k2.fn)
        · rw [if_neg c4, fl4 _ _ (by omega) (by omega)]
          exact PM_l rfl (by rw [up_row_ne (by omega)]; exact g3) f5
      · rw [if_neg c3, if_neg c3]
        exact PM_l (e := 1) (fl3 1 _ (by omega) (by omega)) d3 (f2.tr d2.fn)
    · rw [if_neg c2, fl1 _ _ (by omega) (by omega)]
      exact PM_l rfl (by rw [up_ne (by omega)]; exact b3) f2
  · rw [if_neg c1, if_neg c1, if_neg i10]
    exact PM_l (e := 1) (fl1 1 _ (by omega) (by omega)) a3 a2.fn
