/-! house: the call, at last -/
theorem houO_e {tp : Nat → Int32} {tl e q : Nat} {b : Hs} (h : houO tp tl b = .inl (e, q)) : 1 ≤ e ∧ e ≤ 3 := by
  cases hl : lawO tp tl with
  | inl z =>
    obtain ⟨e0, q0⟩ := z
    rw [houO_l hl] at h
    have := (Prod.mk.inj (Sum.inl.inj h)).1
    have := lawO_l hl
    omega
  | inr w =>
    obtain ⟨p, vs⟩ := w
    obtain ⟨F, W, rfl, _⟩ := lawO_r hl
    rw [houO_r hl] at h
    exact rdO_e 7 p _ e q h
theorem houO_gd {tp : Nat → Int32} {tl : Nat} {b b' : Hs} (h : houO tp tl b = .inr b') : Gd b' := by
  cases hl : lawO tp tl with
  | inl z => rw [houO_l hl] at h; cases h
  | inr w =>
    obtain ⟨p, vs⟩ := w
    obtain ⟨F, W, rfl, v1, v2, v3, v4, v5⟩ := lawO_r hl
    rw [houO_r hl] at h
    exact rdO_gd 7 p _ b' (GA_beg v1 v2 v3 v4) h
theorem hou1 (S : Nat → Nat → Int32) (sc : Nat × (Nat → Int32)) (d : Nat) : ∀ (n l : Nat) (T : Nat → Nat → Int32), l + n = 6 → (∀ q, q ≠ 363 → q ≠ 364 → T q = S q) → (∀ j, j < l → T 363 j = S 370 j ∧ T 364 j = S 371 j) → ∃ T', EX sc (d + 1) 154 2 [.ref 359, Jk, .int (nI l)] [] (mk T) = EX sc (d + 1) 154 3 [.ref 359, Jk, Jk] [] (mk T') ∧ (∀ q, q ≠ 363 → q ≠ 364 → T' q = S q) ∧ (∀ j, j < 6 → T' 363 j = S 370 j ∧ T' 364 j = S 371 j) := by
  intro n
  induction n with
  | zero =>
    intro l T hl h1 h2
    refine ⟨T, ?_, h1, fun j hj => h2 j (by omega)⟩
    rw [e154_2, if_pos (show (6 : Int32) ≤ nI l from nI_le (a := 6) (by omega) (by omega))]
  | succ n ih =>
    intro l T hl h1 h2
    obtain ⟨T1, t1, t2, t3⟩ := ih (l + 1) (up (up T 363 l (T 370 l)) 364 l (T 371 l)) (by omega) (fun q a b => by rw [up_row_ne b, up_row_ne a]; exact h1 q a b) (fun j hj => by
      rw [up_row_ne (show 363 ≠ 364 by omega), up_at, up_at, up_row_ne (show 364 ≠ 363 by omega), h1 370 (by omega) (by omega), h1 371 (by omega) (by omega)]
      by_cases e : j = l
      · rw [if_pos ⟨rfl, e⟩, if_pos ⟨rfl, e⟩, e]
        exact ⟨rfl, rfl⟩
      · rw [if_neg (fun q => e q.2), if_neg (fun q => e q.2)]
        exact h2 j (by omega))
    refine ⟨T1, ?_, t2, t3⟩
    have a370 : aI (mk T) 370 (nI l) = some (T 370 l) := aI_at A370 (by omega) (by omega)
    have s363 : sI (mk T) 363 (nI l) (T 370 l) = some (mk (up T 363 l (T 370 l))) := sI_at A363 (by omega) (by omega) _
    have a371 : aI (mk (up T 363 l (T 370 l))) 371 (nI l) = some (T 371 l) := by rw [aI_at A371 (by omega) (by omega), up_row_ne (by omega)]
    have s364 : sI (mk (up T 363 l (T 370 l))) 364 (nI l) (T 371 l) = some (mk (up (up T 363 l (T 370 l)) 364 l (T 371 l))) := sI_at A364 (by omega) (by omega) _
    rw [e154_2, if_neg (show ¬ (6 : Int32) ≤ nI l from nI_ge (b := 6) (by omega) (by omega))]
    simp only [O359, oB_s, a370, s363, a371, s364, nI_1]
    exact t1
theorem hou2 (S : Nat → Nat → Int32) (sc : Nat × (Nat → Int32)) (d : Nat) : EX sc (d + 1) 154 4 [.ref 359, Jk, .int 0] [] (mk S) = EX sc (d + 1) 154 5 [.ref 359, Jk, Jk] [] (mk (cpR S 365 372 0 0 32)) := by
  have := loopN (N := 32) (fun j T => EX sc (d + 1) 154 4 [.ref 359, Jk, .int (nI j)] [] (mk T)) (fun T => EX sc (d + 1) 154 5 [.ref 359, Jk, Jk] [] (mk T)) (fun j => cpR S 365 372 0 0 j) (by
    show EX sc (d + 1) 154 4 _ _ _ = EX sc (d + 1) 154 5 _ _ _
    rw [e154_4, if_pos (by decide)]) (fun j hj => by
    show EX sc (d + 1) 154 4 _ _ _ = EX sc (d + 1) 154 4 _ _ _
    rw [e154_4, if_neg (show ¬ (32 : Int32) ≤ nI j from nI_ge (b := 32) (by omega) (by omega))]
    have hst := cpR_step (S := S) (dst := 365) (src := 372) (b := 0) (a := 0) (n := j) (Or.inl (by omega))
    rw [Nat.zero_add] at hst
    have a372 : aI (mk (cpR S 365 372 0 0 j)) 372 (nI j) = some (cpR S 365 372 0 0 j 372 j) := aI_at A372 (by omega) (by omega)
    simp only [O359, oB_s, a372, A365_st (S := cpR S 365 372 0 0 j) (show j < 32 by omega), hst, nI_1]) 32 0 (by omega)
  rw [cpR_0] at this
  exact this
theorem op_house (sc : Nat × (Nat → Int32)) : St2 sc 86 [.ref 0, Jk] 154 [.ref 359, Jk, Jk] := by
  rintro S ⟨X, hX, hC, hM⟩
  obtain ⟨b, hb⟩ := hC.draft
  have ct : CT X.tp X.tl S := ⟨hX.2.1, hC.tape.1, hC.tape.2⟩
  have tm : ∀ T, MP T X → TM X.tp X.tl T := fun T hT => ⟨hX.2.1, hT.tape.1, hT.tape.2⟩
  have ac := all_C ct hb sc 33
  have hX1 := XOk_tape hX
  cases ho : houO X.tp X.tl b with
  | inl z =>
    obtain ⟨e, q⟩ := z
    have he := houO_e ho
    obtain ⟨S1, k1, k2, k3, k4, b', k5⟩ := ac.1 e q ho
    obtain ⟨S2, hS2⟩ : ∃ S2, S2 = up S1 13 1 0 := ⟨_, rfl⟩
    have c2 : CR S2 (X.wtape X.tp 0) := CR_read (b := b') hC (fun k h1 h2 => by rw [hS2, up_row_ne h1]; exact k4.1 k h1 h2) (by rw [hS2, up_same]) (by rw [hS2]; exact HR34_up k5)
    have s23 : S2 13 3 = nI e := by rw [hS2, up_ne (by omega)]; exact k3
    have s22 : ∀ x, up S2 0 11 x 13 2 = nI q := fun x => by rw [up_row_ne (by omega), hS2, up_ne (by omega)]; exact k2
    refine stp (X := X) (X' := (X.wtape X.tp 0).wfl (nI e)) (r := -1000100 - nI q) hX (XOk_fl hX1 _) hM ⟨up S2 0 11 (nI e), ?_, CR_fl c2 _, fun k hk => by rw [up_row_ne (by omega), hS2, up_row_ne (by omega)]; exact k4.1 k (by omega) (by omega)⟩ (fun T hT => ?_)
    · rw [e86_0]
      simp only [O0, oB_s, O13, if_true]
      rw [k1, cI_s]
      simp only [O0, oB_s, P13, ← hS2, if_true, O13, s23, P0, s22]
    · obtain ⟨T1, t1, t2, t3⟩ := (all_M b (tm T hT) sc 32).1 e q ho
      have g := MP_fl (MP_read hT hX t3) hX1 (nI e)
      refine ⟨_, ?_, g, t3.m.tr ((FrM.up (by omega)).tr (FrM.up (by omega)))⟩
      have y20 : up (up T1 359 14 0) 359 16 (nI e) 359 20 = nI q := by rw [up_ne (by omega), up_ne (by omega)]; exact t2
      rw [e154_0]
      simp only [O359, if_true]
      rw [t1, cI_s]
      simp only [P359, oB_s]
      rw [if_neg (nI_ne0 (by omega) (by omega))]
      simp only [O359, oB_s, y20]
  | inr b' =>
    have hg := houO_gd ho
    obtain ⟨S1, k1, k2, k3⟩ := ac.2 b' ho
    obtain ⟨S2, hS2⟩ : ∃ S2, S2 = up S1 13 1 0 := ⟨_, rfl⟩
    have h2 : HR S2 34 b' := by rw [hS2]; exact HR34_up k3
    have c2 : CR S2 (X.wtape X.tp 0) := CR_read (b := b') hC (fun k h1 h2 => by rw [hS2, up_row_ne h1]; exact k2.1 k h1 h2) (by rw [hS2, up_same]) h2
    obtain ⟨S3, m1, m2, m3⟩ := standAs_spec c2 h2 (by omega) sc 36
    refine stp (X := X) (X' := (X.wtape X.tp 0).wnow b' (X.wtape X.tp 0).ac 0) (r := nI (b' 0 3)) hX (XOk_stand hX1 hg) hM ⟨S3, ?_, m2, fun k hk => by rw [m3 k hk, hS2, up_row_ne (by omega)]; exact k2.1 k (by omega) (by omega)⟩ (fun T hT => ?_)
    · have s3 : S3 23 3 = nI (b' 0 3) := m2.now.2.1 3 (by omega)
      rw [e86_0]
      simp only [O0, oB_s, O13, if_true]
      rw [k1, cI_s]
      simp only [O0, oB_s, P13, ← hS2, i10, if_false]
      rw [e86_1]
      simp only [O0, oB_s, if_true, m1, cV_s, Hg isH_23, s3]
    · obtain ⟨T1, t1, t3, t4⟩ := (all_M b (tm T hT) sc 32).2 b' ho
      obtain ⟨r26, r27, rk, rr, rz⟩ := t4
      have g := MP_read hT hX t3
      have hl6 : b' 0 3 ≤ 6 := hg.1.1
      have hl1 : 1 ≤ b' 0 3 := hg.2.2.2.2.1
      obtain ⟨T2, hT2⟩ : ∃ T2, T2 = up T1 359 14 0 := ⟨_, rfl⟩
      rw [← hT2] at g
      obtain ⟨T3, hT3⟩ : ∃ T3, T3 = up (up (up T2 359 4 (nI (b' 0 0))) 359 5 (nI (b' 0 3))) 359 6 1 := ⟨_, rfl⟩
      obtain ⟨T4, d1, d2, d3⟩ := hou1 T3 sc 38 6 0 T3 (by omega) (fun _ _ _ => rfl) (fun j hj => by omega)
      obtain ⟨T5, hT5⟩ : ∃ T5, T5 = up (cpR T4 365 372 0 0 32) 359 11 0 := ⟨_, rfl⟩
      have n3 : ∀ k, k ≠ 359 → T3 k = T2 k := fun k hk => by rw [hT3, up_row_ne hk, up_row_ne hk, up_row_ne hk]
      have n2 : ∀ k, k ≠ 359 → T2 k = T1 k := fun k hk => by rw [hT2, up_row_ne hk]
      have hf5 : ∀ k, k ≠ 359 → k ≠ 363 → k ≠ 364 → k ≠ 365 → T5 k = T2 k := fun k a b c e => by rw [hT5, up_row_ne a, cpR_ne e, d2 k b c, n3 k a]
      have hg5 : ∀ j, j ≠ 4 ∧ j ≠ 5 ∧ j ≠ 6 ∧ j ≠ 11 → T5 359 j = T2 359 j := fun j a => by rw [hT5, up_ne (by omega), cpR_ne (by omega), d2 359 (by omega) (by omega), hT3, up_ne (by omega), up_ne (by omega), up_ne (by omega)]
      have s5 : T5 359 5 = nI (b' 0 3) := by rw [hT5, up_ne (by omega), cpR_ne (by omega), d2 359 (by omega) (by omega), hT3, up_ne (by omega), up_same]
      have hbn : ∀ j, j < 6 → ¬ nI j = -1000000 := by decide
      have st : MSt T5 b' := by
        refine ⟨by rw [hT5, up_ne (by omega), cpR_ne (by omega), d2 359 (by omega) (by omega), hT3, up_ne (by omega), up_ne (by omega), up_same], s5, fun l hl => ?_⟩
        rw [hg5 29 (by omega), g.none, if_neg (hbn l (by omega)), if_neg (hbn l (by omega)), hT5, up_row_ne (by omega), up_row_ne (by omega), cpR_ne (by omega), cpR_ne (by omega), (d3 l (by omega)).1, (d3 l (by omega)).2, n3 370 (by omega), n3 371 (by omega), n2 370 (by omega), n2 371 (by omega)]
        exact rk l hl
      refine ⟨T5, ?_, ?_, fun k hk => by rw [hf5 k (by omega) (by omega) (by omega) (by omega), n2 k (by omega)]; exact t3.m k hk⟩
      · have y26 : T2 359 26 = nI (b' 0 0) := by rw [hT2, up_ne (by omega)]; exact r26
        have y27 : ∀ x, up T2 359 4 x 359 27 = nI (b' 0 3) := fun x => by rw [up_ne (by omega), hT2, up_ne (by omega)]; exact r27
        have d1' : EX sc 39 154 2 [.ref 359, Jk, .int 0] [] (mk T3) = EX sc 39 154 3 [.ref 359, Jk, Jk] [] (mk T4) := d1
        rw [e154_0]
        simp only [O359, if_true]
        rw [t1, cI_s]
        simp only [P359, oB_s, if_true]
        rw [← hT2, e154_1]
        simp only [O359, oB_s, y26, P359, y27]
        rw [if_pos (Or.inr trivial), ← hT3, d1', e154_3, hou2, e154_5]
        simp only [P359, oB_s, O359]
        rw [← hT5, s5]
      · exact ⟨by rw [hf5 360 (by omega) (by omega) (by omega) (by omega), hf5 361 (by omega) (by omega) (by omega) (by omega), hf5 362 (by omega) (by omega) (by omega) (by omega)]; exact g.shelf, by rw [hg5 3 (by omega)]; exact g.st, by rw [hg5 16 (by omega)]; exact g.fl, by rw [hg5 14 (by omega), hf5 368 (by omega) (by omega) (by omega) (by omega)]; exact g.tape, by rw [hg5 18 (by omega), hf5 369 (by omega) (by omega) (by omega) (by omega)]; exact g.trace, by rw [hg5 29 (by omega)]; exact g.none, st, rr.congr hl6 (fun j hj => by
          rw [hT5, up_row_ne (by omega), cpR_at (by omega) (by omega), d2 372 (by omega) (by omega), n3 372 (by omega), n2 372 (by omega)]
          show T1 372 (0 + (j - 0)) = T1 372 j
          rw [Nat.sub_zero, Nat.zero_add]), by
          show T5 359 6 = if b' 0 3 = 0 then 0 else 1
          rw [if_neg (by omega), hT5, up_ne (by omega), cpR_ne (by omega), d2 359 (by omega) (by omega), hT3, up_same], ⟨by rw [hT5, up_same]; rfl, fun j hj => absurd (show j < 0 from hj) (by omega)⟩, by rw [hg5 13 (by omega), hf5 367 (by omega) (by omega) (by omega) (by omega)]; exact g.img⟩
