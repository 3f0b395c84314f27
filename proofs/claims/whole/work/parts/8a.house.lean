/-! house: the reference reads a letter -/
theorem kindM (S : Nat → Nat → Int32) (x : Int32) (sc : Nat × (Nat → Int32)) (d : Nat) : EX sc (d + 1) 151 0 [.int x] [] (mk S) = some (some (.int (nI (kdN x))), mk S) := by
  rw [e151_0, e151_1, e151_2, e151_3, e151_4, e151_5]
  unfold kdN
  by_cases c1 : x = 99
  · rw [if_pos c1, if_pos c1]; rfl
  · rw [if_neg c1, if_neg c1]
    by_cases c2 : x = 115
    · rw [if_pos c2, if_pos c2]; rfl
    · rw [if_neg c2, if_neg c2]
      by_cases c3 : x = 108
      · rw [if_pos c3, if_pos c3]; rfl
      · rw [if_neg c3, if_neg c3]
        by_cases c4 : x = 112
        · rw [if_pos c4, if_pos c4]; rfl
        · rw [if_neg c4, if_neg c4]
          by_cases c5 : x = 114
          · rw [if_pos c5, if_pos c5]; rfl
          · rw [if_neg c5, if_neg c5]; rfl
theorem kdN_0 {x : Int32} (h1 : x ≠ 99) (h2 : x ≠ 115) (h3 : x ≠ 108) (h4 : x ≠ 112) (h5 : x ≠ 114) : kdN x = 0 := by
  unfold kdN
  rw [if_neg h1, if_neg h2, if_neg h3, if_neg h4, if_neg h5]
theorem kdN_tk1 (x : Int32) : kdN (tk1 x) = kdN x := by
  unfold tk1
  split
  · rfl
  · next c =>
    rw [show kdN (-1) = 0 by decide]
    refine (kdN_0 (fun z => c ?_) (fun z => c ?_) (fun z => c ?_) (fun z => c ?_) (fun z => c ?_)).symm <;> (rw [z]; decide)
theorem kdN_fig {x : Int32} (h : isF x = true) : kdN x = 0 := by
  refine kdN_0 (fun z => ?_) (fun z => ?_) (fun z => ?_) (fun z => ?_) (fun z => ?_) <;> (rw [z] at h; exact absurd h (by decide))
def MRd (T : Nat → Nat → Int32) (a : Hs) : Prop := T 359 26 = nI (a 0 0) ∧ T 359 27 = nI (a 0 3) ∧ (∀ l, l < a 0 3 → T 370 l = nI (a 1 l) ∧ T 371 l = nI (a 3 l)) ∧ MRow (T 372) a ∧ ∀ j, 6 ≤ j → j < 18 → T 372 j = 0
theorem letter_M {tp : Nat → Int32} {tl p : Nat} {T : Nat → Nat → Int32} {a : Hs} (h : TM tp tl T) (hp : p ≤ tl) (h19 : T 359 19 = nI p) (hr : MRd T a) (h4 : a 0 4 = 0) (h6 : a 0 3 ≤ 6) (hF1 : 1 ≤ a 0 0) (hF : a 0 0 ≤ 9) (sc : Nat × (Nat → Int32)) (d : Nat) : PMo (fun T' vs => ∃ kd fl th st, vs = [kd, fl, th, st] ∧ MRd T' (addA a kd fl th st)) T (letO tp tl p (a 0 0) (a 0 3)) (EX sc (d + 5) 152 0 [.ref 359, Jk, Jk, Jk] [] (mk T)) := by
  obtain ⟨r26, r27, rk, rr, rz⟩ := hr
  have fl8 : ∀ e (T' : Nat → Nat → Int32) q, 1 ≤ e → e ≤ 3 → T' 359 20 = nI q → FN T T' → ∃ T'', EX sc (d + 5) 152 8 [.ref 359, Jk, Jk, .int (nI e)] [] (mk T') = some (some (.int (nI e)), mk T'') ∧ T'' 359 20 = nI q ∧ FN T T'' := fun e T' q h1 h2 h3 h5 => by
    refine ⟨up T' 359 27 (T' 359 27 + 1), ?_, by rw [up_ne (by omega)]; exact h3, h5.tr (FN.u359 (by omega))⟩
    rw [e152_8]
    simp only [O359, oB_s, P359]
    rw [if_neg (nI_ne0 (by omega) (by omega)), e152_9]
  have fl7 : ∀ e (T' : Nat → Nat → Int32) q, 1 ≤ e → e ≤ 3 → T' 359 20 = nI q → FN T T' → ∃ T'', EX sc (d + 5) 152 7 [.ref 359, Jk, .int (nI (a 0 3)), Jk] [.int (nI e)] (mk T') = some (some (.int (nI e)), mk T'') ∧ T'' 359 20 = nI q ∧ FN T T'' := fun e T' q h1 h2 h3 h5 => by
    rw [e152_7, if_neg (nI_ne0 (by omega) (by omega))]
    exact fl8 e T' q h1 h2 h3 h5
  have fl5 : ∀ e (T' : Nat → Nat → Int32) q, 1 ≤ e → e ≤ 3 → T' 359 20 = nI q → FN T T' → ∃ T'', EX sc (d + 5) 152 5 [.ref 359, Jk, .int (nI (a 0 3)), .int (nI e)] [] (mk T') = some (some (.int (nI e)), mk T'') ∧ T'' 359 20 = nI q ∧ FN T T'' := fun e T' q h1 h2 h3 h5 => by
    rw [e152_5, if_neg (nI_ne0 (by omega) (by omega)), e152_6]
    exact fl7 e T' q h1 h2 h3 h5
  have fl4 : ∀ e (T' : Nat → Nat → Int32) q, 1 ≤ e → e ≤ 3 → T' 359 20 = nI q → FN T T' → ∃ T'', EX sc (d + 5) 152 4 [.ref 359, Jk, .int (nI (a 0 3)), Jk] [.int (nI e)] (mk T') = some (some (.int (nI e)), mk T'') ∧ T'' 359 20 = nI q ∧ FN T T'' := fun e T' q h1 h2 h3 h5 => by
    rw [e152_4, if_neg (nI_ne0 (by omega) (by omega))]
    exact fl5 e T' q h1 h2 h3 h5
  unfold letO
  have hk5 := kdN_le (bt tp tl p)
  obtain ⟨T1, a1, a2, a3, a4, a5, a6⟩ := next_spec h hp h19 sc (d + 1)
  have ek : kdN (T1 359 21) = kdN (bt tp tl p) := by
    cases f : isF (bt tp tl p) with
    | false => rw [(a4 f).1, kdN_tk1]
    | true =>
      rw [kdN_fig f]
      have := fg_le (tp := tp) (tl := tl) (p := p)
      by_cases g : fg tp tl p ≤ 2
      · rw [(a5 f g).1]; decide
      · rw [a6 (by omega)]; decide
  rw [e152_0]
  simp only [O359, if_true, a1, cV_s, oB_s, kindM, cI_s, ek]
  by_cases c0 : kdN (bt tp tl p) = 0
  · rw [if_pos c0, if_pos (show nI (kdN (bt tp tl p)) = 0 by rw [c0]; rfl)]
    exact PM_l (e := 1) rfl a3 a2.fn
  · rw [if_neg c0, if_neg (nI_ne0 (by omega) (by omega)), e152_1]
    have fF : isF (bt tp tl p) = false := by
      cases f : isF (bt tp tl p) with
      | false => rfl
      | true => exact absurd (kdN_fig f) c0
    have hpt : p < tl := by
      by_cases z : p < tl
      · exact z
      · have : bt tp tl p = -1 := if_neg z
        rw [this] at c0
        exact absurd (show kdN (-1) = 0 by decide) c0
    have b19 : T1 359 19 = nI (p + 1) := (a4 fF).2 hpt
    generalize hkd : kdN (bt tp tl p) = kd at c0 hk5
    have b27 : T1 359 27 = nI (a 0 3) := by rw [a2.2 27 (by omega)]; exact r27
    simp only [O359, oB_s, b27]
    by_cases c6 : a 0 3 = 6
    · rw [if_pos c6, if_pos (show nI (a 0 3) = 6 by rw [c6]; rfl)]
      exact PM_l (e := 3) rfl a3 a2.fn
    · rw [if_neg c6, if_neg (show ¬ nI (a 0 3) = 6 from fun z => c6 ((nI_eq (b := 6) (by omega) (by omega)).mp z)), e152_2]
      have k6 : a 0 3 < 6 := by omega
      obtain ⟨T3, hT3⟩ : ∃ T3, T3 = up (up T1 370 (a 0 3) (nI kd)) 372 (a 0 3) 20 := ⟨_, rfl⟩
      have f3 : FN T T3 := by rw [hT3]; exact (a2.fn.tr (FN.u37 (by omega))).tr (FN.u37 (by omega))
      have g3 : ∀ j, T3 359 j = T1 359 j := fun j => by rw [hT3, up_row_ne (by omega), up_row_ne (by omega)]
      have s370 : sI (mk T1) 370 (nI (a 0 3)) (nI kd) = some (mk (up T1 370 (a 0 3) (nI kd))) := sI_at A370 k6 (by omega) _
      have s372 : sI (mk (up T1 370 (a 0 3) (nI kd))) 372 (nI (a 0 3)) 20 = some (mk T3) := by rw [hT3]; exact sI_at A372 (by omega) (by omega) _
      have e26 : T3 359 26 = nI (a 0 0) := by rw [g3, a2.2 26 (by omega)]; exact r26
      have eF : nI (a 0 0) - 1 = nI (a 0 0 - 1) := pk_sub (b := 1) hF1
      obtain ⟨T4, m1, m2, m3, m4⟩ := M_num (h.fn f3) (p := p + 1) (by omega) (by rw [g3]; exact b19) (lo := 0) (hi := a 0 0 - 1) (by omega) (by omega) sc d
      have m1' : EX sc (d + 4) 149 0 [.ref 359, .int 0, .int (nI (a 0 0 - 1))] [] (mk T3) = _ := m1
      have s24 : sI (mk T4) 372 (nI (24 + a 0 3)) (T4 359 22) = some (mk (up T4 372 (24 + a 0 3) (T4 359 22))) := sI_at A372 (by omega) (by omega) _
      simp only [O359, oB_s, b27, s370, s372, e26, eF, if_true, m1', cI_s, show (24 : Int32) = nI 24 from rfl, nI_add, s24]
      obtain ⟨T5, hT5⟩ : ∃ T5, T5 = up T4 372 (24 + a 0 3) (T4 359 22) := ⟨_, rfl⟩
      have f5 : FN T T5 := by rw [hT5]; exact (f3.tr m2.fn).tr (FN.u37 (by omega))
      have g5 : ∀ j, T5 359 j = T4 359 j := fun j => by rw [hT5, up_row_ne (by omega)]
      rw [← hT5]
      unfold nmK
      have nle1 := nres_le (tp := tp) (tl := tl) (p := p + 1) (lo := 0) (hi := a 0 0 - 1)
      by_cases c1 : nres tp tl (p + 1) 0 (a 0 0 - 1) = 0
      · obtain ⟨m5, m6⟩ := m4 c1
        rw [if_pos c1, c1, if_pos (show nI 0 = 0 from rfl)]
        have t2 := fg_tl (tp := tp) (tl := tl) (p := p + 1) (by omega)
        generalize hfl : vl tp tl (p + 1) = fl at m6
        generalize hp2 : p + 1 + fg tp tl (p + 1) = p2 at m5 t2
        obtain ⟨T6, n1, n2, n3, n4⟩ := M_sign (h.fn f5) t2 (by rw [g5]; exact m5) (c := 44) (by decide) (by decide) (by decide) (by decide) sc d
        have f6 := f5.tr n2.fn
        simp only [n1, cI_s]
        unfold sgK
        by_cases c2 : bt tp tl p2 = 44
        · rw [if_pos c2, if_pos c2, e152_4, if_pos rfl]
          have p3 := bt_lt c2 (by decide)
          obtain ⟨T7, q1, q2, q3, q4⟩ := M_num (h.fn f6) (p := p2 + 1) (by omega) (n4 c2) (lo := 1) (hi := 9) (by omega) (by omega) sc d
          have q1' : EX sc (d + 4) 149 0 [.ref 359, .int 1, .int 9] [] (mk T6) = _ := q1
          have s371 : sI (mk T7) 371 (nI (a 0 3)) (T7 359 22) = some (mk (up T7 371 (a 0 3) (T7 359 22))) := sI_at A371 k6 (by omega) _
          simp only [O359, if_true, q1', cI_s, oB_s, s371]
          obtain ⟨T8, hT8⟩ : ∃ T8, T8 = up T7 371 (a 0 3) (T7 359 22) := ⟨_, rfl⟩
          have f8 : FN T T8 := by rw [hT8]; exact (f6.tr q2.fn).tr (FN.u37 (by omega))
          have g8 : ∀ j, T8 359 j = T7 359 j := fun j => by rw [hT8, up_row_ne (by omega)]
          rw [← hT8]
          have nle2 := nres_le (tp := tp) (tl := tl) (p := p2 + 1) (lo := 1) (hi := 9)
          by_cases c3 : nres tp tl (p2 + 1) 1 9 = 0
          · obtain ⟨q5, q6⟩ := q4 c3
            rw [if_pos c3, c3, e152_5, if_pos (show nI 0 = 0 from rfl)]
            have t4 := fg_tl (tp := tp) (tl := tl) (p := p2 + 1) (by omega)
            generalize hth : vl tp tl (p2 + 1) = th at q6
            generalize hp4 : p2 + 1 + fg tp tl (p2 + 1) = p4 at q5 t4
            obtain ⟨T9, u1, u2, u3, u4⟩ := M_sign (h.fn f8) t4 (by rw [g8]; exact q5) (c := 44) (by decide) (by decide) (by decide) (by decide) sc d
            have f9 := f8.tr u2.fn
            simp only [O359, if_true, u1, cI_s]
            by_cases c4 : bt tp tl p4 = 44
            · rw [if_pos c4, if_pos c4, e152_7, if_pos rfl]
              have p5 := bt_lt c4 (by decide)
              obtain ⟨T10, v1, v2, v3, v4⟩ := M_num (h.fn f9) (p := p4 + 1) (by omega) (u4 c4) (lo := 0) (hi := 20) (by omega) (by omega) sc d
              have v1' : EX sc (d + 4) 149 0 [.ref 359, .int 0, .int 20] [] (mk T9) = _ := v1
              have s18 : sI (mk T10) 372 (nI (18 + a 0 3)) (T10 359 22) = some (mk (up T10 372 (18 + a 0 3) (T10 359 22))) := sI_at A372 (by omega) (by omega) _
              simp only [O359, if_true, v1', cI_s, oB_s, show (18 : Int32) = nI 18 from rfl, nI_add, s18]
              obtain ⟨T11, hT11⟩ : ∃ T11, T11 = up T10 372 (18 + a 0 3) (T10 359 22) := ⟨_, rfl⟩
              have f11 : FN T T11 := by rw [hT11]; exact (f9.tr v2.fn).tr (FN.u37 (by omega))
              have g11 : ∀ j, T11 359 j = T10 359 j := fun j => by rw [hT11, up_row_ne (by omega)]
              rw [← hT11]
              have nle3 := nres_le (tp := tp) (tl := tl) (p := p4 + 1) (lo := 0) (hi := 20)
              by_cases c5 : nres tp tl (p4 + 1) 0 20 = 0
              · obtain ⟨v5, v6⟩ := v4 c5
                rw [if_pos c5, c5, e152_8]
                have t6 := fg_tl (tp := tp) (tl := tl) (p := p4 + 1) (by omega)
                generalize hst : vl tp tl (p4 + 1) = st at v6
                generalize hq6 : p4 + 1 + fg tp tl (p4 + 1) = p6 at v5 t6
                have h27 : T11 359 27 = nI (a 0 3) := by
                  rw [g11, v2.2 27 (by omega), u2.2 27 (by omega), g8, q2.2 27 (by omega), n2.2 27 (by omega), g5, m2.2 27 (by omega), g3]; exact b27
                simp only [O359, oB_s, h27, nI_1, P359]
                rw [if_pos (show nI 0 = 0 from rfl)]
                obtain ⟨T12, hT12⟩ : ∃ T12, T12 = up T11 359 27 (nI (a 0 3 + 1)) := ⟨_, rfl⟩
                have f12 : FN T T12 := by rw [hT12]; exact f11.tr (FN.u359 (by omega))
                rw [← hT12]
                obtain ⟨T13, w1, w2, w3, w4⟩ := M_sign (h.fn f12) t6 (by rw [hT12, up_ne (by omega), g11]; exact v5) (c := 59) (by decide) (by decide) (by decide) (by decide) sc d
                have f13 := f12.tr w2.fn
                simp only [O359, if_true, w1, cI_s]
                by_cases c7 : bt tp tl p6 = 59
                · rw [if_pos c7, if_pos c7]
                  have R : ∀ j, j ≠ a 0 3 → j ≠ 24 + a 0 3 → j ≠ 18 + a 0 3 → T13 372 j = T 372 j := fun j j1 j2 j3 => by
                    rw [w2.1 372 (by omega), hT12, up_row_ne (by omega), hT11, up_ne (fun z => j3 z.2), v2.1 372 (by omega), u2.1 372 (by omega), hT8, up_row_ne (by omega), q2.1 372 (by omega), n2.1 372 (by omega), hT5, up_ne (fun z => j2 z.2), m2.1 372 (by omega), hT3, up_ne (fun z => j1 z.2), up_row_ne (by omega), a2.1 372 (by omega)]
                  have Rk : T13 372 (a 0 3) = nI 20 := by
                    rw [w2.1 372 (by omega), hT12, up_row_ne (by omega), hT11, up_ne (by omega), v2.1 372 (by omega), u2.1 372 (by omega), hT8, up_row_ne (by omega), q2.1 372 (by omega), n2.1 372 (by omega), hT5, up_ne (by omega), m2.1 372 (by omega), hT3, up_same]
                    rfl
                  have R24 : T13 372 (24 + a 0 3) = nI fl := by
                    rw [w2.1 372 (by omega), hT12, up_row_ne (by omega), hT11, up_ne (by omega), v2.1 372 (by omega), u2.1 372 (by omega), hT8, up_row_ne (by omega), q2.1 372 (by omega), n2.1 372 (by omega), hT5, up_same]
                    exact m6
                  have R18 : T13 372 (18 + a 0 3) = nI st := by
                    rw [w2.1 372 (by omega), hT12, up_row_ne (by omega), hT11, up_same]
                    exact v6
                  have K : ∀ j, T13 370 j = up T 370 (a 0 3) (nI kd) 370 j := fun j => by
                    rw [w2.1 370 (by omega), hT12, up_row_ne (by omega), hT11, up_row_ne (by omega), v2.1 370 (by omega), u2.1 370 (by omega), hT8, up_row_ne (by omega), q2.1 370 (by omega), n2.1 370 (by omega), hT5, up_row_ne (by omega), m2.1 370 (by omega), hT3, up_row_ne (by omega), up_at, up_at, a2.1 370 (by omega)]
                  have H : ∀ j, T13 371 j = if j = a 0 3 then nI th else T 371 j := fun j => by
                    rw [w2.1 371 (by omega), hT12, up_row_ne (by omega), hT11, up_row_ne (by omega), v2.1 371 (by omega), u2.1 371 (by omega), hT8]
                    by_cases e : j = a 0 3
                    · rw [if_pos e, e, up_same]; exact q6
                    · rw [if_neg e, up_ne (fun z => e z.2), q2.1 371 (by omega), n2.1 371 (by omega), hT5, up_row_ne (by omega), m2.1 371 (by omega), hT3, up_row_ne (by omega), up_row_ne (by omega), a2.1 371 (by omega)]
                  have b4 : addA a kd fl th st 0 4 = 0 := by rw [addA_0 (by omega)]; exact h4
                  obtain ⟨x1, x2, x3, x4, x5, x6, x7, x8⟩ := addA_new (a := a) (kd := kd) (fl := fl) (th := th) (st := st)
                  refine PM_r rfl (w4 c7) f13 ⟨kd, fl, th, st, rfl, ?_, ?_, fun l hl => ?_, ⟨fun l hl => ?_, ?_, ?_⟩, fun j j1 j2 => ?_⟩
                  · rw [w2.2 26 (by omega), hT12, up_ne (by omega), g11, v2.2 26 (by omega), u2.2 26 (by omega), g8, q2.2 26 (by omega), n2.2 26 (by omega), g5, m2.2 26 (by omega), addA_0 (by omega)]
                    exact e26
                  · rw [w2.2 27 (by omega), hT12, up_same, addA_3]
                  · rw [addA_3] at hl
                    rw [K, H]
                    by_cases e : l = a 0 3
                    · rw [if_pos e, e, up_same, x1, x3]; exact ⟨rfl, rfl⟩
                    · rw [if_neg e, up_ne (fun z => e z.2), addA_old (by omega) e, addA_old (by omega) e]
                      exact rk l (by omega)
                  · rw [addA_3] at hl
                    rw [plv0 b4]
                    by_cases e : l = a 0 3
                    · rw [e, Rk, R (6 + a 0 3) (by omega) (by omega) (by omega), R (12 + a 0 3) (by omega) (by omega) (by omega), R18, R24, rz (6 + a 0 3) (by omega) (by omega), rz (12 + a 0 3) (by omega) (by omega), x2, x4, x5, x6, x7]
                      exact ⟨rfl, rfl, rfl, rfl, rfl⟩
                    · have := rr.1 l (by omega)
                      rw [plv0 h4] at this
                      rw [R l (by omega) (by omega) (by omega), R (6 + l) (by omega) (by omega) (by omega), R (12 + l) (by omega) (by omega) (by omega), R (18 + l) (by omega) (by omega) (by omega), R (24 + l) (by omega) (by omega) (by omega), addA_old (by omega) e, addA_old (by omega) e, addA_old (by omega) e, addA_old (by omega) e, addA_old (by omega) e]
                      exact this
                  · rw [R 30 (by omega) (by omega) (by omega), addA_0 (by omega)]; exact rr.2.1
                  · rw [R 31 (by omega) (by omega) (by omega), addA_0 (by omega)]; exact rr.2.2
                  · rw [R j (by omega) (by omega) (by omega)]; exact rz j j1 j2
                · rw [if_neg c7, if_neg c7]
                  exact PM_l (e := 1) rfl w3 f13
              · rw [if_neg c5]
                obtain ⟨T', z1, z2, z3⟩ := fl8 (nres tp tl (p4 + 1) 0 20) T11 (p4 + 1) (by omega) (by omega) (by rw [g11]; exact v3) f11
                exact PM_l z1 z2 z3
            · rw [if_neg c4, if_neg c4]
              obtain ⟨T', z1, z2, z3⟩ := fl7 1 T9 p4 (by omega) (by omega) u3 f9
              exact PM_l z1 z2 z3
          · rw [if_neg c3]
            obtain ⟨T', z1, z2, z3⟩ := fl5 (nres tp tl (p2 + 1) 1 9) T8 (p2 + 1) (by omega) (by omega) (by rw [g8]; exact q3) f8
            exact PM_l z1 z2 z3
        · rw [if_neg c2, if_neg c2]
          obtain ⟨T', z1, z2, z3⟩ := fl4 1 T6 p2 (by omega) (by omega) n3 f6
          exact PM_l z1 z2 z3
      · rw [if_neg c1, if_neg (nI_ne0 (by omega) (by omega)), e152_3]
        obtain ⟨T', z1, z2, z3⟩ := fl4 (nres tp tl (p + 1) 0 (a 0 0 - 1)) T5 (p + 1) (by omega) (by omega) (by rw [g5]; exact m3) f5
        exact PM_l z1 z2 z3
