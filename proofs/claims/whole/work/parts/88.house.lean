/-! house: the class reads -/
def PC (Q : (Nat → Nat → Int32) → List Nat → Prop) (S : Nat → Nat → Int32) (o : Ot) (r : Option Res) : Prop := (∀ e p, o = .inl (e, p) → ∃ S', r = some (some (.int 0), mk S') ∧ S' 13 2 = nI p ∧ S' 13 3 = nI e ∧ FR S S' ∧ ∃ b, HR S' 34 b) ∧ ∀ p vs, o = .inr (p, vs) → ∃ S', r = some (some (.int 1), mk S') ∧ S' 13 2 = nI p ∧ FR S S' ∧ Q S' vs
theorem PC_l {Q : (Nat → Nat → Int32) → List Nat → Prop} {S S' : Nat → Nat → Int32} {e p : Nat} {r : Option Res} {b : Hs} (h1 : r = some (some (.int 0), mk S')) (h2 : S' 13 2 = nI p) (h3 : S' 13 3 = nI e) (h4 : FR S S') (h5 : HR S' 34 b) : PC Q S (.inl (e, p)) r := by
  refine ⟨fun e' p' q => ?_, fun p' vs q => by cases q⟩
  obtain ⟨z1, z2⟩ := Prod.mk.inj (Sum.inl.inj q)
  rw [← z1, ← z2]
  exact ⟨S', h1, h2, h3, h4, b, h5⟩
theorem PC_r {Q : (Nat → Nat → Int32) → List Nat → Prop} {S S' : Nat → Nat → Int32} {p : Nat} {vs : List Nat} {r : Option Res} (h1 : r = some (some (.int 1), mk S')) (h2 : S' 13 2 = nI p) (h4 : FR S S') (h5 : Q S' vs) : PC Q S (.inr (p, vs)) r := by
  refine ⟨fun e' p' q => (by cases q), fun p' vs' q => ?_⟩
  obtain ⟨z1, z2⟩ := Prod.mk.inj (Sum.inr.inj q)
  rw [← z1, ← z2]
  exact ⟨S', h1, h2, h4, h5⟩
theorem orT {x : Int32} {A : Option Res} (h : x = 0 ∨ x = 1) : (if x = 0 ∨ x = 1 then A else none) = A := if_pos h
theorem law_C {tp : Nat → Int32} {tl : Nat} {S : Nat → Nat → Int32} {b : Hs} (h : CT tp tl S) (h2 : S 13 2 = nI 0) (hb : HR S 34 b) (sc : Nat × (Nat → Int32)) (d : Nat) : PC (fun S' vs => ∃ F W, vs = [F, W] ∧ HR S' 34 (begA b F W)) S (lawO tp tl) (EX sc (d + 4) 59 0 [.ref 13, .ref 34, Jk] [] (mk S)) := by
  unfold lawO
  rw [e59_0]
  simp only [O13, if_true, C_sign h (show 0 ≤ 1000 by omega) h2]
  unfold sgK
  by_cases c1 : bt tp tl 0 = 104
  · rw [if_pos c1, if_pos c1]
    have f1 : FR S (up S 13 2 (nI (0 + 1))) := FR.up (by omega)
    have cn := C_num (h.fr f1) (p := 0 + 1) (by omega) (up_same _ _ _ _) (lo := 3) (hi := 9) (by omega) (by omega) sc d
    have cn' : EX sc (d + 3) 62 0 [.ref 13, .int 3, .int 9, Jk, Jk] [] (mk (up S 13 2 (nI (0 + 1)))) = _ := cn
    simp only [cI_s, i10, if_false, O13, if_true, cn']
    unfold nmK
    have l1 := fg_le (tp := tp) (tl := tl) (p := 0 + 1)
    by_cases c2 : nres tp tl (0 + 1) 3 9 = 0
    · rw [if_pos c2, if_pos c2]
      generalize hF : vl tp tl (0 + 1) = F
      generalize hp2 : 0 + 1 + fg tp tl (0 + 1) = p2
      obtain ⟨S2, hS2⟩ : ∃ S2, S2 = up (up (up S 13 2 (nI (0 + 1))) 13 4 (nI F)) 13 2 (nI p2) := ⟨_, rfl⟩
      have f2 : FR S S2 := by rw [hS2]; exact (f1.tr (FR.up (by omega))).tr (FR.up (by omega))
      have b2 : HR S2 34 b := by rw [hS2]; exact HR34_up (HR34_up (HR34_up hb))
      have s24 : S2 13 4 = nI F := by rw [hS2, up_ne (by omega), up_same]
      have s22 : S2 13 2 = nI p2 := by rw [hS2, up_same]
      rw [← hS2]
      simp only [cI_s, i10, if_false]
      rw [e59_2]
      simp only [O13, oB_s, s24, if_true, C_sign (h.fr f2) (show p2 ≤ 1000 by omega) s22]
      by_cases c3 : bt tp tl p2 = 44
      · rw [if_pos c3, if_pos c3]
        have f3 : FR S2 (up S2 13 2 (nI (p2 + 1))) := FR.up (by omega)
        have cm := C_num (h.fr (f2.tr f3)) (p := p2 + 1) (by omega) (up_same _ _ _ _) (lo := 2) (hi := 20) (by omega) (by omega) sc d
        have cm' : EX sc (d + 3) 62 0 [.ref 13, .int 2, .int 20, Jk, Jk] [] (mk (up S2 13 2 (nI (p2 + 1)))) = _ := cm
        simp only [cI_s, i10, if_false, O13, if_true, cm']
        have l2 := fg_le (tp := tp) (tl := tl) (p := p2 + 1)
        by_cases c4 : nres tp tl (p2 + 1) 2 20 = 0
        · rw [if_pos c4, if_pos c4]
          generalize hW : vl tp tl (p2 + 1) = W
          generalize hp4 : p2 + 1 + fg tp tl (p2 + 1) = p4
          obtain ⟨S4, hS4⟩ : ∃ S4, S4 = up (up (up S2 13 2 (nI (p2 + 1))) 13 4 (nI W)) 13 2 (nI p4) := ⟨_, rfl⟩
          have f4 : FR S S4 := by rw [hS4]; exact ((f2.tr f3).tr (FR.up (by omega))).tr (FR.up (by omega))
          have b4 : HR S4 34 b := by rw [hS4]; exact HR34_up (HR34_up (HR34_up b2))
          have s44 : S4 13 4 = nI W := by rw [hS4, up_ne (by omega), up_same]
          have s42 : S4 13 2 = nI p4 := by rw [hS4, up_same]
          rw [← hS4]
          simp only [cI_s, i10, if_false]
          rw [e59_4]
          obtain ⟨S5, k1, k2, k3⟩ := begin_spec b4 F W sc (d + 2)
          have f5 : FR S S5 := f4.tr k3.r
          have s52 : S5 13 2 = nI p4 := by rw [k3 13 (by omega)]; exact s42
          simp only [O13, oB_s, s44, Hg isH_34, if_true, k1, cV_s, C_sign (h.fr f5) (show p4 ≤ 1000 by omega) s52]
          by_cases c5 : bt tp tl p4 = 59
          · rw [if_pos c5, if_pos c5, cI_s, orT (Or.inr rfl)]
            exact PC_r rfl (up_same _ _ _ _) (f5.tr (FR.up (by omega))) ⟨F, W, rfl, HR34_up k2⟩
          · rw [if_neg c5, if_neg c5, cI_s, orT (Or.inl rfl)]
            exact PC_l rfl (by rw [up_ne (by omega)]; exact s52) (up_same _ _ _ _) (f5.tr (FR.up (by omega))) (HR34_up k2)
        · rw [if_neg c4, if_neg c4]
          simp only [cI_s, if_true, e59_3]
          exact PC_l (orT (Or.inl rfl)) (by rw [up_ne (by omega), up_same]) (up_same _ _ _ _) ((f2.tr f3).tr (FR.up (by omega))) (HR34_up (HR34_up b2))
      · rw [if_neg c3, if_neg c3]
        simp only [cI_s, if_true, e59_3]
        exact PC_l (orT (Or.inl rfl)) (by rw [up_ne (by omega)]; exact s22) (up_same _ _ _ _) (f2.tr (FR.up (by omega))) (HR34_up b2)
    · rw [if_neg c2, if_neg c2]
      simp only [cI_s, if_true, e59_1]
      exact PC_l (orT (Or.inl rfl)) (by rw [up_ne (by omega), up_same]) (up_same _ _ _ _) (f1.tr (FR.up (by omega))) (HR34_up (HR34_up hb))
  · rw [if_neg c1, if_neg c1]
    simp only [cI_s, if_true, e59_1]
    exact PC_l (orT (Or.inl rfl)) (by rw [up_ne (by omega)]; exact h2) (up_same _ _ _ _) (FR.up (by omega)) (HR34_up hb)
theorem kindC (S : Nat → Nat → Int32) (x : Int32) (sc : Nat × (Nat → Int32)) (d : Nat) : EX sc (d + 1) 66 0 [.int x] [] (mk S) = some (some (.int (nI (kdN x))), mk S) := by
  have e : ∀ k : Nat, k < 200 → ((x.toInt = (k : Int)) ↔ x = nI k) := fun k hk => by
    rw [← Int32.toInt_inj, nI_toInt (by omega)]
  have e99 : (x.toInt = (99 : Nat)) ↔ x = 99 := e 99 (by omega)
  have e108 : (x.toInt = (108 : Nat)) ↔ x = 108 := e 108 (by omega)
  have e112 : (x.toInt = (112 : Nat)) ↔ x = 112 := e 112 (by omega)
  have e114 : (x.toInt = (114 : Nat)) ↔ x = 114 := e 114 (by omega)
  have e115 : (x.toInt = (115 : Nat)) ↔ x = 115 := e 115 (by omega)
  rw [e66_0]
  unfold kdN
  by_cases c1 : x = 99
  · rw [if_pos (e99.mpr c1), if_pos c1, e66_1]; rfl
  · rw [if_neg (fun q => c1 (e99.mp q)), if_neg c1]
    by_cases c2 : x = 108
    · rw [if_pos (e108.mpr c2), e66_3, c2]; rfl
    · rw [if_neg (fun q => c2 (e108.mp q))]
      by_cases c3 : x = 112
      · rw [if_pos (e112.mpr c3), e66_4, c3]; rfl
      · rw [if_neg (fun q => c3 (e112.mp q))]
        by_cases c4 : x = 114
        · rw [if_pos (e114.mpr c4), e66_5, c4]; rfl
        · rw [if_neg (fun q => c4 (e114.mp q))]
          by_cases c5 : x = 115
          · rw [if_pos (e115.mpr c5), e66_2, c5]; rfl
          · rw [if_neg (fun q => c5 (e115.mp q)), e66_6, if_neg c5, if_neg c2, if_neg c3, if_neg c4]; rfl
theorem letter_C {tp : Nat → Int32} {tl p : Nat} {S : Nat → Nat → Int32} {a : Hs} (h : CT tp tl S) (hp : p ≤ 200) (h2 : S 13 2 = nI p) (ha : HR S 34 a) (h6 : a 0 3 ≤ 6) (hF1 : 1 ≤ a 0 0) (hF : a 0 0 ≤ 9) (sc : Nat × (Nat → Int32)) (d : Nat) : PC (fun S' vs => ∃ kd fl th st, vs = [kd, fl, th, st] ∧ HR S' 34 (addA a kd fl th st)) S (letO tp tl p (a 0 0) (a 0 3)) (EX sc (d + 4) 60 0 [.ref 13, .ref 34, Jk, Jk, Jk] [] (mk S)) := by
  unfold letO
  have hk5 := kdN_le (bt tp tl p)
  rw [e60_0]
  simp only [O13, oB_s, h2, if_true, byteAt_eq h (show p ≤ 1000 by omega), cI_s, kindC]
  by_cases c0 : kdN (bt tp tl p) = 0
  · rw [if_pos c0, if_pos (show nI (kdN (bt tp tl p)) = 0 by rw [c0]; rfl), fails_eq, cI_s, orT (Or.inl rfl)]
    exact PC_l rfl (by rw [up_ne (by omega)]; exact h2) (up_same _ _ _ _) (FR.up (by omega)) (HR34_up ha)
  · rw [if_neg c0, if_neg (nI_ne0 (by omega) (by omega)), e60_1]
    generalize hkd : kdN (bt tp tl p) = kd at c0 hk5
    simp only [Hg isH_34, oB_s, ha.2.1 3 (by omega)]
    by_cases c6 : a 0 3 = 6
    · rw [if_pos c6, if_neg (show ¬ nI (a 0 3) < 6 from nI_nlt (b := 6) (by omega) (by omega))]
      simp only [O13, if_true, fails_eq, cI_s]
      exact PC_l (if_pos (Or.inl trivial)) (by rw [up_ne (by omega)]; exact h2) (up_same _ _ _ _) (FR.up (by omega)) (HR34_up ha)
    · rw [if_neg c6, if_pos (show nI (a 0 3) < 6 from (nI_ltI (b := 6) (by omega) (by omega)).mpr (by omega)), e60_2]
      have f1 : FR S (up S 13 2 (nI (p + 1))) := FR.up (by omega)
      have a1 : HR (up S 13 2 (nI (p + 1))) 34 a := HR34_up ha
      have cn := C_num (h.fr f1) (p := p + 1) (by omega) (up_same _ _ _ _) (lo := 0) (hi := a 0 0 - 1) (by omega) (by omega) sc d
      have cn' : EX sc (d + 3) 62 0 [.ref 13, .int 0, .int (nI (a 0 0 - 1)), Jk, Jk] [] (mk (up S 13 2 (nI (p + 1)))) = _ := cn
      have eF : nI (a 0 0) - 1 = nI (a 0 0 - 1) := pk_sub (b := 1) hF1
      simp only [O13, oB_s, h2, nI_1, P13, Hg isH_34, a1.2.1 0 (by omega), eF, if_true, cn']
      unfold nmK
      have l1 := fg_le (tp := tp) (tl := tl) (p := p + 1)
      by_cases c1 : nres tp tl (p + 1) 0 (a 0 0 - 1) = 0
      · rw [if_pos c1, if_pos c1]
        generalize hfl : vl tp tl (p + 1) = fl
        generalize hp2 : p + 1 + fg tp tl (p + 1) = p2
        obtain ⟨S2, hS2⟩ : ∃ S2, S2 = up (up (up S 13 2 (nI (p + 1))) 13 4 (nI fl)) 13 2 (nI p2) := ⟨_, rfl⟩
        have f2 : FR S S2 := by rw [hS2]; exact (f1.tr (FR.up (by omega))).tr (FR.up (by omega))
        have a2 : HR S2 34 a := by rw [hS2]; exact HR34_up (HR34_up a1)
        have s24 : S2 13 4 = nI fl := by rw [hS2, up_ne (by omega), up_same]
        have s22 : S2 13 2 = nI p2 := by rw [hS2, up_same]
        rw [← hS2]
        simp only [cI_s, i10, if_false]
        rw [e60_3]
        simp only [O13, oB_s, s24, if_true, C_sign (h.fr f2) (show p2 ≤ 1000 by omega) s22]
        unfold sgK
        by_cases c2 : bt tp tl p2 = 44
        · rw [if_pos c2, if_pos c2]
          have f3 : FR S2 (up S2 13 2 (nI (p2 + 1))) := FR.up (by omega)
          have cm := C_num (h.fr (f2.tr f3)) (p := p2 + 1) (by omega) (up_same _ _ _ _) (lo := 1) (hi := 9) (by omega) (by omega) sc d
          have cm' : EX sc (d + 3) 62 0 [.ref 13, .int 1, .int 9, Jk, Jk] [] (mk (up S2 13 2 (nI (p2 + 1)))) = _ := cm
          simp only [cI_s, i10, if_false, O13, if_true, cm']
          have l2 := fg_le (tp := tp) (tl := tl) (p := p2 + 1)
          by_cases c3 : nres tp tl (p2 + 1) 1 9 = 0
          · rw [if_pos c3, if_pos c3]
            generalize hth : vl tp tl (p2 + 1) = th
            generalize hp4 : p2 + 1 + fg tp tl (p2 + 1) = p4
            obtain ⟨S4, hS4⟩ : ∃ S4, S4 = up (up (up S2 13 2 (nI (p2 + 1))) 13 4 (nI th)) 13 2 (nI p4) := ⟨_, rfl⟩
            have f4 : FR S S4 := by rw [hS4]; exact ((f2.tr f3).tr (FR.up (by omega))).tr (FR.up (by omega))
            have a4 : HR S4 34 a := by rw [hS4]; exact HR34_up (HR34_up (HR34_up a2))
            have s44 : S4 13 4 = nI th := by rw [hS4, up_ne (by omega), up_same]
            have s42 : S4 13 2 = nI p4 := by rw [hS4, up_same]
            rw [← hS4]
            simp only [cI_s, i10, if_false]
            rw [e60_5]
            simp only [O13, oB_s, s44, if_true, C_sign (h.fr f4) (show p4 ≤ 1000 by omega) s42]
            by_cases c4 : bt tp tl p4 = 44
            · rw [if_pos c4, if_pos c4]
              have f5 : FR S4 (up S4 13 2 (nI (p4 + 1))) := FR.up (by omega)
              have cq := C_num (h.fr (f4.tr f5)) (p := p4 + 1) (by omega) (up_same _ _ _ _) (lo := 0) (hi := 20) (by omega) (by omega) sc d
              have cq' : EX sc (d + 3) 62 0 [.ref 13, .int 0, .int 20, Jk, Jk] [] (mk (up S4 13 2 (nI (p4 + 1)))) = _ := cq
              simp only [cI_s, i10, if_false, O13, if_true, cq']
              have l3 := fg_le (tp := tp) (tl := tl) (p := p4 + 1)
              by_cases c5 : nres tp tl (p4 + 1) 0 20 = 0
              · rw [if_pos c5, if_pos c5]
                generalize hst : vl tp tl (p4 + 1) = st
                generalize hp6 : p4 + 1 + fg tp tl (p4 + 1) = q6
                obtain ⟨S6, hS6⟩ : ∃ S6, S6 = up (up (up S4 13 2 (nI (p4 + 1))) 13 4 (nI st)) 13 2 (nI q6) := ⟨_, rfl⟩
                have f6 : FR S S6 := by rw [hS6]; exact ((f4.tr f5).tr (FR.up (by omega))).tr (FR.up (by omega))
                have a6 : HR S6 34 a := by rw [hS6]; exact HR34_up (HR34_up (HR34_up a4))
                have s64 : S6 13 4 = nI st := by rw [hS6, up_ne (by omega), up_same]
                have s62 : S6 13 2 = nI q6 := by rw [hS6, up_same]
                rw [← hS6]
                simp only [cI_s, i10, if_false]
                rw [e60_7]
                obtain ⟨S7, k1, k2, k3⟩ := add_spec a6 (by omega) kd fl th st sc (d + 2)
                have f7 : FR S S7 := f6.tr k3.r
                have s72 : S7 13 2 = nI q6 := by rw [k3 13 (by omega)]; exact s62
                simp only [O13, oB_s, s64, Hg isH_34, if_true, k1, cV_s, C_sign (h.fr f7) (show q6 ≤ 1000 by omega) s72]
                by_cases c7 : bt tp tl q6 = 59
                · rw [if_pos c7, if_pos c7, cI_s, orT (Or.inr rfl)]
                  exact PC_r rfl (up_same _ _ _ _) (f7.tr (FR.up (by omega))) ⟨kd, fl, th, st, rfl, HR34_up k2⟩
                · rw [if_neg c7, if_neg c7, cI_s, orT (Or.inl rfl)]
                  exact PC_l rfl (by rw [up_ne (by omega)]; exact s72) (up_same _ _ _ _) (f7.tr (FR.up (by omega))) (HR34_up k2)
              · rw [if_neg c5, if_neg c5]
                simp only [cI_s, if_true, e60_6]
                exact PC_l (orT (Or.inl rfl)) (by rw [up_ne (by omega), up_same]) (up_same _ _ _ _) ((f4.tr f5).tr (FR.up (by omega))) (HR34_up (HR34_up a4))
            · rw [if_neg c4, if_neg c4]
              simp only [cI_s, if_true, e60_6]
              exact PC_l (orT (Or.inl rfl)) (by rw [up_ne (by omega)]; exact s42) (up_same _ _ _ _) (f4.tr (FR.up (by omega))) (HR34_up a4)
          · rw [if_neg c3, if_neg c3]
            simp only [cI_s, if_true, e60_4]
            exact PC_l (orT (Or.inl rfl)) (by rw [up_ne (by omega), up_same]) (up_same _ _ _ _) ((f2.tr f3).tr (FR.up (by omega))) (HR34_up (HR34_up a2))
        · rw [if_neg c2, if_neg c2]
          simp only [cI_s, if_true, e60_4]
          exact PC_l (orT (Or.inl rfl)) (by rw [up_ne (by omega)]; exact s22) (up_same _ _ _ _) (f2.tr (FR.up (by omega))) (HR34_up a2)
      · rw [if_neg c1, if_neg c1]
        simp only [cI_s, if_true]
        exact PC_l (if_pos (Or.inl trivial)) (by rw [up_ne (by omega), up_same]) (up_same _ _ _ _) (f1.tr (FR.up (by omega))) (HR34_up a1)
