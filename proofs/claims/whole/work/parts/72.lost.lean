/-! lost: the reference -/
theorem nv_C {l : Nat} {b : Hs} (h : (b 0 4).testBit l = true) : ∀ n, (iter n comeA b) 5 l = b 5 l
  | 0 => rfl
  | n + 1 => by
    show (comeA n (iter n comeA b)) 5 l = b 5 l
    have key : ∀ Y : Hs, (Y 0 4).testBit l = true → (comeA n Y) 5 l = Y 5 l := by
      intro Y k
      unfold comeA
      split
      · next c =>
        refine upA_ne (fun q => ?_)
        have := c.2.1
        rw [← q.2, k] at this
        cases this
      · rfl
    refine (key _ ?_).trans (nv_C h n)
    rw [iterC_c (by omega)]; exact h
theorem tick_nv {a : Hs} {l : Nat} (h9 : a 0 0 ≤ 9) (h20 : a 5 l = 20) (h : (a 0 4).testBit l = true) : (tickS a) 5 l = 20 := by
  show (upA (iter (a 0 3) comeA (iter (a 0 0) (floorA (a 5)) a)) 0 2 (a 0 2 + 1)) 5 l = 20
  rw [upA_c (by omega), nv_C, wait_G (N := a 0 0) (by omega) _ (Nat.le_refl _), h20]
  rw [iterG_c (by omega)]
  exact h
theorem tk_nv {l : Nat} : ∀ n (a : Hs), a 0 0 ≤ 9 → a 5 l = 20 → (a 0 4).testBit l = true → (tk n a) 5 l = 20
  | 0, _, _, h, _ => h
  | n + 1, a, h9, h20, h => by
    show (tk n (tickS a)) 5 l = 20
    refine tk_nv n _ ?_ (tick_nv h9 h20 h) ?_
    · rw [tickS_0 (by omega)]; exact h9
    · rw [tickS_0 (by omega)]; exact h
theorem loop207 {a : Hs} {R : Nat → Int32} (h6 : a 0 3 ≤ 6) (hR : MRow R a) (h4 : a 0 4 = 0) {s o p : Nat} (ho : o = ly a 20) (hs : s < 64) (hsub : s &&& (63 ^^^ o) = 0) (hp : p ≤ 10) (x1 x2 v : Int32) (x6 x8 : Int64) (sc : Nat × (Nat → Int32)) (d : Nat) : ∀ (m k : Nat) (S : Nat → Nat → Int32), k + m = a 0 3 → MSt S a → (∀ j, j < k → S 373 j = nI (plv (upA a 0 4 s) j)) → (∀ j, k ≤ j → j < 32 → S 373 j = R j) → ∃ S', EX sc (d + 2) 207 4 [.ref 359, .int x1, .int x2, .int (nI p), .int v, .int (nI o), .long x6, Jk, .long x8, Jk, .int (nI s), .long (lN (chN o s p k)), Jk, .int (nI k), Jk, Jk] [] (mk S) = EX sc (d + 2) 207 10 [.ref 359, .int x1, .int x2, .int (nI p), .int v, .int (nI o), .long x6, Jk, .long x8, Jk, .int (nI s), .long (lN (chN o s p (a 0 3))), Jk, Jk, Jk, Jk] [] (mk S') ∧ MS S' (upA a 0 4 s) ∧ RC S S' := by
  have ho6 : o < 64 := by rw [ho]; exact ly_lt h6 20
  intro m
  induction m with
  | zero =>
    intro k S hk hst h1 h2
    refine ⟨S, ?_, ⟨hst, ?_, ?_, ?_⟩, RC.rf _⟩
    · rw [e207_4]
      simp only [O359, oB_s, hst.2.1]
      rw [if_pos (nI_le (by omega) (by omega)), show k = a 0 3 by omega]
    · intro i hi
      have hi' : i < a 0 3 := hi
      obtain ⟨q1, q2, q3, q4, q5⟩ := hR.1 i hi'
      rw [h1 i (by omega), h2 _ (by omega) (by omega), h2 _ (by omega) (by omega), h2 _ (by omega) (by omega), h2 _ (by omega) (by omega)]
      exact ⟨rfl, q2, q3, q4, q5⟩
    · rw [h2 30 (by omega) (by omega)]; exact hR.2.1
    · rw [h2 31 (by omega) (by omega)]; exact hR.2.2
  | succ m ih =>
    intro k S hk hst h1 h2
    have hk3 : k < a 0 3 := by omega
    have key : ∀ w, w = nI (plv (upA a 0 4 s) k) → ∃ S', EX sc (d + 2) 207 4 [.ref 359, .int x1, .int x2, .int (nI p), .int v, .int (nI o), .long x6, Jk, .long x8, Jk, .int (nI s), .long (lN (chN o s p (k + 1))), Jk, .int (nI (k + 1)), Jk, Jk] [] (mk (up S 373 k w)) = EX sc (d + 2) 207 10 [.ref 359, .int x1, .int x2, .int (nI p), .int v, .int (nI o), .long x6, Jk, .long x8, Jk, .int (nI s), .long (lN (chN o s p (a 0 3))), Jk, Jk, Jk, Jk] [] (mk S') ∧ MS S' (upA a 0 4 s) ∧ RC S S' := by
      intro w hw
      obtain ⟨S2, t1, t2, t3⟩ := ih (k + 1) (up S 373 k w) (by omega) (hst.fm RC.up.fm) (fun j hj => by
        rw [up_at]
        by_cases e : j = k
        · rw [if_pos ⟨rfl, e⟩, hw, e]
        · rw [if_neg (by omega)]; exact h1 j (by omega)) (fun j hj hj2 => by
        rw [up_ne (by omega)]; exact h2 j (by omega) hj2)
      exact ⟨S2, t1, t2, RC.up.tr t3⟩
    have hch : chN o s p (k + 1) = chN o s p k * (if o.testBit k then (if s.testBit k then p else 10 - p) else 1) := rfl
    have hR0 : R k = nI (a 5 k) := by rw [(hR.1 k hk3).1, plv0 h4]
    have hrk : S 373 k = nI (a 5 k) := by rw [h2 k (by omega) (by omega), hR0]
    have q10 : (10 : Int32) - nI p = nI (10 - p) := pk_sub (a := 10) hp
    rw [e207_4]
    simp only [O359, oB_s, hst.2.1]
    rw [if_neg (nI_ge (by omega) (by omega)), has_eq S ho6 (by omega)]
    have hpl : plv (upA a 0 4 s) k = if s.testBit k = true ∧ a 5 k = 20 then 22 else a 5 k := by
      unfold plv
      rw [upA_same, upA_c (by omega)]
    have hob : o.testBit k = decide (a 5 k = 20) := by
      rw [ho, ly_bit, decide_eq_true hk3, Bool.true_and]
    cases so : o.testBit k with
    | true =>
      rw [so] at hch hob
      simp only [cI_s, if_true, i10, if_false] at hch ⊢
      rw [e207_5, has_eq S hs (by omega)]
      cases ss : s.testBit k with
      | true =>
        rw [ss] at hch hpl
        simp only [cI_s, if_true, i10, if_false] at hch ⊢
        rw [e207_7]
        simp only [O359, oB_s, has_eq S hs (show k < 6 by omega), ss, if_true, cI_s, i10, if_false]
        rw [e207_9, sI_at A373 (show k < 32 by omega) (by omega)]
        simp only [oB_s]
        rw [nI_l (by omega), lN_mul, ← hch, nI_1]
        exact key 22 (by rw [hpl, if_pos ⟨rfl, of_decide_eq_true hob.symm⟩]; rfl)
      | false =>
        rw [ss] at hch hpl
        simp only [cI_s, Bool.false_eq_true, if_false, if_true] at hch ⊢
        rw [e207_6, e207_7]
        simp only [O359, oB_s, has_eq S hs (show k < 6 by omega), ss, Bool.false_eq_true, if_false, cI_s, if_true]
        rw [e207_8]
        simp only [O359, oB_s, A373_at (S := S) (show k < 32 by omega), hrk]
        rw [e207_9, sI_at A373 (show k < 32 by omega) (by omega)]
        simp only [oB_s]
        rw [q10, nI_l (by omega), lN_mul, ← hch, nI_1]
        exact key _ (by rw [hpl, if_neg (fun q => by cases q.1)])
    | false =>
      have ss : s.testBit k = false := by
        have := andn_bit (x := s) (y := o) hs k
        rw [hsub, Nat.zero_testBit, so, Bool.not_false, Bool.and_true] at this
        exact this.symm
      rw [so] at hch
      rw [ss] at hpl
      simp only [cI_s, Bool.false_eq_true, if_false, if_true] at hch ⊢
      rw [e207_7]
      simp only [O359, oB_s, has_eq S hs (show k < 6 by omega), ss, Bool.false_eq_true, if_false, cI_s, if_true]
      rw [e207_8]
      simp only [O359, oB_s, A373_at (S := S) (show k < 32 by omega), hrk]
      rw [e207_9, sI_at A373 (show k < 32 by omega) (by omega)]
      simp only [oB_s]
      rw [show (1 : Int64) = lN 1 from rfl, lN_mul, ← hch, nI_1]
      exact key _ (by rw [hpl, if_neg (fun q => by cases q.1)])
theorem gcdM (S : Nat → Nat → Int32) (v : Int32) (x6 x8 : Int64) (sc : Nat × (Nat → Int32)) (d : Nat) : ∀ (N w u : Nat), w ≤ N → w < 2 ^ 40 → u < 2 ^ 40 → EX sc (d + 1) 207 15 [Jk, Jk, Jk, Jk, .int v, Jk, .long x6, Jk, .long x8, Jk, .long (lN u), Jk, .long (lN w), Jk, Jk, Jk] [] (mk S) = EX sc (d + 1) 207 16 [Jk, Jk, Jk, Jk, .int v, Jk, .long x6, Jk, .long x8, Jk, .long (lN (Nat.gcd w u)), Jk, Jk, Jk, Jk, Jk] [] (mk S) := by
  intro N
  induction N with
  | zero =>
    intro w u h1 h2 h3
    rw [show w = 0 by omega, Nat.gcd_zero_left, e207_15, if_pos (show lg_cmp (lN 0) 0 = 0 by decide)]
  | succ N ih =>
    intro w u h1 h2 h3
    by_cases c : w = 0
    · rw [c, Nat.gcd_zero_left, e207_15, if_pos (show lg_cmp (lN 0) 0 = 0 by decide)]
    · have n2 : ¬ lN w = 0 := fun q => by
        have := (pk_lEQ (a := w) (b := 0) (by omega) (by omega)).mp q
        omega
      have n1 : ¬ lg_cmp (lN w) 0 = 0 := fun q => n2 ((lg_cmp_eq _ _).mp q)
      have hm : u % w < w := Nat.mod_lt _ (by omega)
      rw [e207_15, if_neg n1, if_neg n2, pk_lRem (by omega) (by omega) (by omega), ih (u % w) w (by omega) (by omega) h2, Nat.gcd_rec w u]
theorem loop207b {X : Xs} (hX : XOk X) {l n p : Nat} (hl : l < X.nw 0 3) (hn : n ≤ 60) (hp : p ≤ 10) (v : Int32) (sc : Nat × (Nat → Int32)) (d : Nat) : ∀ (m s : Nat) (S : Nat → Nat → Int32), s + m = 64 → MP S X → ∃ S', EX sc (d + 7) 207 3 [.ref 359, .int (nI l), .int (nI n), .int (nI p), .int v, .int (nI (ly X.nw 20)), .long (lN (uS X.nw l n p (ly X.nw 20) s)), Jk, .long (lN (chS (ly X.nw 20) p s)), Jk, .int (nI s), Jk, Jk, Jk, Jk, Jk] [] (mk S) = EX sc (d + 7) 207 14 [Jk, Jk, Jk, Jk, .int v, Jk, .long (lN (uS X.nw l n p (ly X.nw 20) 64)), Jk, .long (lN (chS (ly X.nw 20) p 64)), Jk, Jk, Jk, Jk, Jk, Jk, Jk] [] (mk S') ∧ FN S S' := by
  have h6 := hX.l6
  have ho : ly X.nw 20 < 64 := ly_lt h6 20
  have ho2 : ly X.nw 20 < 2 ^ (X.nw 0 3) := lyN_lt _ _ _
  generalize hoo : ly X.nw 20 = o at ho ho2
  intro m
  induction m with
  | zero =>
    intro s S hs h
    refine ⟨S, ?_, FN.rf _⟩
    rw [e207_3, if_pos (show (64 : Int32) ≤ nI s from nI_le (a := 64) (by omega) (by omega)), show s = 64 by omega]
  | succ m ih =>
    intro s S hs h
    have hs6 : s < 64 := by omega
    have d1 : chS o p (s + 1) = chS o p s + if s &&& (63 ^^^ o) = 0 then chN o s p 6 else 0 := rfl
    have d2 : uS X.nw l n p o (s + 1) = uS X.nw l n p o s + if s &&& (63 ^^^ o) = 0 ∧ wBb X.nw l n s = true then chN o s p 6 else 0 := rfl
    rw [e207_3, if_neg (show ¬ (64 : Int32) ≤ nI s from nI_ge (b := 64) hs6 (by omega)), andn_I s hs6 o ho]
    by_cases c : s &&& (63 ^^^ o) = 0
    · rw [if_pos (by rw [c]; rfl)]
      obtain ⟨T1, a1, a2, a3⟩ := aside_spec h.stat h.now h6 sc (d + 5)
      obtain ⟨T2, b1, b2, b3⟩ := loop207 h6 a2.2 hX.nv hoo.symm hs6 c hp (nI l) (nI n) v (lN (uS X.nw l n p o s)) (lN (chS o p s)) sc (d + 5) (X.nw 0 3) 0 T1 (by omega) a2.1 (fun j hj => by omega) (fun j _ _ => rfl)
      have hok : OkT n (upA X.nw 0 4 s) := OkT_nv (hX.okT (by omega)) hs6
      obtain ⟨T3, c1, c2, c3⟩ := goTicks_spec b2 hX.rk hok (by omega) sc d
      have hfn : FN S T3 := (a3.fm.fn.tr b3.fm.fn).tr c3.fn
      obtain ⟨B, hwB⟩ := (OkT.tkk (n := n) (m := 0) hok).wf
      have hl2 : l < (tk n (upA X.nw 0 4 s)) 0 3 := by rw [tk_0 (by omega)]; exact hl
      have pp : T3 373 l = nI (plv (tk n (upA X.nw 0 4 s)) l) := (c2.2.1.1 l hl2).1
      have h22 := plv_lt hwB hl2
      have e21 : (nI (plv (tk n (upA X.nw 0 4 s)) l) = 21) ↔ plv (tk n (upA X.nw 0 4 s)) l = 21 := nI_eq (b := 21) (by omega) (by omega)
      have e22 : plv (tk n (upA X.nw 0 4 s)) l = 21 ↔ wBb X.nw l n s = true := by
        rw [wBb_iff]
        unfold plv wB
        have z4 : (tk n (upA X.nw 0 4 s)) 0 4 = s := by rw [tk_0 (by omega), upA_same]
        rw [z4]
        constructor
        · intro q
          cases hb : s.testBit l with
          | true =>
            exfalso
            have hl20 : X.nw 5 l = 20 := by
              have := andn_bit (x := s) (y := o) hs6 l
              rw [c, Nat.zero_testBit, hb, Bool.true_and, ← hoo, ly_bit, decide_eq_true hl, Bool.true_and] at this
              have t : decide (X.nw 5 l = 20) = true := by
                cases hd : decide (X.nw 5 l = 20) with
                | true => rfl
                | false => rw [hd] at this; cases this
              exact of_decide_eq_true t
            have := tk_nv (l := l) n (upA X.nw 0 4 s) (by rw [upA_ne (by omega)]; exact hX.wf.2.1) (by rw [upA_c (by omega)]; exact hl20) (by rw [upA_same]; exact hb)
            rw [this, if_pos ⟨hb, rfl⟩] at q
            omega
          | false =>
            rw [hb] at q
            rw [if_neg (fun z => by cases z.1)] at q
            exact ⟨rfl, q⟩
        · intro q
          rw [q.1, if_neg (fun z => by cases z.1)]
          exact q.2
      have ce : chN o s p (X.nw 0 3) = chN o s p 6 := (ch_ext ho2 6 h6).symm
      rw [if_pos c] at d1
      simp only [O359, if_true, a1, cV_s]
      rw [show (1 : Int64) = lN (chN o s p 0) from rfl, show (0 : Int32) = nI 0 from rfl, b1, e207_10]
      simp only [O359, if_true, c1, cV_s, oB_s, A373_at (S := T3) (show l < 32 by omega), pp]
      by_cases cw : wBb X.nw l n s = true
      · rw [if_pos ⟨c, cw⟩] at d2
        rw [if_pos (e21.mpr (e22.mpr cw)), e207_12, e207_13, nI_1, lN_add, lN_add, ce, ← d1, ← d2]
        obtain ⟨S2, t1, t2⟩ := ih (s + 1) T3 (by omega) (h.fn hX hfn)
        exact ⟨S2, t1, hfn.tr t2⟩
      · rw [if_neg (fun q => cw q.2)] at d2
        rw [if_neg (fun q => cw (e22.mp (e21.mp q))), e207_11, e207_12, e207_13, nI_1, show (0 : Int64) = lN 0 from rfl, lN_add, lN_add, ce, ← d1, ← d2]
        obtain ⟨S2, t1, t2⟩ := ih (s + 1) T3 (by omega) (h.fn hX hfn)
        exact ⟨S2, t1, hfn.tr t2⟩
    · rw [if_neg c] at d1
      rw [if_neg (fun q => c q.1)] at d2
      rw [if_neg (nI_ne0 (Nat.pos_of_ne_zero c) (Nat.lt_of_le_of_lt Nat.and_le_left (by omega))), e207_13, nI_1]
      have := ih (s + 1) S (by omega) h
      rw [d1, d2] at this
      exact this
def St2L (sc : Nat × (Nat → Int32)) (cm : Nat) (cl : List Value) (mm : Nat) (ml : List Value) : Prop := ∀ S, Inv S → ∃ r S1 S2, EX sc 39 cm 0 cl [] (mk S) = some (some (.long r), mk S1) ∧ EX sc 39 mm 0 ml [] (mk S1) = some (some (.long r), mk S2) ∧ Inv S2
theorem op_lost (sc : Nat × (Nat → Int32)) (x y z w : Int32) : St2L sc 108 [.ref 0, .int x, .int y, .int z, .int w] 207 [.ref 359, .int x, .int y, .int z, .int w, Jk, Jk, Jk, Jk, Jk, Jk, Jk, Jk, Jk, Jk, Jk] := by
  rintro S ⟨X, hX, hC, hM⟩
  have h6 := hX.l6
  have hw := hX.wf
  have hiny := fun S => inL sc y 0 60 0 60 S 36 rfl rfl
  have hinz := fun S => inL sc z 0 10 0 10 S 37 rfl rfl
  have hinw := fun S => inL sc w 0 1 0 1 S 37 rfl rfl
  by_cases c1 : 0 ≤ x ∧ x ≤ nI (X.nw 0 3) - 1
  · by_cases c2 : 0 ≤ y ∧ y ≤ 60
    · by_cases c3 : 0 ≤ z ∧ z ≤ 10
      · by_cases c4 : 0 ≤ w ∧ w ≤ 1
        · obtain ⟨l, hl, rfl⟩ := (toL (by omega)).mp c1
          obtain ⟨n, hn, rfl⟩ := toN (N := 60) (by omega) c2
          obtain ⟨p, hp, rfl⟩ := toN (N := 10) (by omega) c3
          obtain ⟨S1, k1, k2⟩ := lost_C (hX.okT (n := 100) (by omega)) hn hl hp w sc 33 S hC.now
          have hM1 : MP S1 X := hM.cg hX k2.c
          obtain ⟨T1, a1, a2, a3⟩ := aside_spec hM1.stat hM1.now h6 sc 37
          have hM2 : MP T1 X := hM1.fn hX a3.fm.fn
          obtain ⟨T2, b1, b2⟩ := loop207b hX hl hn hp w sc 32 64 0 T1 (by omega) hM2
          have ho : ly X.nw 20 < 64 := ly_lt h6 20
          have hb := p10_le (bitN_le 6 (ly X.nw 20))
          have u2 : uS X.nw l n p (ly X.nw 20) 64 ≤ 10 ^ bitN 6 (ly X.nw 20) := by
            rw [← ch_sum _ ho p (by omega)]
            exact uS_le 64
          refine ⟨losR (uS X.nw l n p (ly X.nw 20) 64) (10 ^ (bitN 6 (ly X.nw 20))) w, S1, T2, ?_, ?_, X, hX, ((hC.fs k2).cg a3.fm.fn.m).cg b2.m, hM2.fn hX b2⟩
          · rw [e108_0]
            simp only [O0, if_true, isLetterC hC, within_eq, cI_s, ii_0]
            rw [if_pos c1, if_pos c2, if_pos c3, if_pos c4, e108_2]
            simp only [O0, O45, oB_s, if_true, k1, cL_s]
          · rw [e207_0]
            simp only [O359, if_true, isLetterM hM1.stat, e185_0, hiny, hinz, hinw, cI_s, ii_0, ii_ok]
            rw [if_pos c1, if_pos c2, if_pos c3, if_pos c4, e207_2]
            simp only [O359, if_true, a1, cV_s, waiting_spec a2 hw hX.nv, cI_s]
            rw [show (0 : Int64) = lN (uS X.nw l n p (ly X.nw 20) 0) from rfl]
            rw [show (Value.long (lN (uS X.nw l n p (ly X.nw 20) 0)) :: Jk :: Value.long (lN (uS X.nw l n p (ly X.nw 20) 0)) :: Jk :: Value.int 0 :: [Jk, Jk, Jk, Jk, Jk]) = (Value.long (lN (uS X.nw l n p (ly X.nw 20) 0)) :: Jk :: Value.long (lN (chS (ly X.nw 20) p 0)) :: Jk :: Value.int (nI 0) :: [Jk, Jk, Jk, Jk, Jk]) from rfl]
            rw [b1, e207_14, ch_sum _ ho p (by omega)]
            generalize 10 ^ bitN 6 (ly X.nw 20) = e at hb u2 ⊢
            generalize uS X.nw l n p (ly X.nw 20) 64 = u at u2 ⊢
            rw [gcdM T2 w (lN u) (lN e) sc 38 e e u (by omega) (by omega) (by omega), e207_16]
            have gp : 0 < Nat.gcd e u := Nat.gcd_pos_of_pos_left _ (by omega)
            have gl : Nat.gcd e u ≤ e := Nat.gcd_le_left _ (by omega)
            unfold losR
            generalize Nat.gcd e u = g at gp gl ⊢
            have n2 : ¬ lN g = 0 := fun q => by
              have := (pk_lEQ (a := g) (b := 0) (by omega) (by omega)).mp q
              omega
            rw [e207_17, if_neg n2, if_neg n2, pk_lDiv (by omega) gp (by omega), pk_lDiv (by omega) gp (by omega)]
            by_cases cv : w = 0
            · rw [if_pos cv, if_pos cv]
            · rw [if_neg cv, if_neg cv]
        · refine ⟨-1000001, S, S, ?_, ?_, X, hX, hC, hM⟩
          · rw [e108_0]
            simp only [O0, if_true, isLetterC hC, within_eq, cI_s, ii_0]
            rw [if_pos c1, if_pos c2, if_pos c3, if_neg c4, e108_1]
          · rw [e207_0]
            simp only [O359, if_true, isLetterM hM.stat, e185_0, hiny, hinz, hinw, cI_s, ii_0, ii_ok]
            rw [if_pos c1, if_pos c2, if_pos c3, if_neg c4, e207_1]
      · refine ⟨-1000001, S, S, ?_, ?_, X, hX, hC, hM⟩
        · rw [e108_0]
          simp only [O0, if_true, isLetterC hC, within_eq, cI_s, ii_0]
          rw [if_pos c1, if_pos c2, if_neg c3, e108_1]
        · rw [e207_0]
          simp only [O359, if_true, isLetterM hM.stat, e185_0, hiny, hinz, cI_s, ii_0, ii_ok]
          rw [if_pos c1, if_pos c2, if_neg c3, e207_1]
    · refine ⟨-1000001, S, S, ?_, ?_, X, hX, hC, hM⟩
      · rw [e108_0]
        simp only [O0, if_true, isLetterC hC, within_eq, cI_s, ii_0]
        rw [if_pos c1, if_neg c2, e108_1]
      · rw [e207_0]
        simp only [O359, if_true, isLetterM hM.stat, e185_0, hiny, cI_s, ii_0, ii_ok]
        rw [if_pos c1, if_neg c2, e207_1]
  · refine ⟨-1000001, S, S, ?_, ?_, X, hX, hC, hM⟩
    · rw [e108_0]
      simp only [O0, if_true, isLetterC hC, within_eq, cI_s, ii_0]
      rw [if_neg c1, e108_1]
    · rw [e207_0]
      simp only [O359, if_true, isLetterM hM.stat, cI_s, ii_0]
      rw [if_neg c1, e207_1]
