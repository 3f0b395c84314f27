/-! house: the call -/
def rdO (tp : Nat → Int32) (tl : Nat) : Nat → Nat → Hs → (Nat × Nat) ⊕ Hs
  | 0, _, _ => .inl (1, 0)
  | f + 1, p, a => match letO tp tl p (a 0 0) (a 0 3) with
    | .inl z => .inl z
    | .inr (p', [kd, fl, th, st]) => if p' < tl then rdO tp tl f p' (addA a kd fl th st) else .inr (addA a kd fl th st)
    | .inr _ => .inl (1, 0)
theorem rdO_l {tp : Nat → Int32} {tl f p : Nat} {a : Hs} {z : Nat × Nat} (h : letO tp tl p (a 0 0) (a 0 3) = .inl z) : rdO tp tl (f + 1) p a = .inl z := by
  unfold rdO
  rw [h]
theorem rdO_r {tp : Nat → Int32} {tl f p p' kd fl th st : Nat} {a : Hs} (h : letO tp tl p (a 0 0) (a 0 3) = .inr (p', [kd, fl, th, st])) : rdO tp tl (f + 1) p a = if p' < tl then rdO tp tl f p' (addA a kd fl th st) else .inr (addA a kd fl th st) := by
  rw [rdO, h]
def GA (a : Hs) : Prop := 3 ≤ a 0 0 ∧ a 0 0 ≤ 9 ∧ 2 ≤ a 0 1 ∧ a 0 1 ≤ 20 ∧ a 0 2 = 0 ∧ a 0 4 = 0 ∧ a 0 3 ≤ 6 ∧ ∀ i, i < a 0 3 → 1 ≤ a 1 i ∧ a 1 i ≤ 5 ∧ a 2 i < a 0 0 ∧ 1 ≤ a 3 i ∧ a 3 i ≤ 9 ∧ a 4 i ≤ 20 ∧ a 5 i = 20 ∧ a 6 i = 0 ∧ a 7 i = 0 ∧ a 8 i = i
theorem GA_beg {b : Hs} {F W : Nat} (h1 : 3 ≤ F) (h2 : F ≤ 9) (h3 : 2 ≤ W) (h4 : W ≤ 20) : GA (begA b F W) := ⟨h1, h2, h3, h4, rfl, rfl, show 0 ≤ 6 by omega, fun i hi => absurd (show i < 0 from hi) (by omega)⟩
theorem GA_add {a : Hs} {kd fl th st : Nat} (h : GA a) (hk : a 0 3 ≠ 6) (h1 : 1 ≤ kd) (h2 : kd ≤ 5) (h3 : fl ≤ a 0 0 - 1) (h4 : 1 ≤ th) (h5 : th ≤ 9) (h6 : st ≤ 20) : GA (addA a kd fl th st) := by
  obtain ⟨g1, g2, g3, g4, g5, g6, g7, g8⟩ := h
  obtain ⟨x1, x2, x3, x4, x5, x6, x7, x8⟩ := addA_new (a := a) (kd := kd) (fl := fl) (th := th) (st := st)
  refine ⟨g1, g2, g3, g4, g5, g6, show a 0 3 + 1 ≤ 6 by omega, fun i hi => ?_⟩
  rw [addA_3] at hi
  rw [addA_0 (j := 0) (by omega)]
  by_cases e : i = a 0 3
  · rw [e, x1, x2, x3, x4, x5, x6, x7, x8]
    exact ⟨h1, h2, by omega, h4, h5, h6, rfl, rfl, rfl, rfl⟩
  · rw [addA_old (by omega) e, addA_old (by omega) e, addA_old (by omega) e, addA_old (by omega) e, addA_old (by omega) e, addA_old (by omega) e, addA_old (by omega) e, addA_old (by omega) e]
    exact g8 i (by omega)
theorem GA_gd {a : Hs} (h : GA a) (h1 : 1 ≤ a 0 3) : Gd a := by
  obtain ⟨g1, g2, g3, g4, g5, g6, g7, g8⟩ := h
  refine ⟨⟨g7, g2, by omega, by omega, by omega, fun i hi => ?_⟩, by omega, g6, fun k hk => (g8 k hk).2.2.2.2.2.2.2.2.2, h1, g1, g3, g4, fun i hi => ?_⟩
  · obtain ⟨q1, q2, q3, q4, q5, q6, q7, q8, q9, q10⟩ := g8 i hi
    exact ⟨q2, q3, by omega, by omega, Or.inr (Or.inl q7), by omega, by omega, by omega⟩
  · obtain ⟨q1, q2, q3, q4, q5, q6, q7, q8, q9, q10⟩ := g8 i hi
    exact ⟨q1, q4, q5, by omega⟩
theorem rdO_gd {tp : Nat → Int32} {tl : Nat} : ∀ f p (a b : Hs), GA a → rdO tp tl f p a = .inr b → Gd b
  | 0, _, _, _, _, h => by cases h
  | f + 1, p, a, b, hg, h => by
    cases hl : letO tp tl p (a 0 0) (a 0 3) with
    | inl z => rw [rdO_l hl] at h; cases h
    | inr w =>
      obtain ⟨p', vs⟩ := w
      obtain ⟨kd, fl, th, st, rfl, v1, v2, v3, v4, v5, v6, v7, v8, v9⟩ := letO_r hl
      have g2 := GA_add hg v9 v1 v2 v3 v4 v5 v6
      rw [rdO_r hl] at h
      by_cases c : p' < tl
      · rw [if_pos c] at h
        exact rdO_gd f p' _ b g2 h
      · rw [if_neg c] at h
        have := Sum.inr.inj h
        rw [← this]
        exact GA_gd g2 (by rw [addA_3]; omega)
theorem rdO_e {tp : Nat → Int32} {tl : Nat} : ∀ f p (a : Hs) e q, rdO tp tl f p a = .inl (e, q) → 1 ≤ e ∧ e ≤ 3
  | 0, _, _, e, q, h => by
    have := (Prod.mk.inj (Sum.inl.inj (show (Sum.inl (1, 0) : (Nat × Nat) ⊕ Hs) = .inl (e, q) from h))).1
    omega
  | f + 1, p, a, e, q, h => by
    cases hl : letO tp tl p (a 0 0) (a 0 3) with
    | inl z =>
      obtain ⟨e', q'⟩ := z
      rw [rdO_l hl] at h
      have := (Prod.mk.inj (Sum.inl.inj h)).1
      have := letO_l hl
      omega
    | inr w =>
      obtain ⟨p', vs⟩ := w
      obtain ⟨kd, fl, th, st, rfl, _⟩ := letO_r hl
      rw [rdO_r hl] at h
      by_cases c : p' < tl
      · rw [if_pos c] at h
        exact rdO_e f p' _ e q h
      · rw [if_neg c] at h; cases h
theorem read_C {tp : Nat → Int32} {tl : Nat} (sc : Nat × (Nat → Int32)) (d : Nat) : ∀ (f k p : Nat) (S : Nat → Nat → Int32) (a : Hs), k + f = 7 → CT tp tl S → S 13 2 = nI p → p ≤ tl → HR S 34 a → a 0 3 = k → GA a → (k = 0 ∨ p < tl) → (∀ e q, rdO tp tl f p a = .inl (e, q) → ∃ S', EX sc (d + 5) 58 1 [.ref 13, .ref 34, .int 1, .int (nI k)] [] (mk S) = some (some (.int 0), mk S') ∧ S' 13 2 = nI q ∧ S' 13 3 = nI e ∧ FR S S' ∧ ∃ b, HR S' 34 b) ∧ ∀ b, rdO tp tl f p a = .inr b → ∃ S', EX sc (d + 5) 58 1 [.ref 13, .ref 34, .int 1, .int (nI k)] [] (mk S) = some (some (.int 1), mk S') ∧ FR S S' ∧ HR S' 34 b := by
  have fin : ∀ (x : Int32) (S : Nat → Nat → Int32), (x = 0 ∨ x = 1) → EX sc (d + 5) 58 3 [Jk, Jk, .int x, Jk] [] (mk S) = some (some (.int x), mk S) := fun x S hx => by
    rw [e58_3, if_pos hx]
  have stop : ∀ (k : Nat) (S : Nat → Nat → Int32), k ≤ 7 → EX sc (d + 5) 58 1 [.ref 13, .ref 34, .int 0, .int (nI k)] [] (mk S) = some (some (.int 0), mk S) := fun k S hk => by
    rw [e58_1, fin 0 S (Or.inl rfl)]
    by_cases c : (6 : Int32) < nI k
    · rw [if_pos c]
    · rw [if_neg c, if_pos rfl]
  intro f
  induction f with
  | zero =>
    intro k p S a hk _ _ _ _ h3 hg _
    have := hg.2.2.2.2.2.2.1
    omega
  | succ f ih =>
    intro k p S a hk h h2 hp ha h3 hg hkp
    have h100 := h.1
    have head : EX sc (d + 5) 58 1 [.ref 13, .ref 34, .int 1, .int (nI k)] [] (mk S) = EX sc (d + 5) 58 2 [.ref 13, .ref 34, Jk, .int (nI k)] [] (mk S) := by
      rw [e58_1, if_neg (show ¬ (6 : Int32) < nI k from nI_nlt (a := 6) (by omega) (by omega)), if_neg i10]
      by_cases c : k = 0
      · rw [if_pos (show nI k = 0 by rw [c]; rfl)]
      · rw [if_neg (nI_ne0 (by omega) (by omega))]
        simp only [O13, oB_s, h2, h.2.1]
        rw [if_neg (nI_ge (by omega) (by omega))]
    have lc := letter_C h (show p ≤ 200 by omega) h2 ha hg.2.2.2.2.2.2.1 (by have := hg.1; omega) hg.2.1 sc d
    rw [head, e58_2]
    simp only [O13, if_true]
    cases hl : letO tp tl p (a 0 0) (a 0 3) with
    | inl z =>
      obtain ⟨e0, q0⟩ := z
      obtain ⟨S1, k1, k2, k3, k4, k5⟩ := lc.1 e0 q0 hl
      rw [rdO_l hl]
      refine ⟨fun e q hz => ?_, fun b hz => (by cases hz)⟩
      obtain ⟨z1, z2⟩ := Prod.mk.inj (Sum.inl.inj hz)
      subst z1
      subst z2
      refine ⟨S1, ?_, k2, k3, k4, k5⟩
      rw [k1, cI_s, nI_1, stop (k + 1) S1 (by omega)]
    | inr w =>
      obtain ⟨p', vs⟩ := w
      obtain ⟨S1, k1, k2, k3, kd, fl, th, st, rfl, k4⟩ := lc.2 p' vs hl
      obtain ⟨kd', fl', th', st', hv, v1, v2, v3, v4, v5, v6, v7, v8, v9⟩ := letO_r hl
      injection hv with y1 hv
      injection hv with y2 hv
      injection hv with y3 hv
      injection hv with y4 hv
      subst y1
      subst y2
      subst y3
      subst y4
      have g2 := GA_add hg v9 v1 v2 v3 v4 v5 v6
      rw [rdO_r hl, k1, cI_s, nI_1]
      by_cases c : p' < tl
      · rw [if_pos c]
        have := ih (k + 1) p' S1 (addA a kd fl th st) (by omega) (h.fr k3) k2 v8 k4 (by rw [addA_3, h3]) g2 (Or.inr c)
        refine ⟨fun e q hz => ?_, fun b hz => ?_⟩
        · obtain ⟨S2, m1, m2, m3, m4, m5⟩ := this.1 e q hz
          exact ⟨S2, m1, m2, m3, k3.tr m4, m5⟩
        · obtain ⟨S2, m1, m2, m3⟩ := this.2 b hz
          exact ⟨S2, m1, k3.tr m2, m3⟩
      · rw [if_neg c]
        refine ⟨fun e q hz => (by cases hz), fun b hz => ?_⟩
        have hb := Sum.inr.inj hz
        subst hb
        refine ⟨S1, ?_, k3, k4⟩
        rw [e58_1, if_neg (show ¬ (6 : Int32) < nI (k + 1) from nI_nlt (a := 6) (by omega) (by omega)), if_neg i10, if_neg (nI_ne0 (by omega) (by omega))]
        simp only [O13, oB_s, k2, (h.fr k3).2.1]
        rw [if_pos (nI_le (by omega) (by omega))]
        exact fin 1 S1 (Or.inr rfl)
theorem rdM_head (sc : Nat × (Nat → Int32)) (d : Nat) : ∀ (T T1 : Nat → Nat → Int32) (r : Int32), EX sc (d + 5) 152 0 [.ref 359, Jk, Jk, Jk] [] (mk T) = some (some (.int r), mk T1) → EX sc (d + 6) 153 3 [.ref 359, .int 0, .int 1] [] (mk T) = if T1 359 14 ≤ T1 359 19 then EX sc (d + 6) 153 3 [.ref 359, .int r, .int 0] [] (mk T1) else EX sc (d + 6) 153 3 [.ref 359, .int r, .int 1] [] (mk T1) := by
  intro T T1 r hr
  rw [e153_3, if_pos (show (0 : Int32) = 0 from rfl), if_neg i10]
  simp only [O359, if_true]
  rw [hr, cI_s]
  simp only [O359, oB_s]
  by_cases c : T1 359 14 ≤ T1 359 19
  · rw [if_pos c, if_pos c, e153_4, e153_5]
  · rw [if_neg c, if_neg c, e153_5]
theorem rdM_stop (sc : Nat × (Nat → Int32)) (d : Nat) : ∀ (T : Nat → Nat → Int32) (e : Nat) (x : Int32), 1 ≤ e → e ≤ 3 → EX sc (d + 6) 153 3 [.ref 359, .int (nI e), .int x] [] (mk T) = some (some (.int (nI e)), mk T) := by
  intro T e x h1 h2
  rw [e153_3, if_neg (nI_ne0 (by omega) (by omega)), e153_6]
theorem rdM_done (sc : Nat × (Nat → Int32)) (d : Nat) : ∀ (T : Nat → Nat → Int32), EX sc (d + 6) 153 3 [.ref 359, .int 0, .int 0] [] (mk T) = some (some (.int 0), mk T) := by
  intro T
  rw [e153_3, if_pos (show (0 : Int32) = 0 from rfl), if_pos (show (0 : Int32) = 0 from rfl), e153_6]
theorem read_M {tp : Nat → Int32} {tl : Nat} (sc : Nat × (Nat → Int32)) (d : Nat) : ∀ (f k p : Nat) (T : Nat → Nat → Int32) (a : Hs), k + f = 7 → TM tp tl T → T 359 19 = nI p → p ≤ tl → MRd T a → a 0 3 = k → GA a → (∀ e q, rdO tp tl f p a = .inl (e, q) → ∃ T', EX sc (d + 6) 153 3 [.ref 359, .int 0, .int 1] [] (mk T) = some (some (.int (nI e)), mk T') ∧ T' 359 20 = nI q ∧ FN T T') ∧ ∀ b, rdO tp tl f p a = .inr b → ∃ T', EX sc (d + 6) 153 3 [.ref 359, .int 0, .int 1] [] (mk T) = some (some (.int 0), mk T') ∧ FN T T' ∧ MRd T' b := by
  have head := rdM_head sc d
  have stop := rdM_stop sc d
  have done := rdM_done sc d
  intro f
  induction f with
  | zero =>
    intro k p T a hk _ _ _ _ h3 hg
    have := hg.2.2.2.2.2.2.1
    omega
  | succ f ih =>
    intro k p T a hk h h19 hp hr h3 hg
    have h100 := h.1
    have lm := letter_M h hp h19 hr hg.2.2.2.2.2.1 hg.2.2.2.2.2.2.1 (by have := hg.1; omega) hg.2.1 sc d
    cases hl : letO tp tl p (a 0 0) (a 0 3) with
    | inl z =>
      obtain ⟨e0, q0⟩ := z
      obtain ⟨T1, k1, k2, k3⟩ := lm.1 e0 q0 hl
      have he := letO_l hl
      rw [rdO_l hl]
      refine ⟨fun e q hz => ?_, fun b hz => (by cases hz)⟩
      obtain ⟨z1, z2⟩ := Prod.mk.inj (Sum.inl.inj hz)
      subst z1
      subst z2
      refine ⟨T1, ?_, k2, k3⟩
      rw [head T T1 _ k1, stop T1 e0 0 he.1 he.2, stop T1 e0 1 he.1 he.2]
      split <;> rfl
    | inr w =>
      obtain ⟨p', vs⟩ := w
      obtain ⟨T1, k1, k2, k3, kd, fl, th, st, rfl, k4⟩ := lm.2 p' vs hl
      obtain ⟨kd', fl', th', st', hv, v1, v2, v3, v4, v5, v6, v7, v8, v9⟩ := letO_r hl
      injection hv with y1 hv
      injection hv with y2 hv
      injection hv with y3 hv
      injection hv with y4 hv
      subst y1
      subst y2
      subst y3
      subst y4
      have g2 := GA_add hg v9 v1 v2 v3 v4 v5 v6
      have t1 := h.fn k3
      have hd := head T T1 0 k1
      rw [k2, t1.2.1] at hd
      rw [rdO_r hl]
      by_cases c : p' < tl
      · rw [if_neg (nI_ge c (by omega))] at hd
        rw [if_pos c]
        have := ih (k + 1) p' T1 (addA a kd fl th st) (by omega) t1 k2 v8 k4 (by rw [addA_3, h3]) g2
        refine ⟨fun e q hz => ?_, fun b hz => ?_⟩
        · obtain ⟨S2, m1, m2, m3⟩ := this.1 e q hz
          exact ⟨S2, hd.trans m1, m2, k3.tr m3⟩
        · obtain ⟨S2, m1, m2, m3⟩ := this.2 b hz
          exact ⟨S2, hd.trans m1, k3.tr m2, m3⟩
      · rw [if_pos (nI_le (by omega) (by omega))] at hd
        rw [if_neg c]
        refine ⟨fun e q hz => (by cases hz), fun b hz => ?_⟩
        have hb := Sum.inr.inj hz
        subst hb
        exact ⟨T1, hd.trans (done T1), k3, k4⟩
def houO (tp : Nat → Int32) (tl : Nat) (b : Hs) : (Nat × Nat) ⊕ Hs := match lawO tp tl with
  | .inl z => .inl z
  | .inr (p, [F, W]) => rdO tp tl 7 p (begA b F W)
  | .inr _ => .inl (1, 0)
theorem houO_l {tp : Nat → Int32} {tl : Nat} {b : Hs} {z : Nat × Nat} (h : lawO tp tl = .inl z) : houO tp tl b = .inl z := by
  unfold houO
  rw [h]
theorem houO_r {tp : Nat → Int32} {tl p F W : Nat} {b : Hs} (h : lawO tp tl = .inr (p, [F, W])) : houO tp tl b = rdO tp tl 7 p (begA b F W) := by
  unfold houO
  rw [h]
theorem all_C {tp : Nat → Int32} {tl : Nat} {S : Nat → Nat → Int32} {b : Hs} (h : CT tp tl S) (hb : HR S 34 b) (sc : Nat × (Nat → Int32)) (d : Nat) : (∀ e q, houO tp tl b = .inl (e, q) → ∃ S', EX sc (d + 5) 58 0 [.ref 13, .ref 34, Jk, Jk] [] (mk S) = some (some (.int 0), mk S') ∧ S' 13 2 = nI q ∧ S' 13 3 = nI e ∧ FR S S' ∧ ∃ b, HR S' 34 b) ∧ ∀ b', houO tp tl b = .inr b' → ∃ S', EX sc (d + 5) 58 0 [.ref 13, .ref 34, Jk, Jk] [] (mk S) = some (some (.int 1), mk S') ∧ FR S S' ∧ HR S' 34 b' := by
  have f1 : FR S (up S 13 2 (nI 0)) := FR.up (by omega)
  have lc := law_C (h.fr f1) (up_same _ _ _ _) (HR34_up hb) sc d
  have head : EX sc (d + 5) 58 0 [.ref 13, .ref 34, Jk, Jk] [] (mk S) = cI (EX sc (d + 4) 59 0 [.ref 13, .ref 34, Jk] [] (mk (up S 13 2 (nI 0)))) fun r3 h2 => EX sc (d + 5) 58 1 [.ref 13, .ref 34, .int r3, .int 0] [] h2 := by
    rw [e58_0]
    simp only [P13, oB_s, O13, if_true]
    rfl
  rw [head]
  cases hl : lawO tp tl with
  | inl z =>
    obtain ⟨e0, q0⟩ := z
    obtain ⟨S1, k1, k2, k3, k4, k5⟩ := lc.1 e0 q0 hl
    rw [houO_l hl]
    refine ⟨fun e q hz => ?_, fun b hz => (by cases hz)⟩
    obtain ⟨z1, z2⟩ := Prod.mk.inj (Sum.inl.inj hz)
    subst z1
    subst z2
    refine ⟨S1, ?_, k2, k3, f1.tr k4, k5⟩
    rw [k1, cI_s, e58_1, if_neg (by decide), if_pos rfl, e58_3, if_pos (Or.inl rfl)]
  | inr w =>
    obtain ⟨p, vs⟩ := w
    obtain ⟨S1, k1, k2, k3, F, W, rfl, k4⟩ := lc.2 p vs hl
    obtain ⟨F', W', hv, v1, v2, v3, v4, v5⟩ := lawO_r hl
    injection hv with y1 hv
    injection hv with y2 hv
    subst y1
    subst y2
    rw [houO_r hl, k1, cI_s]
    have rc := read_C (tp := tp) (tl := tl) sc d 7 0 p S1 (begA b F W) (by omega) ((h.fr f1).fr k3) k2 v5 k4 rfl (GA_beg v1 v2 v3 v4) (Or.inl rfl)
    refine ⟨fun e q hz => ?_, fun b' hz => ?_⟩
    · obtain ⟨S2, m1, m2, m3, m4, m5⟩ := rc.1 e q hz
      exact ⟨S2, m1, m2, m3, (f1.tr k3).tr m4, m5⟩
    · obtain ⟨S2, m1, m2, m3⟩ := rc.2 b' hz
      exact ⟨S2, m1, (f1.tr k3).tr m2, m3⟩
theorem all_M {tp : Nat → Int32} {tl : Nat} {T : Nat → Nat → Int32} (b : Hs) (h : TM tp tl T) (sc : Nat × (Nat → Int32)) (d : Nat) : (∀ e q, houO tp tl b = .inl (e, q) → ∃ T', EX sc (d + 6) 153 0 [.ref 359, Jk, Jk] [] (mk T) = some (some (.int (nI e)), mk T') ∧ T' 359 20 = nI q ∧ FN T T') ∧ ∀ b', houO tp tl b = .inr b' → ∃ T', EX sc (d + 6) 153 0 [.ref 359, Jk, Jk] [] (mk T) = some (some (.int 0), mk T') ∧ FN T T' ∧ MRd T' b' := by
  obtain ⟨T1, hT1⟩ : ∃ T1, T1 = up (up T 359 19 0) 359 27 0 := ⟨_, rfl⟩
  have f1 : FN T T1 := by rw [hT1]; exact (FN.u359 (by omega)).tr (FN.u359 (by omega))
  have loop : ∀ n k U, k + n = 32 → (∀ j, j < k → U 372 j = 0) → (∀ r, r ≠ 372 → U r = T1 r) → ∃ U', EX sc (d + 6) 153 1 [.ref 359, .int (nI k), Jk] [] (mk U) = EX sc (d + 6) 153 2 [.ref 359, Jk, Jk] [] (mk U') ∧ (∀ j, j < 32 → U' 372 j = 0) ∧ ∀ r, r ≠ 372 → U' r = T1 r := by
    intro n
    induction n with
    | zero =>
      intro k U hk h1 h2
      refine ⟨U, ?_, fun j hj => h1 j (by omega), h2⟩
      rw [e153_1, if_pos (show (32 : Int32) ≤ nI k from nI_le (a := 32) (by omega) (by omega))]
    | succ n ih =>
      intro k U hk h1 h2
      obtain ⟨U1, u1, u2, u3⟩ := ih (k + 1) (up U 372 k 0) (by omega) (fun j hj => by
        by_cases e : j = k
        · rw [e, up_same]
        · rw [up_ne (fun z => e z.2)]; exact h1 j (by omega)) (fun r hr => by rw [up_row_ne hr]; exact h2 r hr)
      refine ⟨U1, ?_, u2, u3⟩
      rw [e153_1, if_neg (show ¬ (32 : Int32) ≤ nI k from nI_ge (b := 32) (by omega) (by omega))]
      simp only [O359, oB_s, sI_at A372 (show k < 32 by omega) (by omega), nI_1]
      exact u1
  obtain ⟨T2, t1, t2, t3⟩ := loop 32 0 T1 (by omega) (fun j hj => by omega) (fun r _ => rfl)
  have f2 : FN T T2 := f1.tr ⟨fun k _ hk => t3 k (by omega), fun j _ _ _ => by rw [t3 359 (by omega)]⟩
  have h19 : T2 359 19 = nI 0 := by rw [t3 359 (by omega), hT1, up_ne (by omega), up_same]; rfl
  have h27 : T2 359 27 = 0 := by rw [t3 359 (by omega), hT1, up_same]
  have lm := law_M (h.fn f2) h19 t2 h27 sc d
  have head : EX sc (d + 6) 153 0 [.ref 359, Jk, Jk] [] (mk T) = cI (EX sc (d + 5) 150 0 [.ref 359, Jk] [] (mk T2)) fun r2 h1 => EX sc (d + 6) 153 3 [.ref 359, .int r2, .int 1] [] h1 := by
    have t1' : EX sc (d + 6) 153 1 [.ref 359, .int 0, Jk] [] (mk T1) = EX sc (d + 6) 153 2 [.ref 359, Jk, Jk] [] (mk T2) := t1
    rw [e153_0]
    simp only [P359, oB_s]
    rw [← hT1, t1', e153_2]
    simp only [O359, if_true]
  rw [head]
  cases hl : lawO tp tl with
  | inl z =>
    obtain ⟨e0, q0⟩ := z
    obtain ⟨S1, k1, k2, k3⟩ := lm.1 e0 q0 hl
    have he := lawO_l hl
    rw [houO_l hl]
    refine ⟨fun e q hz => ?_, fun b hz => (by cases hz)⟩
    obtain ⟨z1, z2⟩ := Prod.mk.inj (Sum.inl.inj hz)
    subst z1
    subst z2
    refine ⟨S1, ?_, k2, f2.tr k3⟩
    rw [k1, cI_s, e153_3, if_neg (nI_ne0 (by omega) (by omega)), e153_6]
  | inr w =>
    obtain ⟨p, vs⟩ := w
    obtain ⟨S1, k1, k2, k3, F, W, rfl, k4, k5, k6⟩ := lm.2 p vs hl
    obtain ⟨F', W', hv, v1, v2, v3, v4, v5⟩ := lawO_r hl
    injection hv with y1 hv
    injection hv with y2 hv
    subst y1
    subst y2
    rw [houO_r hl, k1, cI_s]
    have rd : MRd S1 (begA b F W) := ⟨k4, k6, fun l hl => absurd (show l < 0 from hl) (by omega), ⟨fun l hl => absurd (show l < 0 from hl) (by omega), by rw [k5 30 (by omega)]; rfl, by rw [k5 31 (by omega)]; rfl⟩, fun j j1 j2 => by rw [k5 j (by omega), if_neg (by omega)]⟩
    have rc := read_M (tp := tp) (tl := tl) sc d 7 0 p S1 (begA b F W) (by omega) ((h.fn f2).fn k3) k2 v5 rd rfl (GA_beg v1 v2 v3 v4)
    refine ⟨fun e q hz => ?_, fun b' hz => ?_⟩
    · obtain ⟨S2, m1, m2, m3⟩ := rc.1 e q hz
      exact ⟨S2, m1, m2, (f2.tr k3).tr m3⟩
    · obtain ⟨S2, m1, m2, m3⟩ := rc.2 b' hz
      exact ⟨S2, m1, (f2.tr k3).tr m2, m3⟩
theorem CR_read {S S' : Nat → Nat → Int32} {X : Xs} {b : Hs} (h : CR S X) (hf : ∀ k, k ≠ 13 → ¬ (34 ≤ k ∧ k ≤ 44) → S' k = S k) (h1 : S' 13 1 = 0) (hb : HR S' 34 b) : CR S' (X.wtape X.tp 0) :=
  ⟨h.shelf.cg (fun k h1 h2 => hf k (by omega) (by omega)), by rw [hf 0 (by omega) (by omega)]; exact h.st, by rw [hf 0 (by omega) (by omega)]; exact h.fl, ⟨h1, fun j hj => absurd (show j < 0 from hj) (by omega)⟩, by rw [hf 15 (by omega) (by omega), hf 16 (by omega) (by omega)]; exact h.trace, h.now.cg (fun k h1 h2 => hf k (by omega) (by omega)), ⟨b, hb⟩, h.acts.cg (by rw [hf 0 (by omega) (by omega)]) (by rw [hf 0 (by omega) (by omega)]) (fun k h1 h2 => hf k (by omega) (by omega)), fun k hk => (h.img k hk).cg (fun k h1 h2 => hf k (by omega) (by omega)), h.cache.cg (by rw [hf 45 (by omega) (by omega)]) (by rw [hf 45 (by omega) (by omega)]) (hf 69 (by omega) (by omega))⟩
theorem CR_fl {S : Nat → Nat → Int32} {X : Xs} (h : CR S X) (v : Int32) : CR (up S 0 11 v) (X.wfl v) :=
  ⟨h.shelf.cg (fun k h1 h2 => (fun k (hk : k ≠ 0) => up_row_ne (S := S) (j := 11) (x := v) hk) k (by omega)), by rw [up_ne (by omega)]; exact h.st, up_same _ _ _ _, by rw [(fun k (hk : k ≠ 0) => up_row_ne (S := S) (j := 11) (x := v) hk) 13 (by omega), (fun k (hk : k ≠ 0) => up_row_ne (S := S) (j := 11) (x := v) hk) 14 (by omega)]; exact h.tape, by rw [(fun k (hk : k ≠ 0) => up_row_ne (S := S) (j := 11) (x := v) hk) 15 (by omega), (fun k (hk : k ≠ 0) => up_row_ne (S := S) (j := 11) (x := v) hk) 16 (by omega)]; exact h.trace, h.now.cg (fun k h1 h2 => (fun k (hk : k ≠ 0) => up_row_ne (S := S) (j := 11) (x := v) hk) k (by omega)), by obtain ⟨b, hb⟩ := h.draft; exact ⟨b, hb.cg (fun k h1 h2 => (fun k (hk : k ≠ 0) => up_row_ne (S := S) (j := 11) (x := v) hk) k (by omega))⟩, h.acts.cg (up_ne (by omega)) (up_ne (by omega)) (fun k h1 h2 => up_row_ne (by omega)), fun k hk => (h.img k hk).cg (fun k h1 h2 => (fun k (hk : k ≠ 0) => up_row_ne (S := S) (j := 11) (x := v) hk) k (by omega)), h.cache.cg (by rw [(fun k (hk : k ≠ 0) => up_row_ne (S := S) (j := 11) (x := v) hk) 45 (by omega)]) (by rw [(fun k (hk : k ≠ 0) => up_row_ne (S := S) (j := 11) (x := v) hk) 45 (by omega)]) ((fun k (hk : k ≠ 0) => up_row_ne (S := S) (j := 11) (x := v) hk) 69 (by omega))⟩
theorem MP_read {S S' : Nat → Nat → Int32} {X : Xs} (h : MP S X) (hX : XOk X) (hf : FN S S') : MP (up S' 359 14 0) (X.wtape X.tp 0) := by
  have g := h.fn hX hf
  have hh : ∀ j, j ≠ 14 → up S' 359 14 0 359 j = S' 359 j := fun j hj => up_ne (fun z => hj z.2)
  have hk : ∀ k, k ≠ 359 → up S' 359 14 0 k = S' k := fun k hk => up_row_ne hk
  exact ⟨by rw [hk 360 (by omega), hk 361 (by omega), hk 362 (by omega)]; exact g.shelf, by rw [hh 3 (by omega)]; exact g.st, by rw [hh 16 (by omega)]; exact g.fl, ⟨up_same _ _ _ _, fun j hj => absurd (show j < 0 from hj) (by omega)⟩, by rw [hh 18 (by omega), hk 369 (by omega)]; exact g.trace, by rw [hh 29 (by omega)]; exact g.none, g.stat.cg hX.l6 g.none (hh 4 (by omega)) (hh 5 (by omega)) (hh 29 (by omega)) (hk 363 (by omega)) (hk 364 (by omega)), by rw [hk 365 (by omega)]; exact g.now, by rw [hh 6 (by omega)]; exact g.has, by rw [hh 11 (by omega), hk 366 (by omega)]; exact g.acts, by rw [hh 13 (by omega), hk 367 (by omega)]; exact g.img⟩
theorem MP_fl {S : Nat → Nat → Int32} {X : Xs} (h : MP S X) (hX : XOk X) (v : Int32) : MP (up S 359 16 v) (X.wfl v) := by
  have hh : ∀ j, j ≠ 16 → up S 359 16 v 359 j = S 359 j := fun j hj => up_ne (fun z => hj z.2)
  have hk : ∀ k, k ≠ 359 → up S 359 16 v k = S k := fun k hk => up_row_ne hk
  exact ⟨by rw [hk 360 (by omega), hk 361 (by omega), hk 362 (by omega)]; exact h.shelf, by rw [hh 3 (by omega)]; exact h.st, up_same _ _ _ _, by rw [hh 14 (by omega), hk 368 (by omega)]; exact h.tape, by rw [hh 18 (by omega), hk 369 (by omega)]; exact h.trace, by rw [hh 29 (by omega)]; exact h.none, h.stat.cg hX.l6 h.none (hh 4 (by omega)) (hh 5 (by omega)) (hh 29 (by omega)) (hk 363 (by omega)) (hk 364 (by omega)), by rw [hk 365 (by omega)]; exact h.now, by rw [hh 6 (by omega)]; exact h.has, by rw [hh 11 (by omega), hk 366 (by omega)]; exact h.acts, by rw [hh 13 (by omega), hk 367 (by omega)]; exact h.img⟩
theorem XOk_tape {X : Xs} (h : XOk X) : XOk (X.wtape X.tp 0) := ⟨h.1, show 0 ≤ 100 by omega, h.2.2.1, fun j hj => absurd (show j < 0 from hj) (by omega), h.2.2.2.2⟩
theorem XOk_fl {X : Xs} (h : XOk X) (v : Int32) : XOk (X.wfl v) := h
