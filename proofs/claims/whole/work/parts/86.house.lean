/-! house: the reference's tokens -/
def TM (tp : Nat → Int32) (tl : Nat) (S : Nat → Nat → Int32) : Prop := tl ≤ 100 ∧ S 359 14 = nI tl ∧ ∀ j, j < tl → S 368 j = tp j
def FX (S S' : Nat → Nat → Int32) : Prop := (∀ k, k ≠ 359 → S' k = S k) ∧ ∀ j, ¬ (19 ≤ j ∧ j ≤ 22) → S' 359 j = S 359 j
theorem FX.rf (S : Nat → Nat → Int32) : FX S S := ⟨fun _ _ => rfl, fun _ _ => rfl⟩
theorem FX.tr {S S' S'' : Nat → Nat → Int32} (h1 : FX S S') (h2 : FX S' S'') : FX S S'' := ⟨fun k a => (h2.1 k a).trans (h1.1 k a), fun j a => (h2.2 j a).trans (h1.2 j a)⟩
theorem FX.up {S : Nat → Nat → Int32} {j : Nat} {x : Int32} (hj : 19 ≤ j ∧ j ≤ 22) : FX S (up S 359 j x) := ⟨fun _ h => up_row_ne h, fun _ h => up_ne (by omega)⟩
theorem FX.fn {S S' : Nat → Nat → Int32} (h : FX S S') : FN S S' := ⟨fun k a _ => h.1 k a, fun j _ _ c => h.2 j (by omega)⟩
theorem TM.fx {tp : Nat → Int32} {tl : Nat} {S S' : Nat → Nat → Int32} (h : TM tp tl S) (hf : FX S S') : TM tp tl S' := ⟨h.1, by rw [hf.2 14 (by omega)]; exact h.2.1, fun j hj => by rw [hf.1 368 (by omega)]; exact h.2.2 j hj⟩
theorem TM.fn {tp : Nat → Int32} {tl : Nat} {S S' : Nat → Nat → Int32} (h : TM tp tl S) (hf : FN S S') : TM tp tl S' := ⟨h.1, by rw [hf.2 14 (by omega) (by omega) (by omega)]; exact h.2.1, fun j hj => by rw [hf.1 368 (by omega) (by omega)]; exact h.2.2 j hj⟩
theorem figM (S : Nat → Nat → Int32) (x : Int32) (sc : Nat × (Nat → Int32)) (d : Nat) : EX sc (d + 2) 146 0 [.int x] [] (mk S) = some (some (.int (if isF x = true then 1 else 0)), mk S) := by
  rw [e146_0, inL sc x 48 57 48 57 S d rfl rfl, cI_s, ii_ok]
  unfold isF
  by_cases c : 48 ≤ x ∧ x ≤ 57
  · rw [if_pos c, if_pos (decide_eq_true c)]
  · rw [if_neg c, if_neg (by simp [c])]
def rn (tp : Nat → Int32) (tl : Nat) : Nat → Nat → Nat
  | 0, _ => 0
  | f + 1, q => if isF (bt tp tl q) = true then 1 + rn tp tl f (q + 1) else 0
def nvR (tp : Nat → Int32) (tl : Nat) : Nat → Nat → Nat → Nat → Nat
  | 0, _, v, _ => v
  | m + 1, k, v, q => nvR tp tl m (k + 1) (if k < 2 then 10 * v + dv (bt tp tl q) else v) (q + 1)
theorem A368_a {S : Nat → Nat → Int32} {j : Nat} (h : j < 100) : aI (mk S) 368 (nI j) = some (S 368 j) := aI_at A368 h (by omega)
theorem num_loop {tp : Nat → Int32} {tl : Nat} (sc : Nat × (Nat → Int32)) (d : Nat) : ∀ (f q k v : Nat) (S : Nat → Nat → Int32), q + f = tl → k + f ≤ 1000 → TM tp tl S → S 359 19 = nI q → S 359 22 = nI v → ∃ S', EX sc (d + 3) 147 6 [.ref 359, Jk, .int (nI k)] [] (mk S) = some (none, mk S') ∧ FX S S' ∧ S' 359 20 = S 359 20 ∧ S' 359 19 = nI (q + rn tp tl f q) ∧ S' 359 21 = (if k + rn tp tl f q < 3 then 0 else -1) ∧ S' 359 22 = nI (nvR tp tl (rn tp tl f q) k v q) := by
  have fin : ∀ k q v (S : Nat → Nat → Int32), k ≤ 1000 → S 359 19 = nI q → S 359 22 = nI v → ∃ S', EX sc (d + 3) 147 9 [.ref 359, Jk, .int (nI k)] [] (mk S) = some (none, mk S') ∧ FX S S' ∧ S' 359 20 = S 359 20 ∧ S' 359 19 = nI q ∧ S' 359 21 = (if k < 3 then 0 else -1) ∧ S' 359 22 = nI v := by
    intro k q v S hk h19 h22
    rw [e147_9]
    by_cases c : k < 3
    · refine ⟨up S 359 21 0, ?_, FX.up (by omega), up_ne (by omega), by rw [up_ne (by omega)]; exact h19, by rw [up_same, if_pos c], by rw [up_ne (by omega)]; exact h22⟩
      rw [if_neg (show ¬ (3 : Int32) ≤ nI k from nI_ge (b := 3) c (by omega)), e147_11]
      simp only [P359, oB_s]
    · refine ⟨up S 359 21 (-1), ?_, FX.up (by omega), up_ne (by omega), by rw [up_ne (by omega)]; exact h19, by rw [up_same, if_neg c], by rw [up_ne (by omega)]; exact h22⟩
      rw [if_pos (show (3 : Int32) ≤ nI k from nI_le (a := 3) (by omega) (by omega)), e147_10, e147_11]
      simp only [P359, oB_s]
  intro f
  induction f with
  | zero =>
    intro q k v S hq hk h h19 h22
    rw [e147_6]
    simp only [O359, oB_s, h19, h.2.1]
    rw [if_pos (nI_le (by omega) (by have := h.1; omega))]
    exact fin k q v S (by omega) h19 h22
  | succ f ih =>
    intro q k v S hq hk h h19 h22
    have h100 := h.1
    have hb : S 368 q = bt tp tl q := by
      unfold bt
      rw [if_pos (by omega)]
      exact h.2.2 q (by omega)
    rw [e147_6]
    simp only [O359, oB_s, h19, h.2.1]
    rw [if_neg (nI_ge (by omega) (by omega))]
    simp only [A368_a (S := S) (show q < 100 by omega), oB_s, hb, figM, cI_s, ii_0]
    by_cases c : isF (bt tp tl q) = true
    · have hr : rn tp tl (f + 1) q = 1 + rn tp tl f (q + 1) := if_pos c
      have nxt : ∀ v', v' = (if k < 2 then 10 * v + dv (bt tp tl q) else v) → ∃ S', EX sc (d + 3) 147 8 [.ref 359, Jk, .int (nI k)] [.int (nI v'), .ref 359] (mk S) = some (none, mk S') ∧ FX S S' ∧ S' 359 20 = S 359 20 ∧ S' 359 19 = nI (q + rn tp tl (f + 1) q) ∧ S' 359 21 = (if k + rn tp tl (f + 1) q < 3 then 0 else -1) ∧ S' 359 22 = nI (nvR tp tl (rn tp tl (f + 1) q) k v q) := by
        intro v' hv'
        have f1 : FX S (up (up S 359 22 (nI v')) 359 19 (nI (q + 1))) := (FX.up (by omega)).tr (FX.up (by omega))
        obtain ⟨S1, k1, k2, k3, k4, k5, k6⟩ := ih (q + 1) (k + 1) v' (up (up S 359 22 (nI v')) 359 19 (nI (q + 1))) (by omega) (by omega) (h.fx f1) (up_same _ _ _ _) (by rw [up_ne (by omega), up_same])
        refine ⟨S1, ?_, f1.tr k2, ?_, ?_, ?_, ?_⟩
        · rw [e147_8]
          simp only [P359, oB_s, O359, up_ne (show ¬ (359 = 359 ∧ 19 = 22) by omega), h19, nI_1]
          exact k1
        · rw [k3, up_ne (by omega), up_ne (by omega)]
        · rw [k4, hr, show q + 1 + rn tp tl f (q + 1) = q + (1 + rn tp tl f (q + 1)) by omega]
        · rw [k5, hr, show k + 1 + rn tp tl f (q + 1) = k + (1 + rn tp tl f (q + 1)) by omega]
        · rw [k6, hr, show 1 + rn tp tl f (q + 1) = rn tp tl f (q + 1) + 1 by omega, hv']
          rfl
      rw [if_pos c]
      by_cases c2 : k < 2
      · have e : 10 * nI v + bt tp tl q - 48 = nI (10 * v + dv (bt tp tl q)) := by
          rw [(fig_dv c).2, show (10 : Int32) = nI 10 from rfl, pk_mul, nI_add, show (48 : Int32) = nI 48 from rfl, pk_sub (by omega), ← (fig_dv c).2]
          congr 1
          omega
        rw [if_neg (show ¬ (2 : Int32) ≤ nI k from nI_ge (b := 2) c2 (by omega))]
        simp only [O359, oB_s, h22, h19, A368_a (S := S) (show q < 100 by omega), hb, e]
        exact nxt _ (by rw [if_pos c2])
      · rw [if_pos (show (2 : Int32) ≤ nI k from nI_le (a := 2) (by omega) (by omega)), e147_7]
        simp only [O359, oB_s, h22]
        exact nxt _ (by rw [if_neg c2])
    · have hr : rn tp tl (f + 1) q = 0 := if_neg c
      rw [if_neg c, hr]
      exact fin k q v S (by omega) h19 h22
theorem rn_step {tp : Nat → Int32} {tl q : Nat} : rn tp tl (tl - q) q = if isF (bt tp tl q) = true then 1 + rn tp tl (tl - (q + 1)) (q + 1) else 0 := by
  by_cases c : q < tl
  · rw [show tl - q = (tl - (q + 1)) + 1 by omega]
    rfl
  · rw [if_neg (fun z => c (bt_fig z)), show tl - q = 0 by omega]
    rfl
def tk1 (x : Int32) : Int32 := if (97 ≤ x ∧ x ≤ 122) ∨ x = 44 ∨ x = 59 then x else -1
theorem next_spec {tp : Nat → Int32} {tl p : Nat} {S : Nat → Nat → Int32} (h : TM tp tl S) (hp : p ≤ tl) (h19 : S 359 19 = nI p) (sc : Nat × (Nat → Int32)) (d : Nat) : ∃ S', EX sc (d + 3) 147 0 [.ref 359, Jk, Jk] [] (mk S) = some (none, mk S') ∧ FX S S' ∧ S' 359 20 = nI p ∧ (isF (bt tp tl p) = false → S' 359 21 = tk1 (bt tp tl p) ∧ (p < tl → S' 359 19 = nI (p + 1))) ∧ (isF (bt tp tl p) = true → fg tp tl p ≤ 2 → S' 359 21 = 0 ∧ S' 359 19 = nI (p + fg tp tl p) ∧ S' 359 22 = nI (vl tp tl p)) ∧ (fg tp tl p = 3 → S' 359 21 = -1) := by
  have h100 := h.1
  obtain ⟨S1, hS1⟩ : ∃ S1, S1 = up (up (up S 359 20 (nI p)) 359 21 (-1)) 359 22 0 := ⟨_, rfl⟩
  have f1 : FX S S1 := by rw [hS1]; exact ((FX.up (by omega)).tr (FX.up (by omega))).tr (FX.up (by omega))
  have a19 : S1 359 19 = nI p := by rw [hS1, up_ne (by omega), up_ne (by omega), up_ne (by omega)]; exact h19
  have a20 : S1 359 20 = nI p := by rw [hS1, up_ne (by omega), up_ne (by omega), up_same]
  have a21 : S1 359 21 = -1 := by rw [hS1, up_ne (by omega), up_same]
  have a22 : S1 359 22 = nI 0 := by rw [hS1, up_same]; rfl
  have t1 := h.fx f1
  have head : EX sc (d + 3) 147 0 [.ref 359, Jk, Jk] [] (mk S) = if nI p = nI tl then some (none, mk S1) else EX sc (d + 3) 147 1 [.ref 359, Jk, Jk] [] (mk S1) := by
    rw [e147_0]
    simp only [O359, oB_s, h19, P359]
    rw [← hS1]
    simp only [O359, oB_s, a19, t1.2.1]
  by_cases cp : p = tl
  · have hb : bt tp tl p = -1 := if_neg (by omega)
    have nf : isF (bt tp tl p) = false := by rw [hb]; rfl
    have f0 : fg tp tl p = 0 := by unfold fg; rw [nf, if_neg (by decide)]
    refine ⟨S1, by rw [head, if_pos (by rw [cp])], f1, a20, fun _ => ⟨by rw [a21, hb]; rfl, fun q => by omega⟩, fun q => (by rw [nf] at q; cases q), fun q => by omega⟩
  · have hb : S1 368 p = bt tp tl p := by
      unfold bt
      rw [if_pos (by omega)]
      exact t1.2.2 p (by omega)
    rw [head, if_neg (fun q => cp ((nI_eq (by omega) (by omega)).mp q)), e147_1]
    simp only [O359, oB_s, a19, A368_a (S := S1) (show p < 100 by omega), hb, figM, cI_s, ii_0]
    by_cases c : isF (bt tp tl p) = true
    · obtain ⟨S2, k1, k2, k3, k4, k5, k6⟩ := num_loop (tp := tp) sc d (tl - p) p 0 0 S1 (by omega) (by omega) t1 a19 a22
      rw [if_pos c, e147_5]
      refine ⟨S2, k1, f1.tr k2, k3.trans a20, fun q => (by rw [c] at q; cases q), fun _ hle => ?_, fun hfg => ?_⟩
      · have r0 := rn_step (tp := tp) (tl := tl) (q := p)
        have r1 := rn_step (tp := tp) (tl := tl) (q := p + 1)
        have r2 := rn_step (tp := tp) (tl := tl) (q := p + 1 + 1)
        rw [if_pos c] at r0
        by_cases c1 : isF (bt tp tl (p + 1)) = true
        · rw [if_pos c1] at r1
          by_cases c2 : isF (bt tp tl (p + 2)) = true
          · have : fg tp tl p = 3 := by unfold fg; rw [if_pos c, if_pos c1, if_pos c2]
            omega
          · have hfg : fg tp tl p = 2 := by unfold fg; rw [if_pos c, if_pos c1, if_neg c2]
            rw [if_neg c2] at r2
            have rr : rn tp tl (tl - p) p = 2 := by rw [r0, r1, r2]
            rw [rr] at k4 k5 k6
            refine ⟨k5, by rw [hfg]; exact k4, ?_⟩
            rw [k6]
            unfold vl
            rw [hfg]
            show nI (10 * (10 * 0 + dv (bt tp tl p)) + dv (bt tp tl (p + 1))) = nI (10 * dv (bt tp tl p) + dv (bt tp tl (p + 1)))
            congr 1
            omega
        · have hfg : fg tp tl p = 1 := by unfold fg; rw [if_pos c, if_neg c1]
          rw [if_neg c1] at r1
          have rr : rn tp tl (tl - p) p = 1 := by rw [r0, r1]
          rw [rr] at k4 k5 k6
          refine ⟨k5, by rw [hfg]; exact k4, ?_⟩
          rw [k6]
          unfold vl
          rw [hfg]
          show nI (10 * 0 + dv (bt tp tl p)) = nI (dv (bt tp tl p))
          congr 1
          omega
      · have r0 := rn_step (tp := tp) (tl := tl) (q := p)
        have r1 := rn_step (tp := tp) (tl := tl) (q := p + 1)
        have r2 := rn_step (tp := tp) (tl := tl) (q := p + 1 + 1)
        rw [if_pos c] at r0
        unfold fg at hfg
        rw [if_pos c] at hfg
        by_cases c1 : isF (bt tp tl (p + 1)) = true
        · rw [if_pos c1] at hfg r1
          by_cases c2 : isF (bt tp tl (p + 2)) = true
          · rw [if_pos c2] at r2
            rw [k5, if_neg (by omega)]
          · rw [if_neg c2] at hfg; omega
        · rw [if_neg c1] at hfg; omega
    · have cf : isF (bt tp tl p) = false := by simpa using c
      have f0 : fg tp tl p = 0 := by unfold fg; rw [if_neg c]
      have fin : ∀ x, EX sc (d + 3) 147 4 [.ref 359, Jk, Jk] [.int x, .ref 359] (mk S1) = some (none, mk (up (up S1 359 21 x) 359 19 (nI (p + 1)))) := by
        intro x
        rw [e147_4]
        simp only [P359, oB_s, O359, up_ne (show ¬ (359 = 359 ∧ 19 = 21) by omega), a19, nI_1]
      have go : ∀ x, x = tk1 (bt tp tl p) → ∃ S', (some (none, mk (up (up S1 359 21 x) 359 19 (nI (p + 1)))) : Option Res) = some (none, mk S') ∧ FX S S' ∧ S' 359 20 = nI p ∧ (isF (bt tp tl p) = false → S' 359 21 = tk1 (bt tp tl p) ∧ (p < tl → S' 359 19 = nI (p + 1))) ∧ (isF (bt tp tl p) = true → fg tp tl p ≤ 2 → S' 359 21 = 0 ∧ S' 359 19 = nI (p + fg tp tl p) ∧ S' 359 22 = nI (vl tp tl p)) ∧ (fg tp tl p = 3 → S' 359 21 = -1) := by
        intro x hx
        refine ⟨_, rfl, (f1.tr (FX.up (by omega))).tr (FX.up (by omega)), by rw [up_ne (by omega), up_ne (by omega)]; exact a20, fun _ => ⟨by rw [up_ne (by omega), up_same, hx], fun _ => up_same _ _ _ _⟩, fun q => absurd q c, fun q => by omega⟩
      rw [if_neg c, inL sc (bt tp tl p) 97 122 97 122 S1 (d + 1) rfl rfl]
      simp only [cI_s, ii_0]
      by_cases c1 : 97 ≤ bt tp tl p ∧ bt tp tl p ≤ 122
      · rw [if_pos c1, e147_2, fin]
        exact go _ (by unfold tk1; rw [if_pos (Or.inl c1)])
      · rw [if_neg c1]
        by_cases c2 : bt tp tl p = 44
        · rw [if_pos c2, e147_2, fin]
          exact go _ (by unfold tk1; rw [if_pos (Or.inr (Or.inl c2))])
        · rw [if_neg c2]
          by_cases c3 : bt tp tl p = 59
          · rw [if_pos c3, e147_2, fin]
            exact go _ (by unfold tk1; rw [if_pos (Or.inr (Or.inr c3))])
          · rw [if_neg c3, e147_3, fin]
            exact go _ (by unfold tk1; rw [if_neg (fun z => by rcases z with z | z | z; exact c1 z; exact c2 z; exact c3 z)])
