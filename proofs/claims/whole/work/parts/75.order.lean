/-! order: the class -/
def prB (a : Hs) (t : Nat → Nat) (x : Nat) : Nat → Bool
  | 0 => false
  | k + 1 => if a 5 x = 20 ∧ a 5 (t k) = 20 ∧ a 2 x = a 2 (t k) then false else if x < t k then true else prB a t x k
theorem prB_ex {a : Hs} {t : Nat → Nat} {x : Nat} : ∀ p, prB a t x p = true → ∃ k, k < p ∧ x < t k ∧ ∀ j, k ≤ j → j < p → ¬ (a 5 x = 20 ∧ a 5 (t j) = 20 ∧ a 2 x = a 2 (t j))
  | 0, h => by cases h
  | p + 1, h => by
    unfold prB at h
    by_cases c : a 5 x = 20 ∧ a 5 (t p) = 20 ∧ a 2 x = a 2 (t p)
    · rw [if_pos c] at h; cases h
    · rw [if_neg c] at h
      by_cases c2 : x < t p
      · exact ⟨p, by omega, c2, fun j h1 h2 => by rw [show j = p by omega]; exact c⟩
      · rw [if_neg c2] at h
        obtain ⟨k, h1, h2, h3⟩ := prB_ex p h
        refine ⟨k, by omega, h2, fun j j1 j2 => ?_⟩
        by_cases e : j = p
        · rw [e]; exact c
        · exact h3 j j1 (by omega)
theorem could_eq {S : Nat → Nat → Int32} {a : Hs} {B : Nat} {t : Nat → Nat} {x p : Nat} (h : HR S 23 a) (hw : WFg B a) (hx : x < a 0 3) (hp : p ≤ 6) (ht : ∀ j, j < p → S 68 j = nI (t j) ∧ t j < a 0 3) (sc : Nat × (Nat → Int32)) (d : Nat) : EX sc (d + 1) 38 0 [.ref 45, .ref 23, .int (nI x), .int (nI p), Jk, Jk] [] (mk S) = some (some (.int (if prB a t x p = true then 1 else 0)), mk S) := by
  have h6 := hw.1
  have loop : ∀ k, k ≤ p → EX sc (d + 1) 38 1 [.ref 45, .ref 23, .int (nI x), Jk, .int (nI k - 1), Jk] [] (mk S) = some (some (.int (if prB a t x k = true then 1 else 0)), mk S) := by
    intro k
    induction k with
    | zero =>
      intro _
      rw [e38_1, if_pos (by decide), e38_4, bt0]
      rfl
    | succ k ih =>
      intro hk
      obtain ⟨t1, t2⟩ := ht k (by omega)
      have p1 : S 28 x = nI (a 5 x) := pl_I h (show 1 ≤ 5 by omega) (show 5 ≤ 8 by omega) (show x < 6 by omega)
      have p2 : S 28 (t k) = nI (a 5 (t k)) := pl_I h (show 1 ≤ 5 by omega) (show 5 ≤ 8 by omega) (show t k < 6 by omega)
      have p3 : S 25 x = nI (a 2 x) := pl_I h (show 1 ≤ 2 by omega) (show 2 ≤ 8 by omega) (show x < 6 by omega)
      have p4 : S 25 (t k) = nI (a 2 (t k)) := pl_I h (show 1 ≤ 2 by omega) (show 2 ≤ 8 by omega) (show t k < 6 by omega)
      have b1 := pl_22 hw hx
      have b2 := pl_22 hw t2
      have b3 := (hw.2.2.2.2.2 x hx).2.1
      have b4 := (hw.2.2.2.2.2 (t k) t2).2.1
      have b5 := hw.2.1
      have e1 : (nI (a 5 x) = 20) ↔ a 5 x = 20 := nI_eq (b := 20) (by omega) (by omega)
      have e2 : (nI (a 5 (t k)) = 20) ↔ a 5 (t k) = 20 := nI_eq (b := 20) (by omega) (by omega)
      have e3 : (nI (a 2 x) = nI (a 2 (t k))) ↔ a 2 x = a 2 (t k) := nI_eq (by omega) (by omega)
      have r2 : EX sc (d + 1) 38 2 [.ref 45, .ref 23, .int (nI x), Jk, .int (nI k), .int (nI (t k))] [] (mk S) = some (some (.int (if (if x < t k then true else prB a t x k) = true then 1 else 0)), mk S) := by
        rw [e38_2]
        by_cases c : x < t k
        · rw [if_neg (nI_ge c (by omega)), bt1, if_pos c]
          rfl
        · rw [if_pos (nI_le (by omega) (by omega)), if_neg c, e38_3, addm1]
          exact ih (by omega)
      rw [nI_pred, e38_1, if_neg (nI_pos (by omega))]
      simp only [O45, oB_s, aI_at (S := S) A68 (show k < 6 by omega) (by omega), t1, Hg isH_23, fun S => HA isH_23 S (show x < 6 by omega), fun S => HA isH_23 S (show t k < 6 by omega), p1, p2, p3, p4]
      have pst : prB a t x (k + 1) = if a 5 x = 20 ∧ a 5 (t k) = 20 ∧ a 2 x = a 2 (t k) then false else if x < t k then true else prB a t x k := rfl
      by_cases c1 : a 5 x = 20
      · rw [if_pos (e1.mpr c1)]
        by_cases c2 : a 5 (t k) = 20
        · rw [if_pos (e2.mpr c2)]
          by_cases c3 : a 2 x = a 2 (t k)
          · have pv : prB a t x (k + 1) = false := pst.trans (if_pos ⟨c1, c2, c3⟩)
            rw [if_pos (e3.mpr c3), pv]
            rfl
          · have pv := pst.trans (if_neg (fun q => c3 q.2.2))
            rw [if_neg (fun q => c3 (e3.mp q)), pv]
            exact r2
        · have pv := pst.trans (if_neg (fun q => c2 q.2.1))
          rw [if_neg (fun q => c2 (e2.mp q)), pv]
          exact r2
      · have pv := pst.trans (if_neg (fun q => c1 q.1))
        rw [if_neg (fun q => c1 (e1.mp q)), pv]
        exact r2
  rw [e38_0]
  exact loop p (Nat.le_refl _)
def rst : Nat → Hs → Nat
  | 0, _ => 0
  | k + 1, b => osum k (tickS b)
theorem osum_rst : ∀ k b, osum k b = outC b + rst k b
  | 0, _ => rfl
  | _ + 1, _ => rfl
theorem outC_le (b : Hs) : outC b ≤ 6 := bitN_le 6 _
theorem osum_le : ∀ k b, osum k b ≤ 6 * (k + 1)
  | 0, b => by have := outC_le b; show outC b ≤ _; omega
  | k + 1, b => by
    have := outC_le b
    have := osum_le k (tickS b)
    show outC b + osum k (tickS b) ≤ _
    omega
theorem bitN_0 : ∀ x, x < 64 → bitN 6 x = 0 → x = 0 := by decide +kernel
theorem osum_0 : ∀ k (b : Hs), b 0 3 ≤ 6 → b 0 0 ≤ 9 → (∀ j, j < b 0 3 → b 8 j < b 0 3) → outB b = 0 → osum k b = 0
  | 0, b, _, _, _, h => by show bitN 6 (outB b) = 0; rw [h]; rfl
  | k + 1, b, h6, h9, hr, h => by
    show bitN 6 (outB b) + osum k (tickS b) = 0
    rw [h, tick_box h6 h9 h hr, osum_0 k (upA b 0 2 (b 0 2 + 1)) (by rw [upA_ne (by omega)]; exact h6) (by rw [upA_ne (by omega)]; exact h9) (by rw [upA_ne (by omega), upA_c (by omega)]; exact hr) (by rw [outB_t]; exact h)]
    rfl
theorem rst_0 {k : Nat} {b : Hs} (hw : OkT k b) (h : outC b = 0) : rst k b = 0 := by
  obtain ⟨B, w, _⟩ := hw
  have := osum_0 k b w.1 w.2.1 (fun j hj => (w.2.2.2.2.2 j hj).2.2.2.2.2.2.2) (bitN_0 _ (outB_lt w.1) h)
  rw [osum_rst, h] at this
  omega
theorem weigh_loop {n F : Nat} (hn : n ≤ 40) (hF : F < 2 ^ 31) (sc : Nat × (Nat → Int32)) (d : Nat) : ∀ (k t : Nat) (b : Hs) (S : Nat → Nat → Int32) (acc : Nat), t + k = n → HR S 46 b → OkT k b → S 45 4 = nI F → acc ≤ 6 * (t + 1) → ∃ S' s', EX sc (d + 4) 39 1 [.ref 45, Jk, .int (nI n), .int (nI (outC b)), .int (nI acc), .int (nI t)] [] (mk S) = EX sc (d + 4) 39 2 [.ref 45, Jk, Jk, Jk, .int (nI s'), Jk] [] (mk S') ∧ (s' = acc + rst k b ∨ F ≤ s' ∧ F ≤ acc + rst k b) ∧ s' ≤ 300 ∧ Fr 46 S S' := by
  intro k
  induction k with
  | zero =>
    intro t b S acc ht h hw hS ha
    refine ⟨S, acc, ?_, Or.inl rfl, by omega, fun _ _ => rfl⟩
    rw [e39_1, if_pos (nI_le (by omega) (by omega))]
  | succ k ih =>
    intro t b S acc ht h hw hS ha
    rw [e39_1, if_neg (nI_ge (by omega) (by omega))]
    by_cases c0 : outC b = 0
    · refine ⟨S, acc, ?_, Or.inl (by rw [rst_0 hw c0]; rfl), by omega, fun _ _ => rfl⟩
      rw [c0, if_pos (show nI 0 ≤ 0 by decide)]
    · have := outC_le b
      rw [if_neg (show ¬ nI (outC b) ≤ 0 from nI_ge (a := 0) (by omega) (by omega))]
      simp only [O45, oB_s, hS]
      by_cases c1 : F ≤ acc
      · refine ⟨S, acc, ?_, Or.inr ⟨c1, by omega⟩, by omega, fun _ _ => rfl⟩
        rw [if_pos (nI_le c1 (by omega))]
      · rw [if_neg (nI_ge (by omega) (by omega))]
        obtain ⟨S1, k1, k2, k3⟩ := tickT h hw sc d
        have hw1 : OkT k (tickS b) := hw.tick
        have h6 := hw1.l6
        have o1 := lettersOutside_eq k2 h6 sc (d + 1)
        have o2 := bitCount_eq S1 (outB_lt h6) sc (d + 2)
        have := outC_le (tickS b)
        obtain ⟨S2, s', m1, m2, m3, m4⟩ := ih (t + 1) (tickS b) S1 (acc + outC (tickS b)) (by omega) k2 hw1 (by rw [k3 45 (by omega)]; exact hS) (by omega)
        refine ⟨S2, s', ?_, ?_, m3, fun q hq => (m4 q hq).trans (k3 q hq)⟩
        · simp only [Hg isH_46, if_true, k1, cV_s, O45, oB_s, o1, cI_s, o2]
          rw [nI_add, nI_1]
          exact m1
        · show s' = acc + osum k (tickS b) ∨ F ≤ s' ∧ F ≤ acc + osum k (tickS b)
          rw [osum_rst]
          omega
theorem OkT_w8 {n : Nat} {a : Hs} {t : Nat → Nat} (h : OkT n a) (h1 : ∀ i, i < a 0 3 → t i < a 0 3) (h2 : ∀ i j, i < a 0 3 → j < a 0 3 → t i = t j → i = j) : OkT n (w8 a t) := by
  obtain ⟨B, w, h3, h4, h5⟩ := h
  refine ⟨B, ⟨w.1, w.2.1, w.2.2.1, w.2.2.2.1, w.2.2.2.2.1, fun i hi => ?_⟩, h3, h4, fun i j hi hj he => h2 i j hi hj ?_⟩
  · obtain ⟨q1, q2, q3, q4, q5, q6, q7, q8⟩ := w.2.2.2.2.2 i hi
    exact ⟨q1, q2, q3, q4, q5, q6, q7, h1 i hi⟩
  · rw [w8_8] at he; exact he
def FO (S S' : Nat → Nat → Int32) : Prop := ∀ k, k ≠ 45 → ¬ (46 ≤ k ∧ k ≤ 56) → k ≠ 68 → k ≠ 69 → S' k = S k
theorem FO.rf (S : Nat → Nat → Int32) : FO S S := fun _ _ _ _ _ => rfl
theorem FO.tr {S S' S'' : Nat → Nat → Int32} (h1 : FO S S') (h2 : FO S' S'') : FO S S'' := fun k a b c d => (h2 k a b c d).trans (h1 k a b c d)
theorem Fr.fo {S S' : Nat → Nat → Int32} (h : Fr 46 S S') : FO S S' := fun k _ h2 _ _ => h k (by omega)
theorem weigh_spec {S : Nat → Nat → Int32} {a : Hs} {t : Nat → Nat} {n F : Nat} (h : HR S 23 a) (hw : OkT n a) (hn : n ≤ 40) (hF : F < 2 ^ 31) (hS : S 45 4 = nI F) (ht : ∀ j, j < 6 → S 68 j = nI (t j)) (h1 : ∀ i, i < a 0 3 → t i < a 0 3) (h2 : ∀ i j, i < a 0 3 → j < a 0 3 → t i = t j → i = j) (sc : Nat × (Nat → Int32)) (d : Nat) : ∃ S', EX sc (d + 4) 39 0 [.ref 45, .ref 23, .int (nI n), Jk, Jk, Jk] [] (mk S) = some (none, mk S') ∧ ((osum n (w8 a t) < F ∧ S' 45 4 = nI (osum n (w8 a t)) ∧ ∀ j, j < 6 → S' 69 j = nI (t j)) ∨ (F ≤ osum n (w8 a t) ∧ S' 45 4 = nI F ∧ S' 69 = S 69)) ∧ FO S S' ∧ S' 68 = S 68 := by
  have h6 := hw.l6
  obtain ⟨S1, k1, k2, k3⟩ := copyFrom_spec h isH_46 (Or.inr (by omega)) sc (d + 2)
  have cp : cpA (mk S1) 68 0 (46 + 8) 0 6 = some (mk (va_up S1 (46 + 8) (va_cpy (S1 68) (S1 (46 + 8)) 0 0 6))) := cp_at A68 (AL_6 isH_46 (o := 8) (by omega) (by omega)) (a := 0) (b := 0) (n := 6) (by omega) (by omega) (by omega) (by omega)
  obtain ⟨S2, hS2⟩ : ∃ S2, S2 = va_up S1 (46 + 8) (va_cpy (S1 68) (S1 (46 + 8)) 0 0 6) := ⟨_, rfl⟩
  have n2 : ∀ k, k ≠ 54 → S2 k = S1 k := fun k hk => by rw [hS2]; exact vup_ne (by omega)
  have r2 : ∀ j, j < 6 → S2 54 j = nI (t j) := fun j hj => by
    rw [hS2]
    show va_up S1 54 _ 54 j = _
    rw [vup_at, pk_cpy_in (by omega) (by omega), show 0 + (j - 0) = j by omega, k3 68 (by omega)]
    exact ht j hj
  have g : HR S2 46 (w8 a t) := by
    obtain ⟨g0, g1, g2, g3, g4⟩ := k2
    refine ⟨g0, fun j hj => by rw [n2 46 (by omega), w8_c (by omega)]; exact g1 j hj, fun o j o1 o2 hj => ?_, fun q hq => by rw [n2 (46 + 9) (by omega), ly_8]; exact g3 q hq, fun q hq => by rw [n2 (46 + 10) (by omega), ld_8]; exact g4 q hq⟩
    by_cases e : o = 8
    · rw [e, w8_8]; exact r2 j hj
    · rw [n2 (46 + o) (by omega), w8_c e]; exact g2 o j o1 o2 hj
  have f2 : Fr 46 S S2 := fun k hk => by rw [n2 k (by omega)]; exact k3 k hk
  have o1 := lettersOutside_eq g h6 sc (d + 1)
  have o2 := bitCount_eq S2 (outB_lt (a := w8 a t) h6) sc (d + 2)
  have hok := OkT_w8 hw h1 h2
  have := outC_le (w8 a t)
  obtain ⟨S3, s', m1, m2, m3, m4⟩ := weigh_loop hn hF sc d n 0 (w8 a t) S2 (outC (w8 a t)) (by omega) g hok (by rw [f2 45 (by omega)]; exact hS) (by omega)
  rw [← osum_rst] at m2
  have e0 : EX sc (d + 4) 39 0 [.ref 45, .ref 23, .int (nI n), Jk, Jk, Jk] [] (mk S) = EX sc (d + 4) 39 2 [.ref 45, Jk, Jk, Jk, .int (nI s'), Jk] [] (mk S3) := by
    rw [e39_0]
    simp only [O45, oB_s, Hg isH_46, if_true, k1, cV_s, cp]
    rw [← hS2]
    simp only [o1, cI_s, o2]
    exact m1
  have f3 : Fr 46 S S3 := fun k hk => (m4 k hk).trans (f2 k hk)
  have e4 : S3 45 4 = nI F := by rw [f3 45 (by omega)]; exact hS
  rw [e0, e39_2]
  simp only [O45, oB_s, e4]
  by_cases c : F ≤ s'
  · rw [if_pos (nI_le c (by omega)), e39_3]
    exact ⟨S3, rfl, Or.inr ⟨by omega, e4, f3 69 (by omega)⟩, f3.fo, f3 68 (by omega)⟩
  · have cp2 : cpA (mk (up S3 45 4 (nI s'))) 68 0 69 0 6 = some (mk (va_up (up S3 45 4 (nI s')) 69 (va_cpy (up S3 45 4 (nI s') 68) (up S3 45 4 (nI s') 69) 0 0 6))) := cp_at A68 A69 (a := 0) (b := 0) (n := 6) (by omega) (by omega) (by omega) (by omega)
    rw [if_neg (nI_ge (by omega) (by omega))]
    simp only [P45, oB_s, O45, cp2, e39_3]
    refine ⟨_, rfl, Or.inl ⟨by omega, ?_, fun j hj => ?_⟩, fun k q1 q2 q3 q4 => ?_, ?_⟩
    · rw [vup_ne (by omega), up_same]
      congr 1
      omega
    · rw [vup_at, pk_cpy_in (by omega) (by omega), show 0 + (j - 0) = j by omega, up_row_ne (by omega), f3 68 (by omega)]
      exact ht j hj
    · rw [vup_ne q4, up_row_ne q1]; exact f3 k (by omega)
    · rw [vup_ne (by omega), up_row_ne (by omega)]; exact f3 68 (by omega)
def CS (S : Nat → Nat → Int32) (a : Hs) (n m : Nat) : Prop := ∃ F, S 45 4 = nI F ∧ F < 2 ^ 31 ∧ (bestO a n m = none → F = 247) ∧ ∀ v c, bestO a n m = some (v, c) → F = v ∧ ∀ k, k < a 0 3 → S 69 k = nI (dig (a 0 3) c k)
theorem CS.cg {S S' : Nat → Nat → Int32} {a : Hs} {n m m' : Nat} (h : CS S a n m) (e1 : S' 45 4 = S 45 4) (e2 : S' 69 = S 69) (e3 : bestO a n m' = bestO a n m) : CS S' a n m' := by
  unfold CS at h ⊢
  rw [e1, e2, e3]
  exact h
theorem nI_nat (x : Int32) : nI x.toBitVec.toNat = x := by
  apply Int32.toBitVec_inj.mp
  show BitVec.ofNat 32 x.toBitVec.toNat = x.toBitVec
  exact BitVec.ofNat_toNat _ _
theorem leaf_spec {S : Nat → Nat → Int32} {a : Hs} {t : Nat → Nat} {n : Nat} (h : HR S 23 a) (hw : OkT n a) (hn : n ≤ 40) (hL : 0 < a 0 3) (ht : ∀ j, j < a 0 3 → S 68 j = nI (t j) ∧ t j < a 0 3) (hinj : ∀ i j, i < a 0 3 → j < a 0 3 → t i = t j → i = j) (hP : Pm (a 0 3) (cdN (a 0 3) t (a 0 3))) (hC : CS S a n (cdN (a 0 3) t (a 0 3))) (sc : Nat × (Nat → Int32)) (d : Nat) : ∃ S', EX sc (d + 4) 39 0 [.ref 45, .ref 23, .int (nI n), Jk, Jk, Jk] [] (mk S) = some (none, mk S') ∧ CS S' a n (cdN (a 0 3) t (a 0 3) + 1) ∧ FO S S' ∧ S' 68 = S 68 := by
  obtain ⟨F, c1, c2, c3, c4⟩ := hC
  obtain ⟨t2, ht2⟩ : ∃ t2 : Nat → Nat, t2 = fun j => if j < a 0 3 then t j else (S 68 j).toBitVec.toNat := ⟨_, rfl⟩
  have q1 : ∀ j, j < a 0 3 → t2 j = t j := fun j hj => by rw [ht2]; exact if_pos hj
  have q2 : ∀ j, j < 6 → S 68 j = nI (t2 j) := fun j _ => by
    by_cases c : j < a 0 3
    · rw [q1 j c]; exact (ht j c).1
    · rw [ht2]
      show _ = nI (if j < a 0 3 then t j else (S 68 j).toBitVec.toNat)
      rw [if_neg c, nI_nat]
  obtain ⟨S1, k1, k2, k3, k4⟩ := weigh_spec h hw hn c2 c1 q2 (fun i hi => by rw [q1 i hi]; exact (ht i hi).2) (fun i j hi hj he => hinj i j hi hj (by rw [← q1 i hi, ← q1 j hj]; exact he)) sc d
  refine ⟨S1, k1, ?_, k3, k4⟩
  have dg : ∀ j, j < a 0 3 → dig (a 0 3) (cdN (a 0 3) t (a 0 3)) j = t j := fun j hj => dig_cd (fun j hj => (ht j hj).2) hj
  have os : osum n (w8 a t2) = osum n (rkd a (cdN (a 0 3) t (a 0 3))) := osum_congr (fun j hj => by rw [q1 j hj, dg j hj])
  have ole := osum_le n (w8 a t2)
  rw [os] at k2 ole
  generalize cdN (a 0 3) t (a 0 3) = c at *
  have st : bestO a n (c + 1) = (match bestO a n c with | none => some (osum n (rkd a c), c) | some (v, c') => if osum n (rkd a c) < v then some (osum n (rkd a c), c) else some (v, c')) := by
    rw [best_step]; exact if_pos hP
  unfold CS
  rw [st]
  cases hb : bestO a n c with
  | none =>
    have := c3 hb
    rcases k2 with ⟨r1, r2, r3⟩ | ⟨r1, r2, r3⟩
    · refine ⟨_, r2, by omega, fun z => (by cases z), fun v c' z => ?_⟩
      obtain ⟨z1, z2⟩ := Prod.mk.inj (Option.some.inj z)
      subst z1
      subst z2
      exact ⟨rfl, fun k hk => by rw [r3 k (by have := hw.l6; omega), q1 k hk, dg k hk]⟩
    · omega
  | some w =>
    obtain ⟨v0, c0⟩ := w
    obtain ⟨u1, u2⟩ := c4 v0 c0 hb
    subst u1
    show ∃ F', _ ∧ _ ∧ ((if osum n (rkd a c) < F then some (osum n (rkd a c), c) else some (F, c0)) = none → _) ∧ ∀ v c', (if osum n (rkd a c) < F then some (osum n (rkd a c), c) else some (F, c0)) = some (v, c') → _
    rcases k2 with ⟨r1, r2, r3⟩ | ⟨r1, r2, r3⟩
    · rw [if_pos r1]
      refine ⟨_, r2, by omega, fun z => (by cases z), fun v c' z => ?_⟩
      obtain ⟨z1, z2⟩ := Prod.mk.inj (Option.some.inj z)
      subst z1
      subst z2
      exact ⟨rfl, fun k hk => by rw [r3 k (by have := hw.l6; omega), q1 k hk, dg k hk]⟩
    · rw [if_neg (by omega)]
      refine ⟨F, r2, c2, fun z => (by cases z), fun v c' z => ?_⟩
      obtain ⟨z1, z2⟩ := Prod.mk.inj (Option.some.inj z)
      subst z1
      subst z2
      exact ⟨rfl, fun k hk => by rw [r3]; exact u2 k hk⟩
