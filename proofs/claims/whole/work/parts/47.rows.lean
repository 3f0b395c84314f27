/-! rows: copied -/
theorem cpR_stepD {S : Nat → Nat → Int32} {dst b a n : Nat} (h : ¬ (b ≤ a + n ∧ a + n < b + n)) : up (cpR S dst dst b a n) dst (b + n) (cpR S dst dst b a n dst (a + n)) = cpR S dst dst b a (n + 1) := by
  rw [cpR_out h]
  funext k j
  rw [up_at]
  by_cases hk : k = dst
  · subst hk
    by_cases hj : j = b + n
    · subst hj
      rw [if_pos ⟨rfl, rfl⟩, cpR_at (by omega) (by omega)]
      congr 1
      omega
    · rw [if_neg (fun q => hj q.2)]
      by_cases hj2 : b ≤ j ∧ j < b + n
      · rw [cpR_at hj2.1 hj2.2, cpR_at hj2.1 (by omega)]
      · rw [cpR_out hj2, cpR_out (by omega)]
  · rw [if_neg (fun q => hk q.1), cpR_ne hk, cpR_ne hk]
/-- from the top down -/
def cpD (S : Nat → Nat → Int32) (dst b a N n : Nat) : Nat → Nat → Int32 := va_up S dst (fun j => if b + (N - n) ≤ j ∧ j < b + N then S dst (a + (j - b)) else S dst j)
theorem cpD_at (S : Nat → Nat → Int32) (dst b a N n j : Nat) : cpD S dst b a N n dst j = if b + (N - n) ≤ j ∧ j < b + N then S dst (a + (j - b)) else S dst j := by
  unfold cpD
  rw [vup_at]
theorem cpD_0 (S : Nat → Nat → Int32) (dst b a N : Nat) : cpD S dst b a N 0 = S := by
  unfold cpD
  have : (fun j => if b + (N - 0) ≤ j ∧ j < b + N then S dst (a + (j - b)) else S dst j) = S dst := funext fun j => if_neg (by omega)
  rw [this, vup_id]
theorem cpD_N (S : Nat → Nat → Int32) (dst b a N : Nat) : cpD S dst b a N N = cpR S dst dst b a N := by
  unfold cpD cpR
  rw [Nat.sub_self]
  rfl
theorem cpD_step {S : Nat → Nat → Int32} {dst b a N n : Nat} (hn : n < N) (h : ¬ (b + (N - n) ≤ a + (N - 1 - n) ∧ a + (N - 1 - n) < b + N)) : up (cpD S dst b a N n) dst (b + (N - 1 - n)) (cpD S dst b a N n dst (a + (N - 1 - n))) = cpD S dst b a N (n + 1) := by
  rw [cpD_at, if_neg h]
  funext k j
  rw [up_at]
  by_cases hk : k = dst
  · subst hk
    rw [cpD_at, cpD_at]
    by_cases hj : j = b + (N - 1 - n)
    · subst hj
      rw [if_pos ⟨rfl, rfl⟩, if_pos (by omega)]
      congr 1
      omega
    · rw [if_neg (fun q => hj q.2)]
      by_cases hj2 : b + (N - n) ≤ j ∧ j < b + N
      · rw [if_pos hj2, if_pos (by omega)]
      · rw [if_neg hj2, if_neg (by omega)]
  · rw [if_neg (fun q => hk q.1)]
    unfold cpD
    rw [vup_ne hk, vup_ne hk]
theorem copyM_eq (S : Nat → Nat → Int32) {a b i j n : Nat} (ha : a < 8) (hb : b < 8) (h1 : i + n ≤ 40) (h2 : j + n ≤ 40) (sc : Nat × (Nat → Int32)) (d : Nat) : EX sc (d + 1) 143 7 [.ref 359, .int (nI a), .int (nI i), .int (nI b), .int (nI j), .int (nI n), Jk, Jk, Jk] [] (mk S) = EX sc (d + 1) 143 13 [.ref 359, Jk, Jk, Jk, Jk, .int (nI n), Jk, Jk, Jk] [] (mk (cpR S 360 360 (40 * b + j) (40 * a + i) n)) := by
  rw [e143_7, e143_8, e143_9, e143_9]
  by_cases c : i < j
  · rw [if_pos (nI_lt c (by omega))]
    have := loopN (N := n) (fun k T => EX sc (d + 1) 143 10 [.ref 359, .int (nI a), .int (nI i), .int (nI b), .int (nI j), .int (nI n), .int 0, .int (nI k), Jk] [] (mk T)) (fun T => EX sc (d + 1) 143 13 [.ref 359, Jk, Jk, Jk, Jk, .int (nI n), Jk, Jk, Jk] [] (mk T)) (fun k => cpD S 360 (40 * b + j) (40 * a + i) n k) (by
      show EX sc (d + 1) 143 10 _ _ _ = EX sc (d + 1) 143 13 _ _ _
      rw [e143_10, if_pos (nI_le (by omega) (by omega))]) (fun k hk => by
      show EX sc (d + 1) 143 10 _ _ _ = EX sc (d + 1) 143 10 _ _ _
      obtain ⟨m, hm⟩ : ∃ m, n = m + 1 := ⟨n - 1, by omega⟩
      have e1 : nI n - 1 - nI k = nI (n - 1 - k) := by rw [hm, nI_pred, pk_sub (by omega)]; rfl
      have hst := cpD_step (S := S) (dst := 360) (b := 40 * b + j) (a := 40 * a + i) (N := n) (n := k) hk (by omega)
      rw [e143_10, if_neg (nI_ge (by omega) (by omega)), if_pos rfl, e143_11, e143_12, e1]
      simp only [O359, oB_s, show (40 : Int32) = nI 40 from rfl, pk_mul, nI_add, aI_at (S := cpD S 360 (40 * b + j) (40 * a + i) n k) A360 (show 40 * a + i + (n - 1 - k) < 320 by omega) (by omega), sI_at (S := cpD S 360 (40 * b + j) (40 * a + i) n k) A360 (show 40 * b + j + (n - 1 - k) < 320 by omega) (by omega), hst, nI_1]) n 0 (by omega)
    rw [cpD_0, cpD_N] at this
    exact this
  · rw [if_neg (nI_nlt (by omega) (by omega))]
    have := loopN (N := n) (fun k T => EX sc (d + 1) 143 10 [.ref 359, .int (nI a), .int (nI i), .int (nI b), .int (nI j), .int (nI n), .int 1, .int (nI k), Jk] [] (mk T)) (fun T => EX sc (d + 1) 143 13 [.ref 359, Jk, Jk, Jk, Jk, .int (nI n), Jk, Jk, Jk] [] (mk T)) (fun k => cpR S 360 360 (40 * b + j) (40 * a + i) k) (by
      show EX sc (d + 1) 143 10 _ _ _ = EX sc (d + 1) 143 13 _ _ _
      rw [e143_10, if_pos (nI_le (by omega) (by omega))]) (fun k hk => by
      show EX sc (d + 1) 143 10 _ _ _ = EX sc (d + 1) 143 10 _ _ _
      have hst := cpR_stepD (S := S) (dst := 360) (b := 40 * b + j) (a := 40 * a + i) (n := k) (by omega)
      rw [e143_10, if_neg (nI_ge (by omega) (by omega)), if_neg i10, e143_12]
      simp only [O359, oB_s, show (40 : Int32) = nI 40 from rfl, pk_mul, nI_add, aI_at (S := cpR S 360 360 (40 * b + j) (40 * a + i) k) A360 (show 40 * a + i + k < 320 by omega) (by omega), sI_at (S := cpR S 360 360 (40 * b + j) (40 * a + i) k) A360 (show 40 * b + j + k < 320 by omega) (by omega), hst, nI_1]) n 0 (by omega)
    rw [cpR_0] at this
    exact this
theorem op_copy (sc : Nat × (Nat → Int32)) (x y z w v : Int32) : St2 sc 83 [.ref 0, .int x, .int y, .int z, .int w, .int v] 143 [.ref 359, .int x, .int y, .int z, .int w, .int v, Jk, Jk, Jk] := by
  rintro S ⟨X, hX, hC, hM⟩
  by_cases c1 : 0 ≤ x ∧ x ≤ 7
  · by_cases c2 : 0 ≤ z ∧ z ≤ 7
    · obtain ⟨a, ha, rfl⟩ := toN (N := 7) (by omega) c1
      obtain ⟨b, hb, rfl⟩ := toN (N := 7) (by omega) c2
      have ha8 : a < 8 := by omega
      have hb8 : b < 8 := by omega
      have fnd : ∀ t : Int32, (EX sc 39 83 0 [.ref 0, .int (nI a), .int y, .int (nI b), .int w, .int v] [] (mk S) = some (some (.int (-1000010 - t)), mk (up S 0 12 t))) → (∀ S1, MP S1 X → EX sc 39 143 0 [.ref 359, .int (nI a), .int y, .int (nI b), .int w, .int v, Jk, Jk, Jk] [] (mk S1) = some (some (.int (-1000010 - t)), mk (up S1 359 3 t))) → ∃ r S1 S2, EX sc 39 83 0 [.ref 0, .int (nI a), .int y, .int (nI b), .int w, .int v] [] (mk S) = some (some (.int r), mk S1) ∧ EX sc 39 143 0 [.ref 359, .int (nI a), .int y, .int (nI b), .int w, .int v, Jk, Jk, Jk] [] (mk S1) = some (some (.int r), mk S2) ∧ Inv S2 := fun t h1 h2 => stp (X := X) (X' := X.wst t) hX hX hM ⟨_, h1, CR_st hC t, FrC.up (by omega)⟩ (fun S1 hM1 => ⟨_, h2 S1 hM1, MP_st hM1 hX t, FrM.up (by omega)⟩)
      have c0 : EX sc 39 83 0 [.ref 0, .int (nI a), .int y, .int (nI b), .int w, .int v] [] (mk S) = if X.sz a = -1 ∨ X.sz b = -1 then some (some (.int (-1000010 - 1)), mk (up S 0 12 1)) else EX sc 39 83 4 [.ref 0, .int (nI a), .int y, .int (nI b), .int w, .int v] [] (mk S) := by
        rw [e83_0, isRowC, cI_s, ii_0, if_pos c1, isRowC, cI_s, ii_0, if_pos c2, e83_2]
        simp only [O0, O1, oB_s, if_true, isMissing_eq hX hC ha8, isMissing_eq hX hC hb8, cI_s, ii_0, e83_3, foundC]
        by_cases m1 : X.sz a = -1
        · rw [if_pos m1, if_pos (Or.inl m1)]
        · rw [if_neg m1]
          by_cases m2 : X.sz b = -1
          · rw [if_pos m2, if_pos (Or.inr m2)]
          · rw [if_neg m2, if_neg (fun q => q.elim m1 m2)]
      have m0 : ∀ S1, MP S1 X → EX sc 39 143 0 [.ref 359, .int (nI a), .int y, .int (nI b), .int w, .int v, Jk, Jk, Jk] [] (mk S1) = if X.sz a = -1 ∨ X.sz b = -1 then some (some (.int (-1000010 - 1)), mk (up S1 359 3 1)) else EX sc 39 143 4 [.ref 359, .int (nI a), .int y, .int (nI b), .int w, .int v, Jk, Jk, Jk] [] (mk S1) := by
        intro S1 hM1
        rw [e143_0, isRowM, cI_s, ii_0, if_pos c1, isRowM, cI_s, ii_0, if_pos c2, e143_2]
        simp only [O359, oB_s, aI_at (S := S1) A362 ha8 (by omega), aI_at (S := S1) A362 hb8 (by omega), (hM1.shelf a ha8).1, (hM1.shelf b hb8).1, e143_3, if_true, foundM, cI_s]
        by_cases m1 : X.sz a = -1
        · rw [if_pos ((sz_lt hX ha8).mpr m1), if_pos (Or.inl m1)]
        · rw [if_neg (fun q => m1 ((sz_lt hX ha8).mp q))]
          by_cases m2 : X.sz b = -1
          · rw [if_neg (fun q => (sz_neg hX hb8).mp q m2), if_pos (Or.inr m2)]
          · rw [if_pos ((sz_neg hX hb8).mpr m2), if_neg (fun q => q.elim m1 m2)]
      by_cases hm : X.sz a = -1 ∨ X.sz b = -1
      · exact fnd 1 (by rw [c0, if_pos hm]) (fun S1 hM1 => by rw [m0 S1 hM1, if_pos hm])
      · have hma : ¬ X.sz a = -1 := fun q => hm (Or.inl q)
        have hmb : ¬ X.sz b = -1 := fun q => hm (Or.inr q)
        obtain ⟨⟨na, hna1, hna2⟩, la, hla1, hla2⟩ := (hX.1 a ha8).resolve_left hma
        obtain ⟨⟨nb, hnb1, hnb2⟩, lb, hlb1, hlb2⟩ := (hX.1 b hb8).resolve_left hmb
        have sa2 : S 2 a = X.ln a := by rw [(hC.shelf a ha8).1, if_neg hma]
        have sb2 : S 2 b = X.ln b := by rw [(hC.shelf b hb8).1, if_neg hmb]
        have sa3 : S 3 a = nI na := by rw [(hC.shelf a ha8).2.1 hma, hna2]
        have sb3 : S 3 b = nI nb := by rw [(hC.shelf b hb8).2.1 hmb, hnb2]
        by_cases cl : X.ln a = X.ln b
        · have c4 : EX sc 39 83 4 [.ref 0, .int (nI a), .int y, .int (nI b), .int w, .int v] [] (mk S) = if (0 ≤ y.toInt ∧ 0 ≤ v.toInt ∧ y.toInt + v.toInt ≤ na) ∧ (0 ≤ w.toInt ∧ 0 ≤ v.toInt ∧ w.toInt + v.toInt ≤ nb) then EX sc 39 83 7 [.ref 0, .int (nI a), .int y, .int (nI b), .int w, .int v] [] (mk S) else some (some (.int (-1000010 - 2)), mk (up S 0 12 2)) := by
            rw [e83_4]
            simp only [O0, O1, oB_s, aI_at (S := S) A2 ha8 (by omega), aI_at (S := S) A2 hb8 (by omega), sa2, sb2]
            rw [if_pos cl, e83_5]
            simp only [O0, O1, oB_s, if_true, reaches_eq ha8 (show na < 1000 by omega) sa3, reaches_eq hb8 (show nb < 1000 by omega) sb3, cI_s, ii_0, e83_6, foundC]
            by_cases s1 : 0 ≤ y.toInt ∧ 0 ≤ v.toInt ∧ y.toInt + v.toInt ≤ na
            · rw [if_pos s1]
              by_cases s2 : 0 ≤ w.toInt ∧ 0 ≤ v.toInt ∧ w.toInt + v.toInt ≤ nb
              · rw [if_pos s2, if_pos ⟨s1, s2⟩]
              · rw [if_neg s2, if_neg (fun q => s2 q.2)]
            · rw [if_neg s1, if_neg (fun q => s1 q.1)]
          have m4 : ∀ S1, MP S1 X → EX sc 39 143 4 [.ref 359, .int (nI a), .int y, .int (nI b), .int w, .int v, Jk, Jk, Jk] [] (mk S1) = if (0 ≤ y.toInt ∧ 0 ≤ v.toInt ∧ y.toInt + v.toInt ≤ na) ∧ (0 ≤ w.toInt ∧ 0 ≤ v.toInt ∧ w.toInt + v.toInt ≤ nb) then EX sc 39 143 7 [.ref 359, .int (nI a), .int y, .int (nI b), .int w, .int v, Jk, Jk, Jk] [] (mk S1) else some (some (.int (-1000010 - 2)), mk (up S1 359 3 2)) := by
            intro S1 hM1
            have t1 : S1 362 a = nI na := by rw [(hM1.shelf a ha8).1, hna2]
            have t2 : S1 362 b = nI nb := by rw [(hM1.shelf b hb8).1, hnb2]
            rw [e143_4]
            simp only [O359, oB_s, aI_at (S := S1) A361 ha8 (by omega), aI_at (S := S1) A361 hb8 (by omega), (hM1.shelf a ha8).2.1 hma, (hM1.shelf b hb8).2.1 hmb]
            rw [if_pos cl, e143_5]
            simp only [O359, if_true, isSpan_eq ha8 (show na < 1000 by omega) t1, isSpan_eq hb8 (show nb < 1000 by omega) t2, cI_s, ii_0, e143_6, foundM]
            by_cases s1 : 0 ≤ y.toInt ∧ 0 ≤ v.toInt ∧ y.toInt + v.toInt ≤ na
            · rw [if_pos s1]
              by_cases s2 : 0 ≤ w.toInt ∧ 0 ≤ v.toInt ∧ w.toInt + v.toInt ≤ nb
              · rw [if_pos s2, if_pos ⟨s1, s2⟩]
              · rw [if_neg s2, if_neg (fun q => s2 q.2)]
            · rw [if_neg s1, if_neg (fun q => s1 q.1)]
          by_cases hs : (0 ≤ y.toInt ∧ 0 ≤ v.toInt ∧ y.toInt + v.toInt ≤ na) ∧ (0 ≤ w.toInt ∧ 0 ≤ v.toInt ∧ w.toInt + v.toInt ≤ nb)
          · obtain ⟨i, n, rfl, rfl, hin⟩ := Span.nat (N := na) hs.1 (by omega)
            obtain ⟨j, n', rfl, hnn, hjn⟩ := Span.nat (N := nb) hs.2 (by omega)
            have hnn' : n = n' := (nI_eq (by omega) (by omega)).mp hnn
            subst hnn'
            have hX' : XOk (X.wrow X.ln X.sz (va_up X.it b (va_cpy (X.it a) (X.it b) i j n))) := hX
            refine stp (X := X) (X' := (X.wrow X.ln X.sz (va_up X.it b (va_cpy (X.it a) (X.it b) i j n))).wst 0) (r := nI n) hX hX' hM ⟨_, ?_, CR_st (CR_row (S' := va_up S (5 + b) (va_cpy (S (5 + a)) (S (5 + b)) i j n)) hC (fun k hk => vup_ne (by omega)) ?_) 0, ?_⟩ (fun S1 hM1 => ⟨_, ?_, MP_st (MP_row (S' := cpR S1 360 360 (40 * b + j) (40 * a + i) n) hM1 hX (fun k hk => cpR_ne (by omega)) ?_) hX' 0, ?_⟩)
            · rw [c0, if_neg hm, c4, if_pos hs, e83_7]
              simp only [O0, O1, oB_s, aR4 _ ha8, aR4 _ hb8, cp_at (S := S) (A5_8 ha8) (A5_8 hb8) (show i + n ≤ 40 by omega) (show j + n ≤ 40 by omega) (by omega) (by omega), if_true, wellC, cI_s]
            · intro q hq
              show va_up S (5 + b) (va_cpy (S (5 + a)) (S (5 + b)) i j n) 2 q = (if X.sz q = -1 then -1 else X.ln q) ∧ (X.sz q ≠ -1 → va_up S (5 + b) (va_cpy (S (5 + a)) (S (5 + b)) i j n) 3 q = X.sz q) ∧ ∀ t, t < 40 → va_up S (5 + b) (va_cpy (S (5 + a)) (S (5 + b)) i j n) (5 + q) t = va_up X.it b (va_cpy (X.it a) (X.it b) i j n) q t
              rw [vup_ne (show 2 ≠ 5 + b by omega), vup_ne (show 3 ≠ 5 + b by omega)]
              refine ⟨(hC.shelf q hq).1, (hC.shelf q hq).2.1, fun t ht => ?_⟩
              by_cases e : q = b
              · subst e
                rw [vup_at, vup_at]
                by_cases e2 : j ≤ t ∧ t < j + n
                · rw [pk_cpy_in e2.1 e2.2, pk_cpy_in e2.1 e2.2]
                  exact (hC.shelf a ha8).2.2 _ (by omega)
                · rw [pk_cpy_out (by omega), pk_cpy_out (by omega)]
                  exact (hC.shelf q hq).2.2 t ht
              · rw [vup_ne e, vup_ne (by omega)]; exact (hC.shelf q hq).2.2 t ht
            · intro k hk
              rw [up_row_ne (by omega), vup_ne (by omega)]
            · rw [m0 S1 hM1, if_neg hm, m4 S1 hM1, if_pos hs, copyM_eq S1 ha8 hb8 (show i + n ≤ 40 by omega) (show j + n ≤ 40 by omega), e143_13]
              simp only [O359, if_true, wellM, cI_s]
            · intro q hq
              rw [cpR_ne (show 362 ≠ 360 by omega), cpR_ne (show 361 ≠ 360 by omega)]
              refine ⟨(hM1.shelf q hq).1, (hM1.shelf q hq).2.1, fun t ht => ?_⟩
              by_cases e : q = b
              · subst e
                rw [vup_at]
                by_cases e2 : j ≤ t ∧ t < j + n
                · rw [cpR_at (by omega) (by omega), pk_cpy_in e2.1 e2.2, ← (hM1.shelf a ha8).2.2 (i + (t - j)) (by omega)]
                  congr 1
                  omega
                · rw [cpR_out (by omega), pk_cpy_out (by omega)]
                  exact (hM1.shelf q hq).2.2 t ht
              · rw [vup_ne e, cpR_out (by omega)]; exact (hM1.shelf q hq).2.2 t ht
            · intro k hk
              rw [up_row_ne (by omega), cpR_ne (by omega)]
          · exact fnd 2 (by rw [c0, if_neg hm, c4, if_neg hs]) (fun S1 hM1 => by rw [m0 S1 hM1, if_neg hm, m4 S1 hM1, if_neg hs])
        · refine fnd 5 ?_ (fun S1 hM1 => ?_)
          · rw [c0, if_neg hm, e83_4]
            simp only [O0, O1, oB_s, aI_at (S := S) A2 ha8 (by omega), aI_at (S := S) A2 hb8 (by omega), sa2, sb2]
            rw [if_neg cl, if_pos trivial, foundC, cI_s]
          · rw [m0 S1 hM1, if_neg hm, e143_4]
            simp only [O359, oB_s, aI_at (S := S1) A361 ha8 (by omega), aI_at (S := S1) A361 hb8 (by omega), (hM1.shelf a ha8).2.1 hma, (hM1.shelf b hb8).2.1 hmb]
            rw [if_neg cl, if_pos trivial, foundM, cI_s]
    · refine ⟨-1000001, S, S, ?_, ?_, X, hX, hC, hM⟩
      · rw [e83_0, isRowC, cI_s, ii_0, if_pos c1, isRowC, cI_s, ii_0, if_neg c2, e83_1]
      · rw [e143_0, isRowM, cI_s, ii_0, if_pos c1, isRowM, cI_s, ii_0, if_neg c2, e143_1]
  · refine ⟨-1000001, S, S, ?_, ?_, X, hX, hC, hM⟩
    · rw [e83_0, isRowC, cI_s, ii_0, if_neg c1, e83_1]
    · rw [e143_0, isRowM, cI_s, ii_0, if_neg c1, e143_1]
