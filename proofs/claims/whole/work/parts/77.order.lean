/-! order: the reference, and the call -/
theorem code_eq {S : Nat → Nat → Int32} {a : Hs} (h : MSt S a) (h6 : a 0 3 ≤ 6) (hL : 0 < a 0 3) {c : Nat} (hc : c < 100000) (sc : Nat × (Nat → Int32)) (d : Nat) : ∃ S', EX sc (d + 2) 191 0 [.ref 359, .int (nI c), Jk, Jk, Jk] [] (mk S) = some (some (.int (if hadN (a 0 3) c (a 0 3) = 2 ^ (a 0 3) - 1 then 1 else 0)), mk S') ∧ (∀ k, k < a 0 3 → S' 375 k = nI (dig (a 0 3) c k)) ∧ ∀ k, k ≠ 375 → S' k = S k := by
  have loop : ∀ m n S, n + m = a 0 3 → MSt S a → (∀ k, m ≤ k → k < a 0 3 → S 375 k = nI (dig (a 0 3) c k)) → ∃ S', EX sc (d + 2) 191 1 [.ref 359, Jk, .int (nI (c / a 0 3 ^ n)), .int (nI (hadN (a 0 3) c n)), .int (nI m - 1)] [] (mk S) = EX sc (d + 2) 191 2 [.ref 359, Jk, Jk, .int (nI (hadN (a 0 3) c (a 0 3))), Jk] [] (mk S') ∧ (∀ k, k < a 0 3 → S' 375 k = nI (dig (a 0 3) c k)) ∧ ∀ k, k ≠ 375 → S' k = S k := by
    intro m
    induction m with
    | zero =>
      intro n S hn h hk
      refine ⟨S, ?_, fun k h1 => hk k (by omega) h1, fun _ _ => rfl⟩
      rw [e191_1, if_pos (by decide), show n = a 0 3 by omega]
    | succ m ih =>
      intro n S hn h hk
      have hq : c / a 0 3 ^ n < 100000 := Nat.lt_of_le_of_lt (Nat.div_le_self _ _) hc
      have dg : dig (a 0 3) c m = c / a 0 3 ^ n % a 0 3 := by
        unfold dig
        rw [show a 0 3 - 1 - m = n by omega]
      have dl : dig (a 0 3) c m < a 0 3 := dig_lt hL
      have q1 : nI (c / a 0 3 ^ n) - nI (c / a 0 3 ^ n) / nI (a 0 3) * nI (a 0 3) = nI (dig (a 0 3) c m) := by
        rw [pk_rem (by omega) hL (by omega), dg]
      have q2 : nI (c / a 0 3 ^ n) / nI (a 0 3) = nI (c / a 0 3 ^ (n + 1)) := by
        rw [pk_div (by omega) hL (by omega), Nat.div_div_eq_div_mul, Nat.pow_succ]
      have hst : MSt (up S 375 m (nI (dig (a 0 3) c m))) a := h.fm (fun k hk => up_row_ne (by omega))
      have q3 : nI (hadN (a 0 3) c n) ||| (1 <<< (nI (dig (a 0 3) c m) &&& 31)) = nI (hadN (a 0 3) c (n + 1)) := by
        rw [set_I _ (had_lt hL h6 n) _ (by omega)]
        show nI (hadN (a 0 3) c n ||| 2 ^ dig (a 0 3) c m) = nI (hadN (a 0 3) c n ||| 2 ^ dig (a 0 3) c (a 0 3 - 1 - n))
        rw [show a 0 3 - 1 - n = m by omega]
      obtain ⟨S1, k1, k2, k3⟩ := ih (n + 1) (up S 375 m (nI (dig (a 0 3) c m))) (by omega) hst (fun k h1 h2 => by
        by_cases e : k = m
        · rw [e, up_same]
        · rw [up_ne (by omega)]; exact hk k (by omega) h2)
      refine ⟨S1, ?_, k2, fun k hk => by rw [k3 k hk, up_row_ne hk]⟩
      rw [nI_pred, e191_1, if_neg (nI_pos (by omega))]
      simp only [O359, oB_s, h.2.1]
      rw [if_neg (nI_ne0 hL (by omega)), q1, A375_st (by omega)]
      simp only [O359, oB_s, A375_at (S := up S 375 m (nI (dig (a 0 3) c m))) (show m < 6 by omega), up_same, hst.2.1]
      rw [if_neg (nI_ne0 hL (by omega)), q2, q3, addm1]
      exact k1
  obtain ⟨S1, k1, k2, k3⟩ := loop (a 0 3) 0 S (by omega) h (fun k h1 h2 => by omega)
  refine ⟨S1, ?_, k2, k3⟩
  rw [Nat.pow_zero, Nat.div_one] at k1
  rw [e191_0]
  simp only [O359, oB_s, h.2.1]
  have k1' : EX sc (d + 2) 191 1 [.ref 359, Jk, .int (nI c), .int 0, .int (nI (a 0 3) - 1)] [] (mk S) = EX sc (d + 2) 191 2 [.ref 359, Jk, Jk, .int (nI (hadN (a 0 3) c (a 0 3))), Jk] [] (mk S1) := k1
  rw [k1', e191_2]
  have hst : MSt S1 a := h.fm (fun k hk => k3 k (by omega))
  simp only [O359, if_true, everyone_eq hst h6, cI_s]
  have hl := had_lt (c := c) hL h6 (a 0 3)
  have h2l := two63 h6
  by_cases q : hadN (a 0 3) c (a 0 3) = 2 ^ (a 0 3) - 1
  · rw [if_pos (by rw [q]), if_pos (show (1 : Int32) = 0 ∨ True from Or.inr trivial), if_pos q]
  · rw [if_neg (fun z => q ((nI_eq (by omega) (by omega)).mp z)), e191_3, bt0, if_neg q]
def smO : Nat → Hs → Nat
  | 0, _ => 0
  | k + 1, b => outC b + smO k (tickS b)
theorem smO_eq : ∀ k b, smO (k + 1) b = osum k b
  | 0, _ => rfl
  | k + 1, b => by
    show outC b + smO (k + 1) (tickS b) = outC b + osum k (tickS b)
    rw [smO_eq k]
theorem out_sub : ∀ x, x < 64 → ∀ L, L < 7 → x < 2 ^ L → bitN 6 ((2 ^ L - 1) &&& (63 ^^^ x)) = L - bitN 6 x ∧ bitN 6 x ≤ L := by decide +kernel
theorem sumM {n : Nat} (hn : n ≤ 40) (x2 x3 x4 x5 : Int32) (sc : Nat × (Nat → Int32)) (d : Nat) : ∀ (k t : Nat) (b : Hs) (S : Nat → Nat → Int32) (acc : Nat), t + k = n + 1 → MR S b → OkT k b → ∃ S', EX sc (d + 6) 192 7 [.ref 359, .int (nI n), .int x2, .int x3, .int x4, .int x5, .int (nI acc), .int (nI t)] [] (mk S) = EX sc (d + 6) 192 8 [.ref 359, .int (nI n), .int x2, .int x3, .int x4, .int x5, .int (nI (acc + smO k b)), Jk] [] (mk S') ∧ FT S S' := by
  intro k
  induction k with
  | zero =>
    intro t b S acc ht h hw
    refine ⟨S, ?_, FT.rf _⟩
    rw [e192_7, if_pos ((nI_ltI (by omega) (by omega)).mpr (by omega))]
    rfl
  | succ k ih =>
    intro t b S acc ht h hw
    obtain ⟨B, hB⟩ := hw.wf
    have h6 := hw.l6
    have l1 : ly b 21 < 64 := ly_lt h6 21
    have l2 : ly b 21 < 2 ^ (b 0 3) := lyN_lt _ _ _
    obtain ⟨o1, o2⟩ := out_sub _ l1 (b 0 3) (by omega) l2
    have q : nI (b 0 3) - nI (bitN 6 (ly b 21)) = nI (outC b) := by
      rw [pk_sub o2]
      unfold outC outB
      rw [o1]
    obtain ⟨S1, k1, k2, k3⟩ := goTickT h hw sc d
    obtain ⟨S2, m1, m2⟩ := ih (t + 1) (tickS b) S1 (acc + outC b) (by omega) k2 hw.tick
    refine ⟨S2, ?_, k3.tr m2⟩
    rw [e192_7, if_neg (nI_nlt (by omega) (by omega))]
    simp only [O359, oB_s, h.1.2.1, if_true, boxed_spec h.ms hB, cI_s, ones_eq S (n := 6) (by omega) l1, k1, cV_s, q, nI_add, nI_1]
    rw [show acc + smO (k + 1) b = acc + outC b + smO k (tickS b) from (Nat.add_assoc _ _ _).symm]
    exact m1
theorem MR_8 {S : Nat → Nat → Int32} {a : Hs} {t : Nat → Nat} (h : MS S a) (hk : ∀ k, k < a 0 3 → S 375 k = nI (t k)) : MR S (w8 a t) := ⟨h.1, h.2, fun k hk' => by rw [w8_8]; exact hk k hk'⟩
theorem copyM {S : Nat → Nat → Int32} {L : Nat} (h6 : L ≤ 6) (x1 x2 x3 x4 x5 : Int32) (sc : Nat × (Nat → Int32)) (d : Nat) : ∀ (m j : Nat) (S : Nat → Nat → Int32), j + m = L → S 359 5 = nI L → (∀ k, k < j → S 376 k = S 375 k) → ∃ S', EX sc (d + 1) 192 10 [.ref 359, .int x1, .int x2, .int x3, .int x4, .int x5, Jk, .int (nI j)] [] (mk S) = EX sc (d + 1) 192 11 [.ref 359, .int x1, .int x2, .int x3, .int x4, .int x5, Jk, Jk] [] (mk S') ∧ (∀ k, k < L → S' 376 k = S 375 k) ∧ ∀ k, k ≠ 376 → S' k = S k := by
  intro m
  induction m with
  | zero =>
    intro j S hj h5 hk
    refine ⟨S, ?_, fun k hk' => hk k (by omega), fun _ _ => rfl⟩
    rw [e192_10]
    simp only [O359, oB_s, h5]
    rw [if_pos (nI_le (by omega) (by omega))]
  | succ m ih =>
    intro j S hj h5 hk
    obtain ⟨S1, k1, k2, k3⟩ := ih (j + 1) (up S 376 j (S 375 j)) (by omega) (by rw [up_row_ne (by omega)]; exact h5) (fun k hk' => by
      rw [up_row_ne (k' := 375) (by omega)]
      by_cases e : k = j
      · rw [e, up_same]
      · rw [up_ne (by omega)]; exact hk k (by omega))
    refine ⟨S1, ?_, fun k hk' => by rw [k2 k hk', up_row_ne (by omega)], fun k hk' => by rw [k3 k hk', up_row_ne hk']⟩
    rw [e192_10]
    simp only [O359, oB_s, h5]
    rw [if_neg (nI_ge (by omega) (by omega))]
    simp only [A375_at (S := S) (show j < 6 by omega), oB_s, sI_at A376 (show j < 6 by omega) (by omega), nI_1]
    exact k1
def bvO (a : Hs) (n m : Nat) : Int32 := match bestO a n m with | none => -1000000 | some (v, _) => nI v
def BM (S : Nat → Nat → Int32) (a : Hs) (n m : Nat) : Prop := ∀ v c, bestO a n m = some (v, c) → ∀ k, k < a 0 3 → S 376 k = nI (dig (a 0 3) c k)
theorem LL_le : ∀ L, L < 7 → L ^ L < 100000 := by decide
theorem mainM {X : Xs} (hX : XOk X) (hL : 0 < X.nw 0 3) {n : Nat} (hn : n ≤ 40) (x2 : Int32) (sc : Nat × (Nat → Int32)) (d : Nat) : ∀ (k c : Nat) (S : Nat → Nat → Int32), c + k = X.nw 0 3 ^ X.nw 0 3 → MP S X → BM S X.nw n c → ∃ S', EX sc (d + 6) 192 6 [.ref 359, .int (nI n), .int x2, .int (nI (X.nw 0 3 ^ X.nw 0 3)), .int (bvO X.nw n c), .int (nI c), Jk, Jk] [] (mk S) = EX sc (d + 6) 192 12 [.ref 359, Jk, .int x2, Jk, .int (bvO X.nw n (X.nw 0 3 ^ X.nw 0 3)), Jk, Jk, Jk] [] (mk S') ∧ BM S' X.nw n (X.nw 0 3 ^ X.nw 0 3) ∧ FN S S' := by
  have h6 := hX.l6
  have hLL := LL_le (X.nw 0 3) (by omega)
  intro k
  induction k with
  | zero =>
    intro c S hc hM hB
    have e : c = X.nw 0 3 ^ X.nw 0 3 := by omega
    refine ⟨S, ?_, by rw [← e]; exact hB, FN.rf _⟩
    rw [e192_6, if_pos (nI_le (by omega) (by omega)), e]
  | succ k ih =>
    intro c S hc hM hB
    obtain ⟨S1, k1, k2, k3⟩ := code_eq hM.stat h6 hL (c := c) (by omega) sc (d + 3)
    have f1 : FN S S1 := ⟨fun q _ hq => k3 q (by omega), fun j _ _ _ => by rw [k3 359 (by omega)]⟩
    have hM1 := hM.fn hX f1
    rw [e192_6, if_neg (nI_ge (by omega) (by omega))]
    simp only [O359, if_true, k1, cI_s, ii_0]
    by_cases hP : hadN (X.nw 0 3) c (X.nw 0 3) = 2 ^ (X.nw 0 3) - 1
    · rw [if_pos hP]
      obtain ⟨S2, a1, a2, a3⟩ := aside_spec hM1.stat hM1.now h6 sc (d + 4)
      have mr : MR S2 (rkd X.nw c) := MR_8 a2 (fun q hq => by rw [a3 375 (by omega)]; exact k2 q hq)
      have hok : OkT (n + 1) (rkd X.nw c) := OkT_w8 (hX.okT (n := n + 1) (by omega)) (fun i _ => dig_lt hL) (fun i j hi hj he => by
        by_cases e1 : i < j
        · exact absurd hP (Pm_dup hL h6 e1 hj he)
        · by_cases e2 : j < i
          · exact absurd hP (Pm_dup hL h6 e2 hi he.symm)
          · omega)
      obtain ⟨S3, b1, b2⟩ := sumM hn x2 (nI (X.nw 0 3 ^ X.nw 0 3)) (bvO X.nw n c) (nI c) sc d (n + 1) 0 (rkd X.nw c) S2 0 (by omega) mr hok
      rw [smO_eq, Nat.zero_add] at b1
      have hle := osum_le n (rkd X.nw c)
      have f3 : FN S S3 := (f1.tr a3.fm.fn).tr b2.fm.fn
      have h375 : ∀ q, q < X.nw 0 3 → S3 375 q = nI (dig (X.nw 0 3) c q) := fun q hq => by rw [b2 375 (by omega) (by omega), a3 375 (by omega)]; exact k2 q hq
      have h376 : S3 376 = S 376 := by rw [b2 376 (by omega) (by omega), a3 376 (by omega), k3 376 (by omega)]
      have upd : bestO X.nw n (c + 1) = some (osum n (rkd X.nw c), c) → ∃ S', EX sc (d + 6) 192 9 [.ref 359, .int (nI n), .int x2, .int (nI (X.nw 0 3 ^ X.nw 0 3)), Jk, .int (nI c), .int (nI (osum n (rkd X.nw c))), Jk] [] (mk S3) = EX sc (d + 6) 192 12 [.ref 359, Jk, .int x2, Jk, .int (bvO X.nw n (X.nw 0 3 ^ X.nw 0 3)), Jk, Jk, Jk] [] (mk S') ∧ BM S' X.nw n (X.nw 0 3 ^ X.nw 0 3) ∧ FN S S' := by
        intro hb
        obtain ⟨S4, c1, c2, c3⟩ := copyM (S := S3) h6 (nI n) x2 (nI (X.nw 0 3 ^ X.nw 0 3)) (nI (osum n (rkd X.nw c))) (nI c) sc (d + 5) (X.nw 0 3) 0 S3 (by omega) (hM.fn hX f3).stat.2.1 (fun q hq => by omega)
        have f4 : FN S S4 := f3.tr ⟨fun q _ hq => c3 q (by omega), fun j _ _ _ => by rw [c3 359 (by omega)]⟩
        obtain ⟨S5, d1, d2, d3⟩ := ih (c + 1) S4 (by omega) (hM.fn hX f4) (fun v c' hb' q hq => by
          rw [hb] at hb'
          obtain ⟨z1, z2⟩ := Prod.mk.inj (Option.some.inj hb')
          subst z2
          rw [c2 q hq]; exact h375 q hq)
        refine ⟨S5, ?_, d2, f4.tr d3⟩
        have bv : bvO X.nw n (c + 1) = nI (osum n (rkd X.nw c)) := by unfold bvO; rw [hb]
        rw [e192_9, show (0 : Int32) = nI 0 from rfl, c1, e192_11, nI_1, ← bv]
        exact d1
      have st : bestO X.nw n (c + 1) = (match bestO X.nw n c with | none => some (osum n (rkd X.nw c), c) | some (v, c') => if osum n (rkd X.nw c) < v then some (osum n (rkd X.nw c), c) else some (v, c')) := by
        rw [best_step]; exact if_pos hP
      simp only [O359, if_true, a1, cV_s]
      rw [show (0 : Int32) = nI 0 from rfl, b1, e192_8]
      cases hb : bestO X.nw n c with
      | none =>
        have bv : bvO X.nw n c = -1000000 := by unfold bvO; rw [hb]
        rw [hb] at st
        rw [bv, if_pos rfl]
        exact upd st
      | some w =>
        obtain ⟨v, c'⟩ := w
        have bv : bvO X.nw n c = nI v := by unfold bvO; rw [hb]
        have vle := best_v c v c' hb
        rw [hb] at st
        change bestO X.nw n (c + 1) = (if osum n (rkd X.nw c) < v then some (osum n (rkd X.nw c), c) else some (v, c')) at st
        have nn : ¬ nI v = -1000000 := fun z => by
          have := congrArg Int32.toInt z
          rw [nI_toInt (by omega), show Int32.toInt (-1000000) = -1000000 from rfl] at this
          omega
        rw [bv, if_neg nn]
        by_cases q : osum n (rkd X.nw c) < v
        · rw [if_neg (nI_ge q (by omega))]
          exact upd (by rw [st, if_pos q])
        · rw [if_pos (nI_le (by omega) (by omega)), e192_11, nI_1]
          rw [if_neg q] at st
          have bv2 : bvO X.nw n (c + 1) = nI v := by unfold bvO; rw [st]
          obtain ⟨S5, d1, d2, d3⟩ := ih (c + 1) S3 (by omega) (hM.fn hX f3) (fun v2 c2 hb2 q2 hq2 => by
            rw [h376]
            exact hB v2 c2 (by rw [hb, ← st]; exact hb2) q2 hq2)
          rw [← bv2]
          exact ⟨S5, d1, d2, f3.tr d3⟩
    · rw [if_neg hP, e192_11, nI_1]
      have st : bestO X.nw n (c + 1) = bestO X.nw n c := by rw [best_step]; exact if_neg hP
      have bv : bvO X.nw n (c + 1) = bvO X.nw n c := by unfold bvO; rw [st]
      obtain ⟨S5, d1, d2, d3⟩ := ih (c + 1) S1 (by omega) hM1 (fun v2 c2 hb2 q2 hq2 => by
        rw [k3 376 (by omega)]
        exact hB v2 c2 (by rw [← st]; exact hb2) q2 hq2)
      rw [← bv]
      exact ⟨S5, d1, d2, f1.tr d3⟩
theorem powM {S : Nat → Nat → Int32} {L : Nat} (h6 : L ≤ 6) (h5 : S 359 5 = nI L) (x1 x2 : Int32) (sc : Nat × (Nat → Int32)) (d : Nat) : ∀ m k, k + m = L → EX sc (d + 1) 192 4 [.ref 359, .int x1, .int x2, .int (nI (L ^ k)), .int (nI k), Jk, Jk, Jk] [] (mk S) = EX sc (d + 1) 192 5 [.ref 359, .int x1, .int x2, .int (nI (L ^ L)), Jk, Jk, Jk, Jk] [] (mk S) := by
  intro m
  induction m with
  | zero =>
    intro k hk
    rw [e192_4]
    simp only [O359, oB_s, h5]
    rw [if_pos (nI_le (by omega) (by omega)), show k = L by omega]
  | succ m ih =>
    intro k hk
    rw [e192_4]
    simp only [O359, oB_s, h5]
    rw [if_neg (nI_ge (by omega) (by omega)), pk_mul, ← Nat.pow_succ, nI_1]
    exact ih (k + 1) (by omega)
theorem op_order (sc : Nat × (Nat → Int32)) (y z : Int32) : St2 sc 101 [.ref 0, .int y, .int z] 192 [.ref 359, .int y, .int z, Jk, Jk, Jk, Jk, Jk] := by
  rintro S ⟨X, hX, hC, hM⟩
  have h6 := hX.l6
  have hiny := fun S => inL sc y 1 40 1 40 S 37 rfl rfl
  by_cases c0 : X.nw 0 3 = 0
  · refine ⟨-1000002, S, S, ?_, ?_, X, hX, hC, hM⟩
    · rw [e101_0]
      simp only [O0, if_true, hasNoC hC hX, cI_s, ii_0]
      rw [if_pos c0]
    · rw [e192_0]
      simp only [O359, oB_s]
      rw [if_pos ((hasM hM).mpr c0)]
  · by_cases c1 : 1 ≤ y ∧ y ≤ 40
    · by_cases c2 : -1 ≤ z
      · obtain ⟨n, hn1, hn2, rfl⟩ := toN2 (l := 1) (N := 40) (by omega) (by omega) c1
        have hL : 0 < X.nw 0 3 := by omega
        have main : ∀ T, MP T X → ∃ T', EX sc 39 192 0 [.ref 359, .int (nI n), .int z, Jk, Jk, Jk, Jk, Jk] [] (mk T) = EX sc 39 192 12 [.ref 359, Jk, .int z, Jk, .int (bvO X.nw n (X.nw 0 3 ^ X.nw 0 3)), Jk, Jk, Jk] [] (mk T') ∧ BM T' X.nw n (X.nw 0 3 ^ X.nw 0 3) ∧ FN T T' := by
          intro T hT
          obtain ⟨T1, k1, k2, k3⟩ := mainM hX hL hn2 z sc 33 (X.nw 0 3 ^ X.nw 0 3) 0 T (by omega) hT (fun v c q => by cases q)
          refine ⟨T1, ?_, k2, k3⟩
          rw [e192_0]
          simp only [O359, oB_s]
          rw [if_neg (fun q => c0 ((hasM hT).mp q)), e192_1]
          simp only [hiny, cI_s, ii_0]
          rw [if_pos c1, if_pos c2, e192_3]
          have := powM h6 hT.stat.2.1 (nI n) z sc 38 (X.nw 0 3) 0 (by omega)
          rw [Nat.pow_zero] at this
          rw [show (1 : Int32) = nI 1 from rfl, show (0 : Int32) = nI 0 from rfl, this, e192_5]
          exact k1
        have L1 : nI (X.nw 0 3) = nI (X.nw 0 3) := rfl
        have hcl : EX sc 39 101 0 [.ref 0, .int (nI n), .int z] [] (mk S) = if z < nI (X.nw 0 3) then EX sc 39 101 4 [.ref 0, .int (nI n), .int z] [] (mk S) else some (some (.int (-1000000)), mk S) := by
          rw [e101_0]
          simp only [O0, if_true, hasNoC hC hX, cI_s, ii_0]
          rw [if_neg c0, e101_1]
          simp only [within_eq, cI_s, ii_0]
          rw [if_pos c1, if_pos c2, e101_3]
          simp only [O0, oB_s, Hg isH_23, hC.now.2.1 3 (by omega)]
        by_cases c3 : z < nI (X.nw 0 3)
        · rw [if_pos c3] at hcl
          obtain ⟨S1, v, c, f1, f2, f3, f4, f5, f6⟩ := find_spec hC hX c0 hn1 hn2 sc
          have bv : bvO X.nw n (X.nw 0 3 ^ X.nw 0 3) = nI v := by unfold bvO; rw [f2]
          have cl4 : EX sc 39 101 4 [.ref 0, .int (nI n), .int z] [] (mk S) = if z = -1 then some (some (.int (nI v)), mk S1) else EX sc 39 101 5 [.ref 0, Jk, .int z] [] (mk S1) := by
            rw [e101_4]
            simp only [O0, O45, oB_s, if_true, f1, cV_s, f3]
          by_cases c4 : z = -1
          · subst c4
            refine stp (r := nI v) hX hX hM ⟨S1, ?_, f5, f6⟩ (fun T hT => ?_)
            · rw [hcl, cl4, if_pos rfl]
            · obtain ⟨T1, m1, m2, m3⟩ := main T hT
              refine ⟨T1, ?_, hT.fn hX m3, m3.m⟩
              rw [m1, e192_12, if_neg (by decide), bv]
          · have hz : 0 ≤ z := by
              rw [Int32.le_iff_toInt_le] at c2 ⊢
              have e1 : Int32.toInt (-1) = -1 := rfl
              have e0 : Int32.toInt 0 = 0 := rfl
              have : z.toInt ≠ -1 := fun q => c4 (Int32.toInt_inj.mp (q.trans e1.symm))
              omega
            obtain ⟨j, hj, rfl⟩ : ∃ j, j < X.nw 0 3 ∧ z = nI j := by
              refine (toL (by omega)).mp ⟨hz, ?_⟩
              rw [Int32.le_iff_toInt_le, show nI (X.nw 0 3) - 1 = nI (X.nw 0 3) - nI 1 from rfl, pk_sub_toInt (by omega) (by omega)]
              rw [Int32.lt_iff_toInt_lt, nI_toInt (by omega)] at c3
              omega
            refine stp (r := nI (dig (X.nw 0 3) c j)) hX hX hM ⟨S1, ?_, f5, f6⟩ (fun T hT => ?_)
            · rw [hcl, cl4, if_neg c4, e101_5]
              simp only [O0, O45, oB_s, aI_at (S := S1) A69 (show j < 6 by omega) (by omega), f4 j hj]
            · obtain ⟨T1, m1, m2, m3⟩ := main T hT
              refine ⟨T1, ?_, hT.fn hX m3, m3.m⟩
              rw [m1, e192_12, if_pos hz, e192_13]
              simp only [O359, oB_s, (hT.fn hX m3).stat.2.1]
              rw [if_neg (nI_ge hj (by omega))]
              simp only [aI_at (S := T1) A376 (show j < 6 by omega) (by omega), oB_s, m2 v c f2 j hj]
        · rw [if_neg c3] at hcl
          refine stq (r := -1000000) hX hC hM ⟨S, hcl, FS.rf _⟩ (fun T hT => ?_)
          obtain ⟨T1, m1, m2, m3⟩ := main T hT
          refine ⟨T1, ?_, m3⟩
          have hz : nI (X.nw 0 3) ≤ z := by
            rw [Int32.lt_iff_toInt_lt] at c3
            rw [Int32.le_iff_toInt_le]
            omega
          have hz0 : 0 ≤ z := by
            rw [Int32.le_iff_toInt_le] at hz ⊢
            rw [nI_toInt (by omega)] at hz
            have e0 : Int32.toInt 0 = 0 := rfl
            omega
          rw [m1, e192_12, if_pos hz0, e192_13]
          simp only [O359, oB_s, (hT.fn hX m3).stat.2.1]
          rw [if_pos hz, e192_14]
      · refine ⟨-1000001, S, S, ?_, ?_, X, hX, hC, hM⟩
        · rw [e101_0]
          simp only [O0, if_true, hasNoC hC hX, cI_s, ii_0]
          rw [if_neg c0, e101_1]
          simp only [within_eq, cI_s, ii_0]
          rw [if_pos c1, if_neg c2, e101_2]
        · rw [e192_0]
          simp only [O359, oB_s]
          rw [if_neg (fun q => c0 ((hasM hM).mp q)), e192_1]
          simp only [hiny, cI_s, ii_0]
          rw [if_pos c1, if_neg c2, e192_2]
    · refine ⟨-1000001, S, S, ?_, ?_, X, hX, hC, hM⟩
      · rw [e101_0]
        simp only [O0, if_true, hasNoC hC hX, cI_s, ii_0]
        rw [if_neg c0, e101_1]
        simp only [within_eq, cI_s, ii_0]
        rw [if_neg c1, e101_2]
      · rw [e192_0]
        simp only [O359, oB_s]
        rw [if_neg (fun q => c0 ((hasM hM).mp q)), e192_1]
        simp only [hiny, cI_s, ii_0]
        rw [if_neg c1, e192_2]
