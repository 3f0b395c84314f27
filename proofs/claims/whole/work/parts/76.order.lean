/-! order: the class's search -/
theorem Ind_of {a : Hs} {B x y : Nat} (hw : WFg B a) (hx : x < a 0 3) (hy : y < a 0 3) (h : ¬ (a 5 y = 20 ∧ a 5 x = 20 ∧ a 2 y = a 2 x)) : Ind a x y := by
  obtain ⟨_, x2, _, _, x5, _⟩ := hw.2.2.2.2.2 x hx
  obtain ⟨_, y2, _, _, y5, _⟩ := hw.2.2.2.2.2 y hy
  have := hw.2.1
  refine ⟨?_, by omega, by omega⟩
  unfold NW
  omega
theorem pw_succ (p L m : Nat) : (p * L + L) * L ^ m = (p + 1) * L ^ (m + 1) := by
  rw [Nat.pow_succ, Nat.mul_comm (L ^ m) L, ← Nat.mul_assoc, Nat.add_mul p 1 L, Nat.one_mul]
theorem rng {L m c q : Nat} (hL : 0 < L) (h1 : q * L ^ m ≤ c) (h2 : c < q * L ^ m + L ^ m) : c / L ^ m = q := by
  have hp : 0 < L ^ m := Nat.pow_pos hL
  apply Nat.le_antisymm
  · have : c < (q + 1) * L ^ m := by rw [Nat.add_mul, Nat.one_mul]; exact h2
    exact Nat.le_of_lt_succ ((Nat.div_lt_iff_lt_mul hp).mpr this)
  · exact (Nat.le_div_iff_mul_le hp).mpr h1
theorem skip_i {a : Hs} {n p m i : Nat} {t : Nat → Nat} {B : Nat} (hw : WFg B a) (hL : 0 < a 0 3) (hpm : p + (m + 1) = a 0 3) (hi : i < a 0 3) (ht : ∀ j, j < p → t j < a 0 3) (h : (∃ j, j < p ∧ t j = i) ∨ prB a t i p = true) : bestO a n ((cdN (a 0 3) t p * a 0 3 + (i + 1)) * a 0 3 ^ m) = bestO a n ((cdN (a 0 3) t p * a 0 3 + i) * a 0 3 ^ m) := by
  rw [show cdN (a 0 3) t p * a 0 3 + (i + 1) = (cdN (a 0 3) t p * a 0 3 + i) + 1 from rfl, Nat.add_mul _ 1, Nat.one_mul]
  refine best_skip _ (fun c h1 h2 => ?_)
  have hq := rng hL h1 h2
  obtain ⟨t', ht'⟩ : ∃ t' : Nat → Nat, t' = fun j => if j = p then i else t j := ⟨_, rfl⟩
  have tp : t' p = i := by rw [ht']; exact if_pos rfl
  have tj : ∀ j, j < p → t' j = t j := fun j hj => by rw [ht']; exact if_neg (by omega)
  have tL : ∀ j, j < p + 1 → t' j < a 0 3 := fun j hj => by
    by_cases e : j = p
    · rw [e, tp]; exact hi
    · rw [tj j (by omega)]; exact ht j (by omega)
  have cd : cdN (a 0 3) t' (p + 1) = cdN (a 0 3) t p * a 0 3 + i := by
    show cdN (a 0 3) t' p * a 0 3 + t' p = _
    rw [tp, cd_congr p tj]
  have dg : ∀ j, j < p + 1 → dig (a 0 3) c j = t' j := fun j hj => pre_dig (p := p + 1) (by omega) tL (by rw [show a 0 3 - (p + 1) = m by omega, hq, cd]) hj
  have hc : c < a 0 3 ^ a 0 3 := by
    have u := cd_up hL (p + 1) tL
    rw [cd] at u
    have : (cdN (a 0 3) t p * a 0 3 + i + 1) * a 0 3 ^ m ≤ a 0 3 ^ (p + 1) * a 0 3 ^ m := Nat.mul_le_mul_right _ u
    rw [← Nat.pow_add, show p + 1 + m = a 0 3 by omega, Nat.add_mul _ 1, Nat.one_mul] at this
    omega
  rcases h with ⟨j, j1, j2⟩ | h
  · exact Or.inl (Pm_dup hL hw.1 (i := j) (j := p) j1 (by omega) (by rw [dg j (by omega), dg p (by omega), tj j j1, tp, j2]))
  · obtain ⟨k, k1, k2, k3⟩ := prB_ex p h
    refine prune hL hc (i := p) (k := k) (by omega) k1 (by rw [dg p (by omega), dg k (by omega), tp, tj k k1]; exact k2) (fun j j1 j2 => ?_)
    rw [dg p (by omega), dg j (by omega), tp, tj j j2]
    exact Ind_of hw (ht j j2) hi (k3 j j1 j2)
theorem setB_bit (U i b : Nat) : (setB U i).testBit b = true ↔ U.testBit b = true ∨ b = i := by
  unfold setB
  rw [Nat.testBit_or, Bool.or_eq_true, Nat.testBit_two_pow, decide_eq_true_iff]
  exact ⟨fun q => q.imp id Eq.symm, fun q => q.imp id Eq.symm⟩
theorem ext_spec {a : Hs} {n : Nat} (hw : OkT n a) (hn : n ≤ 40) (hL : 0 < a 0 3) (sc : Nat × (Nat → Int32)) (d : Nat) : ∀ (m p : Nat), p + m = a 0 3 → ∀ (S : Nat → Nat → Int32) (t : Nat → Nat) (U : Nat), HR S 23 a → (∀ j, j < p → S 68 j = nI (t j) ∧ t j < a 0 3) → (∀ i j, i < p → j < p → t i = t j → i = j) → U < 64 → (∀ b, U.testBit b = true ↔ ∃ j, j < p ∧ t j = b) → bitN 6 U = p → CS S a n (cdN (a 0 3) t p * a 0 3 ^ m) → ∃ S', EX sc (d + m + 5) 37 0 [.ref 45, .ref 23, .int (nI n), .int (nI p), .int (nI U), Jk] [] (mk S) = some (none, mk S') ∧ CS S' a n ((cdN (a 0 3) t p + 1) * a 0 3 ^ m) ∧ FO S S' ∧ ∀ j, j < p → S' 68 j = S 68 j := by
  have h6 := hw.l6
  obtain ⟨B, hB⟩ := hw.wf
  intro m
  induction m with
  | zero =>
    intro p hp S t U h ht hinj hU hUb hUn hC
    have hp' : p = a 0 3 := by omega
    subst hp'
    rw [Nat.pow_zero, Nat.mul_one] at hC
    have hP : Pm (a 0 3) (cdN (a 0 3) t (a 0 3)) := by
      rw [Pm_iff hL]
      intro b hb
      have hUl : U < 2 ^ (a 0 3) := by
        apply Nat.lt_pow_two_of_testBit
        intro i hi
        cases e : U.testBit i with
        | false => rfl
        | true =>
          obtain ⟨j, j1, j2⟩ := (hUb i).mp e
          have := (ht j j1).2
          omega
      have hUe := bitN_all U hU (a 0 3) (by omega) hUl hUn
      have : U.testBit b = true := by rw [hUe, Nat.testBit_two_pow_sub_one]; exact decide_eq_true hb
      obtain ⟨j, j1, j2⟩ := (hUb b).mp this
      exact ⟨j, j1, by rw [dig_cd (fun j hj => (ht j hj).2) j1]; exact j2⟩
    obtain ⟨S1, k1, k2, k3, k4⟩ := leaf_spec h hw hn hL ht hinj hP hC sc d
    refine ⟨S1, ?_, by rw [Nat.pow_zero, Nat.mul_one]; exact k2, k3, fun j _ => by rw [k4]⟩
    rw [show d + 0 + 5 = (d + 4) + 1 from rfl, e37_0]
    simp only [Hg isH_23, oB_s, h.2.1 3 (by omega)]
    rw [if_neg (nI_nlt (by omega) (by omega))]
    simp only [O45, if_true, k1, cV_s]
  | succ m ih =>
    intro p hp S t U h ht hinj hU hUb hUn hC
    have loop : ∀ k i, i + k = a 0 3 → ∀ S, HR S 23 a → (∀ j, j < p → S 68 j = nI (t j)) → CS S a n ((cdN (a 0 3) t p * a 0 3 + i) * a 0 3 ^ m) → ∃ S', EX sc ((d + m + 5) + 1) 37 2 [.ref 45, .ref 23, .int (nI n), .int (nI p), .int (nI U), .int (nI i)] [] (mk S) = some (none, mk S') ∧ CS S' a n ((cdN (a 0 3) t p * a 0 3 + a 0 3) * a 0 3 ^ m) ∧ FO S S' ∧ ∀ j, j < p → S' 68 j = S 68 j := by
      intro k
      induction k with
      | zero =>
        intro i hi S h hS hC
        refine ⟨S, ?_, ?_, FO.rf _, fun _ _ => rfl⟩
        · rw [e37_2]
          simp only [Hg isH_23, oB_s, h.2.1 3 (by omega)]
          rw [if_pos (nI_le (by omega) (by omega)), e37_4]
        · rw [show i = a 0 3 by omega] at hC
          exact hC
      | succ k ihk =>
        intro i hi S h hS hC
        have skip : ((∃ j, j < p ∧ t j = i) ∨ prB a t i p = true) → ∃ S', EX sc ((d + m + 5) + 1) 37 3 [.ref 45, .ref 23, .int (nI n), .int (nI p), .int (nI U), .int (nI i)] [] (mk S) = some (none, mk S') ∧ CS S' a n ((cdN (a 0 3) t p * a 0 3 + a 0 3) * a 0 3 ^ m) ∧ FO S S' ∧ ∀ j, j < p → S' 68 j = S 68 j := by
          intro hs
          rw [e37_3, nI_1]
          exact ihk (i + 1) (by omega) S h hS (hC.cg rfl rfl (skip_i hB hL hp (by omega) (fun j hj => (ht j hj).2) hs))
        rw [e37_2]
        simp only [Hg isH_23, oB_s, h.2.1 3 (by omega)]
        rw [if_neg (nI_ge (by omega) (by omega)), bit_I U hU i (by omega)]
        cases hb : U.testBit i with
        | true =>
          rw [if_neg (by decide)]
          exact skip (Or.inl ((hUb i).mp hb))
        | false =>
          rw [if_pos (show nI (if false = true then 1 else 0) = 0 from rfl)]
          simp only [O45, if_true, could_eq h hB (show i < a 0 3 by omega) (show p ≤ 6 by omega) (fun j hj => ⟨hS j hj, (ht j hj).2⟩) sc (d + m + 4), cI_s, ii_0]
          by_cases c : prB a t i p = true
          · rw [if_pos c]
            exact skip (Or.inr c)
          · rw [if_neg c]
            obtain ⟨t', ht'⟩ : ∃ t' : Nat → Nat, t' = fun j => if j = p then i else t j := ⟨_, rfl⟩
            have tp : t' p = i := by rw [ht']; exact if_pos rfl
            have tj : ∀ j, j < p → t' j = t j := fun j hj => by rw [ht']; exact if_neg (by omega)
            have cd : cdN (a 0 3) t' (p + 1) = cdN (a 0 3) t p * a 0 3 + i := by
              show cdN (a 0 3) t' p * a 0 3 + t' p = _
              rw [tp, cd_congr p tj]
            have nt : ∀ j, j < p → t j ≠ i := fun j hj e => by
              have := (hUb i).mpr ⟨j, hj, e⟩
              rw [hb] at this
              cases this
            obtain ⟨S1, k1, k2, k3, k4⟩ := ih (p + 1) (by omega) (up S 68 p (nI i)) t' (setB U i) (h.cg (fun k h1 h2 => up_row_ne (by omega))) (fun j hj => by
                by_cases e : j = p
                · rw [e, up_same, tp]; exact ⟨rfl, by omega⟩
                · rw [up_ne (by omega), tj j (by omega)]; exact ⟨hS j (by omega), (ht j (by omega)).2⟩) (fun x y hx hy he => by
                by_cases ex : x = p
                · by_cases ey : y = p
                  · omega
                  · rw [ex, tp, tj y (by omega)] at he
                    exact absurd he.symm (nt y (by omega))
                · by_cases ey : y = p
                  · rw [ey, tp, tj x (by omega)] at he
                    exact absurd he (nt x (by omega))
                  · rw [tj x (by omega), tj y (by omega)] at he
                    exact hinj x y (by omega) (by omega) he) (Nat.or_lt_two_pow (n := 6) hU (Nat.pow_lt_pow_right (by omega) (by omega))) (fun b => by
                rw [setB_bit, hUb b]
                constructor
                · rintro (⟨j, j1, j2⟩ | e)
                  · exact ⟨j, by omega, by rw [tj j j1]; exact j2⟩
                  · exact ⟨p, by omega, by rw [tp, e]⟩
                · rintro ⟨j, j1, j2⟩
                  by_cases e : j = p
                  · rw [e, tp] at j2; exact Or.inr j2.symm
                  · rw [tj j (by omega)] at j2; exact Or.inl ⟨j, by omega, j2⟩) (by
                show bitN 6 (U ||| 2 ^ i) = p + 1
                rw [bitN_or U hU i (by omega), hb, hUn]; rfl) (by
                rw [cd]; exact hC.cg (by rw [up_row_ne (by omega)]) (up_row_ne (by omega)) rfl)
            rw [cd] at k2
            have h68 : ∀ j, j < p → S1 68 j = S 68 j := fun j hj => by rw [k4 j (by omega), up_ne (by omega)]
            have f1 : FO S S1 := (show FO S (up S 68 p (nI i)) from fun k _ _ q _ => up_row_ne q).tr k3
            obtain ⟨S2, m1, m2, m3, m4⟩ := ihk (i + 1) (by omega) S1 (h.cg (fun k h1 h2 => f1 k (by omega) (by omega) (by omega) (by omega))) (fun j hj => by rw [h68 j hj]; exact hS j hj) k2
            refine ⟨S2, ?_, m2, f1.tr m3, fun j hj => by rw [m4 j hj, h68 j hj]⟩
            simp only [O45, oB_s, sI_at A68 (show p < 6 by omega) (by omega), if_true, nI_1, set_I U hU i (show i < 6 by omega), k1, cV_s]
            rw [e37_3, nI_1]
            exact m1
    obtain ⟨S1, k1, k2, k3, k4⟩ := loop (a 0 3) 0 (by omega) S h (fun j hj => (ht j hj).1) (by
      rw [Nat.pow_succ, Nat.mul_comm (a 0 3 ^ m), ← Nat.mul_assoc] at hC
      exact hC)
    refine ⟨S1, ?_, by rw [← pw_succ]; exact k2, k3, k4⟩
    rw [show d + (m + 1) + 5 = (d + m + 5) + 1 by omega, e37_0]
    simp only [Hg isH_23, oB_s, h.2.1 3 (by omega)]
    rw [if_pos ((nI_ltI (by omega) (by omega)).mpr (by omega)), e37_1]
    exact k1
theorem CR.fo {S S' : Nat → Nat → Int32} {X : Xs} (h : CR S X) (hf : FO S S') (hc : CCache S' X.nw) : CR S' X :=
  ⟨h.shelf.cg (fun k h1 h2 => hf k (by omega) (by omega) (by omega) (by omega)),
  by rw [hf 0 (by omega) (by omega) (by omega) (by omega)]; exact h.st,
  by rw [hf 0 (by omega) (by omega) (by omega) (by omega)]; exact h.fl,
  by rw [hf 13 (by omega) (by omega) (by omega) (by omega), hf 14 (by omega) (by omega) (by omega) (by omega)]; exact h.tape,
  by rw [hf 15 (by omega) (by omega) (by omega) (by omega), hf 16 (by omega) (by omega) (by omega) (by omega)]; exact h.trace,
  h.now.cg (fun k h1 h2 => hf k (by omega) (by omega) (by omega) (by omega)),
  by obtain ⟨b, hb⟩ := h.draft; exact ⟨b, hb.cg (fun k h1 h2 => hf k (by omega) (by omega) (by omega) (by omega))⟩,
  h.acts.cg (by rw [hf 0 (by omega) (by omega) (by omega) (by omega)]) (by rw [hf 0 (by omega) (by omega) (by omega) (by omega)]) (fun k h1 h2 => hf k (by omega) (by omega) (by omega) (by omega)),
  fun k hk => (h.img k hk).cg (fun k h1 h2 => hf k (by omega) (by omega) (by omega) (by omega)),
  hc⟩
theorem best_some {a : Hs} {n : Nat} (hL : 0 < a 0 3) : ∃ v c, bestO a n (a 0 3 ^ a 0 3) = some (v, c) := by
  have hm : ∀ j, j < a 0 3 → (fun j : Nat => j) j < a 0 3 := fun j hj => hj
  obtain ⟨v, c, h1, _⟩ := best_min (a := a) (n := n) (a 0 3 ^ a 0 3) (cdN (a 0 3) (fun j => j) (a 0 3)) (cd_up hL _ hm) ((Pm_iff hL).mpr (fun b hb => ⟨b, hb, dig_cd hm hb⟩))
  exact ⟨v, c, h1⟩
theorem best_v {a : Hs} {n : Nat} : ∀ m v c, bestO a n m = some (v, c) → v ≤ 6 * (n + 1)
  | 0, _, _, h => by cases h
  | m + 1, v, c, h => by
    rw [best_step] at h
    have := osum_le n (rkd a m)
    split at h
    · cases hb : bestO a n m with
      | none =>
        rw [hb] at h
        obtain ⟨z1, z2⟩ := Prod.mk.inj (Option.some.inj h)
        omega
      | some w =>
        obtain ⟨v0, c0⟩ := w
        have ih := best_v m v0 c0 hb
        rw [hb] at h
        change (if osum n (rkd a m) < v0 then some (osum n (rkd a m), m) else some (v0, c0)) = some (v, c) at h
        split at h
        · obtain ⟨z1, z2⟩ := Prod.mk.inj (Option.some.inj h)
          omega
        · obtain ⟨z1, z2⟩ := Prod.mk.inj (Option.some.inj h)
          omega
    · exact best_v m v c h
theorem find_spec {S : Nat → Nat → Int32} {X : Xs} {n : Nat} (h : CR S X) (hX : XOk X) (hL : X.nw 0 3 ≠ 0) (hn1 : 1 ≤ n) (hn : n ≤ 40) (sc : Nat × (Nat → Int32)) : ∃ S' v c, EX sc 38 36 0 [.ref 45, .ref 23, .int (nI n)] [] (mk S) = some (none, mk S') ∧ bestO X.nw n (X.nw 0 3 ^ X.nw 0 3) = some (v, c) ∧ S' 45 4 = nI v ∧ (∀ k, k < X.nw 0 3 → S' 69 k = nI (dig (X.nw 0 3) c k)) ∧ CR S' X ∧ FrC S S' := by
  have h6 := hX.l6
  obtain ⟨v, c, hb⟩ := best_some (a := X.nw) (n := n) (by omega)
  by_cases c0 : S 45 5 = nI n
  · rcases h.cache with q | ⟨n0, v0, c0', q1, q2, q3, q4, q5, q6⟩
    · rw [q] at c0
      exact absurd c0.symm (nI_ne0 (by omega) (by omega))
    · have e : n0 = n := (nI_eq (by omega) (by omega)).mp (q3.symm.trans c0)
      subst e
      refine ⟨S, v0, c0', ?_, q4, q5, q6, h, FrC.rf _⟩
      rw [e36_0]
      simp only [O45, oB_s]
      rw [if_pos c0]
  · have e := ext_spec (hX.okT (n := n) (by omega)) hn (by omega) sc (32 - X.nw 0 3) (X.nw 0 3) 0 (by omega) (up S 45 4 247) (fun j => j) 0 (h.now.cg (fun k h1 h2 => up_row_ne (by omega))) (fun j hj => by omega) (fun i j hi => by omega) (by omega) (fun b => by
      rw [Nat.zero_testBit]
      exact ⟨fun q => (by cases q), fun ⟨j, hj, _⟩ => (by omega)⟩) (by decide) ⟨247, by rw [up_same]; rfl, by omega, fun _ => rfl, fun v c q => by
      rw [show cdN (X.nw 0 3) (fun j => j) 0 * X.nw 0 3 ^ X.nw 0 3 = 0 from Nat.zero_mul _] at q
      cases q⟩
    rw [show 32 - X.nw 0 3 + X.nw 0 3 + 5 = 37 by omega] at e
    obtain ⟨S1, k1, ⟨F, k2, k3, k4, k5⟩, k6, _⟩ := e
    rw [show (cdN (X.nw 0 3) (fun j => j) 0 + 1) * X.nw 0 3 ^ X.nw 0 3 = X.nw 0 3 ^ X.nw 0 3 from Nat.one_mul _] at k4 k5
    obtain ⟨r1, r2⟩ := k5 v c hb
    have f1 : FO S (up S1 45 5 (nI n)) := fun k q1 q2 q3 q4 => by
      rw [up_row_ne q1, k6 k q1 q2 q3 q4, up_row_ne q1]
    have e4 : (up S1 45 5 (nI n)) 45 4 = nI v := by rw [up_ne (by omega), k2, r1]
    have e69 : ∀ k, k < X.nw 0 3 → (up S1 45 5 (nI n)) 69 k = nI (dig (X.nw 0 3) c k) := fun k hk => by rw [up_row_ne (by omega)]; exact r2 k hk
    refine ⟨up S1 45 5 (nI n), v, c, ?_, hb, e4, e69, h.fo f1 (Or.inr ⟨n, v, c, hn1, hn, up_same _ _ _ _, hb, e4, e69⟩), fun k hk => f1 k (by omega) (by omega) (by omega) (by omega)⟩
    rw [e36_0]
    simp only [O45, oB_s]
    rw [if_neg c0, e36_1]
    simp only [P45, oB_s, O45, if_true]
    rw [show (0 : Int32) = nI 0 from rfl]
    simp only [k1, cV_s, P45, oB_s]
