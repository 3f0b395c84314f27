/-! who: the reference -/
theorem shf_cnt : ∀ x, x < 64 → ∀ y, y < 64 → ∀ L, L < 7 → (x &&& y = 0 ∧ x < 2 ^ L ∧ y < 2 ^ L) → bitN 6 (((2 ^ L - 1) &&& (63 ^^^ x)) &&& (63 ^^^ y)) = L - bitN 6 x - bitN 6 y ∧ bitN 6 x + bitN 6 y ≤ L := by decide +kernel
theorem ly_dis (b : Hs) : ly b 21 &&& ly b 20 = 0 := by
  apply Nat.eq_of_testBit_eq
  intro i
  rw [Nat.testBit_and, ly_bit, ly_bit, Nat.zero_testBit]
  by_cases c : b 5 i = 21
  · rw [c]; simp
  · rw [decide_eq_false c]; simp
theorem so_loop {tl : Nat → Int32} {r i n : Nat} (hn : n ≤ 12) (hr : r < 8) (hi : i + n ≤ 40) (sc : Nat × (Nat → Int32)) (d : Nat) : ∀ (k t : Nat) (S : Nat → Nat → Int32) (a : Hs) (so : Bool), t + k = n → MR S a → OkT k a → a 0 4 = 0 → (∀ j, j < n → S 360 (40 * r + i + j) = tl j) → ∃ S', EX sc (d + 6) 201 1 [.ref 359, .int (nI r), .int (nI i), .int (nI n), .int (if so = true then 1 else 0), .int (nI t), Jk, Jk] [] (mk S) = some (some (.int (if (so && fitN tl k t a) = true then 1 else 0)), mk S') ∧ FM S S' := by
  intro k
  induction k with
  | zero =>
    intro t S a so ht h hw h4 h360
    refine ⟨S, ?_, FM.rf _⟩
    rw [e201_1, if_pos (nI_le (by omega) (by omega)), e201_4, ii_ok]
    show _ = some (some (Value.int (if (so && true) = true then 1 else 0)), mk S)
    rw [Bool.and_true]
  | succ k ih =>
    intro t S a so ht h hw h4 h360
    obtain ⟨S1, k1, k2, k3⟩ := goTickT h hw sc d
    have hw1 : OkT k (tickS a) := hw.tick
    obtain ⟨B, hB⟩ := hw1.wf
    have h6 := hw1.l6
    have h41 : (tickS a) 0 4 = 0 := by rw [tickS_0 (by omega)]; exact h4
    have l1 : ly (tickS a) 21 < 64 := ly_lt h6 21
    have l2 : ly (tickS a) 20 < 64 := ly_lt h6 20
    obtain ⟨s1, s2⟩ := shf_cnt _ l1 _ l2 ((tickS a) 0 3) (by omega) ⟨ly_dis _, lyN_lt _ _ _, lyN_lt _ _ _⟩
    have ec : nI ((tickS a) 0 3) - nI (bitN 6 (ly (tickS a) 21)) - nI (bitN 6 (ly (tickS a) 20)) + 10 * nI (bitN 6 (ly (tickS a) 21)) = nI (cntW (tickS a)) := by
      rw [pk_sub (by omega), pk_sub (by omega), show (10 : Int32) = nI 10 from rfl, pk_mul, nI_add]
      unfold cntW shfB outB
      rw [s1]
    have e360 : S1 360 (40 * r + i + t) = tl t := by rw [k3 360 (by omega) (by omega)]; exact h360 t (by omega)
    have hst : fitN tl (k + 1) t a = (decide (nI (cntW (tickS a)) = tl t) && fitN tl k (t + 1) (tickS a)) := rfl
    have next : ∀ so', ∃ S', EX sc (d + 6) 201 3 [.ref 359, .int (nI r), .int (nI i), .int (nI n), Jk, .int (nI t), Jk, Jk] [.int (if so' = true then 1 else 0)] (mk S1) = some (some (.int (if (so' && fitN tl k (t + 1) (tickS a)) = true then 1 else 0)), mk S') ∧ FM S S' := by
      intro so'
      obtain ⟨S2, m1, m2⟩ := ih (t + 1) S1 (tickS a) so' (by omega) k2 hw1 h41 (fun j hj => by rw [k3 360 (by omega) (by omega)]; exact h360 j hj)
      refine ⟨S2, ?_, k3.fm.tr m2⟩
      rw [e201_3, nI_1]
      exact m1
    rw [e201_1, if_neg (nI_ge (by omega) (by omega))]
    simp only [O359, if_true, k1, cV_s, boxed_spec k2.ms hB, cI_s, ones_eq S1 (n := 6) (by omega) l1, oB_s, k2.1.2.1, waiting_spec k2.ms hB h41, ones_eq S1 (n := 6) (by omega) l2, ec]
    cases so with
    | false =>
      rw [if_pos (show (if false = true then (1 : Int32) else 0) = 0 from rfl), e201_2, Bool.false_and]
      have := next false
      rw [Bool.false_and] at this
      exact this
    | true =>
      rw [if_neg (show ¬ (if true = true then (1 : Int32) else 0) = 0 from i10), show (40 : Int32) = nI 40 from rfl, pk_mul, nI_add, nI_add, aI_at A360 (show 40 * r + i + t < 320 by omega) (by omega)]
      simp only [oB_s, e360]
      rw [Bool.true_and, hst]
      by_cases c : nI (cntW (tickS a)) = tl t
      · rw [if_pos c.symm, decide_eq_true c]
        exact next true
      · rw [if_neg (fun z => c z.symm), e201_2, decide_eq_false c]
        exact next false
theorem so201 {tl : Nat → Int32} {r i n : Nat} (hn : n ≤ 12) (hr : r < 8) (hi : i + n ≤ 40) {S : Nat → Nat → Int32} {a : Hs} (h : MS S a) (hk : RkId a) (hw : OkT n a) (h4 : a 0 4 = 0) (ht : ∀ j, j < n → S 360 (40 * r + i + j) = tl j) (sc : Nat × (Nat → Int32)) (d : Nat) : ∃ S', EX sc (d + 6) 201 0 [.ref 359, .int (nI r), .int (nI i), .int (nI n), Jk, Jk, Jk, Jk] [] (mk S) = some (some (.int (if fitN tl n 0 a = true then 1 else 0)), mk S') ∧ FM S S' := by
  obtain ⟨S1, k1, k2, k3⟩ := byNumbers_spec S sc (d + 4)
  obtain ⟨S2, m1, m2⟩ := so_loop (tl := tl) hn hr hi sc d n 0 S1 a true (by omega) (MS_num h hk hw.l6 k2 k3) hw h4 (fun j hj => by rw [k3 360 (by omega)]; exact ht j hj)
  refine ⟨S2, ?_, (show FM S S1 from fun k hk => k3 k (by omega)).tr m2⟩
  rw [e201_0]
  simp only [O359, if_true, k1, cV_s]
  rw [Bool.true_and] at m1
  exact m1
def FW (S S' : Nat → Nat → Int32) : Prop := (∀ k, k ≠ 359 → k < 370 → S' k = S k) ∧ ∀ j, j ≠ 29 → j ≠ 30 → j ≠ 31 → ¬ (19 ≤ j ∧ j ≤ 27) → S' 359 j = S 359 j
theorem FW.rf (S : Nat → Nat → Int32) : FW S S := ⟨fun _ _ _ => rfl, fun _ _ _ _ _ => rfl⟩
theorem FW.tr {S S' S'' : Nat → Nat → Int32} (h1 : FW S S') (h2 : FW S' S'') : FW S S'' := ⟨fun k a b => (h2.1 k a b).trans (h1.1 k a b), fun j a b c d => (h2.2 j a b c d).trans (h1.2 j a b c d)⟩
theorem FM.fw {S S' : Nat → Nat → Int32} (h : FM S S') : FW S S' := ⟨fun k _ _ => h k (by omega), fun j _ _ _ _ => by rw [h 359 (by omega)]⟩
theorem FW.up {S : Nat → Nat → Int32} {j : Nat} {x : Int32} (hj : j = 29 ∨ j = 30 ∨ j = 31) : FW S (up S 359 j x) := ⟨fun _ h _ => up_row_ne h, fun _ _ _ _ _ => up_ne (by omega)⟩
def MPl (S : Nat → Nat → Int32) (a : Hs) : Prop := S 359 4 = nI (a 0 0) ∧ S 359 5 = nI (a 0 3) ∧ (∀ j, j < a 0 3 → S 363 j = nI (a 1 j) ∧ S 364 j = nI (a 3 j)) ∧ MRow (S 365) a
theorem MPl.fw {S S' : Nat → Nat → Int32} {a : Hs} (h : MPl S a) (hf : FW S S') : MPl S' a := by
  unfold MPl at h ⊢
  rw [hf.2 4 (by omega) (by omega) (by omega) (by omega), hf.2 5 (by omega) (by omega) (by omega) (by omega), hf.1 363 (by omega) (by omega), hf.1 364 (by omega) (by omega), hf.1 365 (by omega) (by omega)]
  exact h
theorem MP.pl {S : Nat → Nat → Int32} {X : Xs} (h : MP S X) (hX : XOk X) : MPl S X.nw := by
  refine ⟨h.stat.1, h.stat.2.1, fun j hj => ?_, h.now⟩
  have h6 := hX.l6
  have := h.stat.2.2 j hj
  have n : ¬ nI j = -1000000 := fun z => by
    have := congrArg Int32.toInt z
    rw [nI_toInt (by omega), show Int32.toInt (-1000000) = -1000000 from rfl] at this
    omega
  rw [h.none, if_neg n, if_neg n] at this
  exact this
theorem MSt_0 {S : Nat → Nat → Int32} {a : Hs} {l v : Nat} (h : MPl S a) (h6 : a 0 3 ≤ 6) (hl : l < a 0 3) (h29 : S 359 29 = nI l) (h30 : S 359 30 = nI v) (h31 : S 359 31 = nI (a 3 l)) : MSt S (upA a 1 l v) := by
  refine ⟨h.1, h.2.1, fun j hj => ?_⟩
  have hj' : j < a 0 3 := hj
  rw [h29, h30, h31, upA_c (show (3 : Nat) ≠ 1 by omega)]
  by_cases c : j = l
  · rw [c, if_pos rfl, if_pos rfl, upA_same]; exact ⟨rfl, rfl⟩
  · have n : ¬ nI j = nI l := fun z => c ((nI_eq (by omega) (by omega)).mp z)
    rw [if_neg n, if_neg n, upA_ne (fun z => c z.2)]
    exact h.2.2.1 j hj'
theorem MSt_1 {S : Nat → Nat → Int32} {a : Hs} {l v : Nat} (h : MPl S a) (h6 : a 0 3 ≤ 6) (hl : l < a 0 3) (h29 : S 359 29 = nI l) (h30 : S 359 30 = nI (a 1 l)) (h31 : S 359 31 = nI v) : MSt S (upA a 3 l v) := by
  refine ⟨h.1, h.2.1, fun j hj => ?_⟩
  have hj' : j < a 0 3 := hj
  rw [h29, h30, h31, upA_c (show (1 : Nat) ≠ 3 by omega)]
  by_cases c : j = l
  · rw [c, if_pos rfl, if_pos rfl, upA_same]; exact ⟨rfl, rfl⟩
  · have n : ¬ nI j = nI l := fun z => c ((nI_eq (by omega) (by omega)).mp z)
    rw [if_neg n, if_neg n, upA_ne (fun z => c z.2)]
    exact h.2.2.1 j hj'
theorem MRow_13 {R : Nat → Int32} {a : Hs} {c l v : Nat} (h : MRow R a) (hc : c = 1 ∨ c = 3) : MRow R (upA a c l v) := by
  unfold MRow plv
  rw [upA_c (show (0 : Nat) ≠ c by omega), upA_c (show (5 : Nat) ≠ c by omega), upA_c (show (6 : Nat) ≠ c by omega), upA_c (show (7 : Nat) ≠ c by omega), upA_c (show (4 : Nat) ≠ c by omega), upA_c (show (2 : Nat) ≠ c by omega)]
  exact h
theorem MS_2 {S : Nat → Nat → Int32} {a : Hs} (h : MS S a) (h6 : a 0 3 ≤ 6) {l : Nat} (hl : l < a 0 3) (v : Nat) : MS (up S 373 (24 + l) (nI v)) (upA a 2 l v) := by
  obtain ⟨h1, h2, h3, h4⟩ := h
  have g : MSt (up S 373 (24 + l) (nI v)) a := h1.fm RC.up.fm
  refine ⟨g, fun i hi => ?_, ?_, ?_⟩
  · have hi' : i < a 0 3 := hi
    obtain ⟨q1, q2, q3, q4, q5⟩ := h2 i hi'
    rw [up_ne (by omega), up_ne (by omega), up_ne (by omega), up_ne (by omega), up_at]
    refine ⟨q1, q2, q3, q4, ?_⟩
    by_cases e : i = l
    · rw [if_pos ⟨rfl, by omega⟩, e, upA_same]
    · rw [if_neg (by omega), upA_ne (fun z => e z.2)]; exact q5
  · rw [up_ne (by omega)]; exact h3
  · rw [up_ne (by omega)]; exact h4
theorem vry_RkId {a : Hs} {w l v : Nat} (h : RkId a) : RkId (vry w l v a) := by
  unfold vry
  split
  · exact h
  · split
    · exact h
    · split
      · exact h
      · exact h
theorem vry_nv {a : Hs} {w l v : Nat} (h : a 0 4 = 0) : (vry w l v a) 0 4 = 0 := by
  unfold vry
  split
  · exact h
  · split
    · exact h
    · split
      · exact h
      · exact h
theorem set202 {a : Hs} {tl : Nat → Int32} {l r i n : Nat} (h6 : a 0 3 ≤ 6) (hl : l < a 0 3) (hk : RkId a) (h4 : a 0 4 = 0) (hn : n ≤ 12) (hr : r < 8) (hi : i + n ≤ 40) (hv : ∀ v, v < 6 → OkT 12 (vry 0 l v a)) {S0 : Nat → Nat → Int32} (hp : MPl S0 a) (ht : ∀ j, j < n → S0 360 (40 * r + i + j) = tl j) (sc : Nat × (Nat → Int32)) (d : Nat) : ∀ (q k : Nat) (S : Nat → Nat → Int32), 1 + k + q = 6 → FW S0 S → S 359 31 = nI (a 3 l) → ∃ S', EX sc (d + 7) 202 1 [.ref 359, .int (nI l), .int (nI r), .int (nI i), .int (nI n), .int (nI (setN (fun v => fitN tl n 0 (vry 0 l v a)) 1 k)), .int (nI (1 + k))] [] (mk S) = some (some (.int (nI (setN (fun v => fitN tl n 0 (vry 0 l v a)) 1 5))), mk S') ∧ FW S0 S' ∧ S' 359 29 = -1000000 := by
  intro q
  induction q with
  | zero =>
    intro k S hq hf h31
    refine ⟨up S 359 29 (-1000000), ?_, hf.tr (FW.up (Or.inl rfl)), up_same _ _ _ _⟩
    rw [e202_1, if_pos (show (6 : Int32) ≤ nI (1 + k) from nI_le (a := 6) (by omega) (by omega)), e202_4, show k = 5 by omega]
    simp only [P359, oB_s]
  | succ q ih =>
    intro k S hq hf hkp
    obtain ⟨S1, hS1⟩ : ∃ S1, S1 = up (up S 359 29 (nI l)) 359 30 (nI (1 + k)) := ⟨_, rfl⟩
    have f1 : FW S0 S1 := by rw [hS1]; exact (hf.tr (FW.up (Or.inl rfl))).tr (FW.up (by omega))
    have a29 : S1 359 29 = nI l := by rw [hS1, up_ne (by omega), up_same]
    have av : S1 359 30 = nI (1 + k) := by rw [hS1, up_same]
    have ak : S1 359 31 = nI (a 3 l) := by rw [hS1, up_ne (by omega), up_ne (by omega)]; exact hkp
    have pl := hp.fw f1
    have evr : vry 0 l (1 + k) a = upA a 1 l (1 + k) := rfl
    have hok : OkT 12 (upA a 1 l (1 + k)) := hv (1 + k) (by omega)
    have st : MSt S1 (upA a 1 l (1 + k)) := MSt_0 pl h6 hl a29 av ak
    obtain ⟨S2, b1, b2, b3⟩ := aside_spec st (MRow_13 pl.2.2.2 (Or.inl rfl)) h6 sc (d + 5)
    have f2 := f1.tr b3.fm.fw
    obtain ⟨S3, c1, c2⟩ := so201 (tl := tl) hn hr hi b2 (vry_RkId (w := 0) (l := l) (v := 1 + k) hk) (hok.le hn) (vry_nv (w := 0) (l := l) (v := 1 + k) h4) (fun j hj => by rw [f2.1 360 (by omega) (by omega)]; exact ht j hj) sc d
    have f3 := f2.tr c2.fw
    have k3 : S3 359 31 = nI (a 3 l) := by rw [c2 359 (by omega), b3 359 (by omega)]; exact ak
    obtain ⟨S4, d1, d2, d3⟩ := ih (k + 1) S3 (by omega) f3 k3
    refine ⟨S4, ?_, d2, d3⟩
    rw [e202_1, if_neg (show ¬ (6 : Int32) ≤ nI (1 + k) from nI_ge (b := 6) (by omega) (by omega))]
    simp only [P359, oB_s, O359, if_true, ← hS1, b1, cV_s, c1, cI_s, ii_0]
    have hst : setN (fun v => fitN tl n 0 (vry 0 l v a)) 1 (k + 1) = if fitN tl n 0 (upA a 1 l (1 + k)) = true then setN (fun v => fitN tl n 0 (vry 0 l v a)) 1 k ||| 2 ^ (1 + k) else setN (fun v => fitN tl n 0 (vry 0 l v a)) 1 k := rfl
    by_cases c : fitN tl n 0 (upA a 1 l (1 + k)) = true
    · rw [if_pos c] at hst
      rw [if_pos c, (shk (1 + k) (by omega)).2, e202_3, nI_or, ← hst, nI_1]
      exact d1
    · rw [if_neg c] at hst
      rw [if_neg c, e202_2, e202_3, or_0, ← hst, nI_1]
      exact d1
theorem set203 {a : Hs} {tl : Nat → Int32} {l r i n : Nat} (h6 : a 0 3 ≤ 6) (hl : l < a 0 3) (hk : RkId a) (h4 : a 0 4 = 0) (hn : n ≤ 12) (hr : r < 8) (hi : i + n ≤ 40) (hv : ∀ v, v < 10 → OkT 12 (vry 1 l v a)) {S0 : Nat → Nat → Int32} (hp : MPl S0 a) (ht : ∀ j, j < n → S0 360 (40 * r + i + j) = tl j) (sc : Nat × (Nat → Int32)) (d : Nat) : ∀ (q k : Nat) (S : Nat → Nat → Int32), 1 + k + q = 10 → FW S0 S → S 359 30 = nI (a 1 l) → ∃ S', EX sc (d + 7) 203 1 [.ref 359, .int (nI l), .int (nI r), .int (nI i), .int (nI n), .int (nI (setN (fun v => fitN tl n 0 (vry 1 l v a)) 1 k)), .int (nI (1 + k))] [] (mk S) = some (some (.int (nI (setN (fun v => fitN tl n 0 (vry 1 l v a)) 1 9))), mk S') ∧ FW S0 S' ∧ S' 359 29 = -1000000 := by
  intro q
  induction q with
  | zero =>
    intro k S hq hf h30
    refine ⟨up S 359 29 (-1000000), ?_, hf.tr (FW.up (Or.inl rfl)), up_same _ _ _ _⟩
    rw [e203_1, if_pos (show (10 : Int32) ≤ nI (1 + k) from nI_le (a := 10) (by omega) (by omega)), e203_4, show k = 9 by omega]
    simp only [P359, oB_s]
  | succ q ih =>
    intro k S hq hf hkp
    obtain ⟨S1, hS1⟩ : ∃ S1, S1 = up (up S 359 29 (nI l)) 359 31 (nI (1 + k)) := ⟨_, rfl⟩
    have f1 : FW S0 S1 := by rw [hS1]; exact (hf.tr (FW.up (Or.inl rfl))).tr (FW.up (by omega))
    have a29 : S1 359 29 = nI l := by rw [hS1, up_ne (by omega), up_same]
    have av : S1 359 31 = nI (1 + k) := by rw [hS1, up_same]
    have ak : S1 359 30 = nI (a 1 l) := by rw [hS1, up_ne (by omega), up_ne (by omega)]; exact hkp
    have pl := hp.fw f1
    have evr : vry 1 l (1 + k) a = upA a 3 l (1 + k) := rfl
    have hok : OkT 12 (upA a 3 l (1 + k)) := hv (1 + k) (by omega)
    have st : MSt S1 (upA a 3 l (1 + k)) := MSt_1 pl h6 hl a29 ak av
    obtain ⟨S2, b1, b2, b3⟩ := aside_spec st (MRow_13 pl.2.2.2 (Or.inr rfl)) h6 sc (d + 5)
    have f2 := f1.tr b3.fm.fw
    obtain ⟨S3, c1, c2⟩ := so201 (tl := tl) hn hr hi b2 (vry_RkId (w := 1) (l := l) (v := 1 + k) hk) (hok.le hn) (vry_nv (w := 1) (l := l) (v := 1 + k) h4) (fun j hj => by rw [f2.1 360 (by omega) (by omega)]; exact ht j hj) sc d
    have f3 := f2.tr c2.fw
    have k3 : S3 359 30 = nI (a 1 l) := by rw [c2 359 (by omega), b3 359 (by omega)]; exact ak
    obtain ⟨S4, d1, d2, d3⟩ := ih (k + 1) S3 (by omega) f3 k3
    refine ⟨S4, ?_, d2, d3⟩
    rw [e203_1, if_neg (show ¬ (10 : Int32) ≤ nI (1 + k) from nI_ge (b := 10) (by omega) (by omega))]
    simp only [P359, oB_s, O359, if_true, ← hS1, b1, cV_s, c1, cI_s, ii_0]
    have hst : setN (fun v => fitN tl n 0 (vry 1 l v a)) 1 (k + 1) = if fitN tl n 0 (upA a 3 l (1 + k)) = true then setN (fun v => fitN tl n 0 (vry 1 l v a)) 1 k ||| 2 ^ (1 + k) else setN (fun v => fitN tl n 0 (vry 1 l v a)) 1 k := rfl
    by_cases c : fitN tl n 0 (upA a 3 l (1 + k)) = true
    · rw [if_pos c] at hst
      rw [if_pos c, (shk (1 + k) (by omega)).2, e203_3, nI_or, ← hst, nI_1]
      exact d1
    · rw [if_neg c] at hst
      rw [if_neg c, e203_2, e203_3, or_0, ← hst, nI_1]
      exact d1
theorem set204 {X : Xs} (hX : XOk X) {tl : Nat → Int32} {l r i n : Nat} (hl : l < X.nw 0 3) (hn : n ≤ 12) (hr : r < 8) (hi : i + n ≤ 40) (hv : ∀ v, v < X.nw 0 0 → OkT 12 (vry 2 l v X.nw)) (ht : ∀ j, j < n → X.it r (i + j) = tl j) (sc : Nat × (Nat → Int32)) (d : Nat) : ∀ (q k : Nat) (S : Nat → Nat → Int32), k + q = X.nw 0 0 → MP S X → ∃ S', EX sc (d + 7) 204 1 [.ref 359, .int (nI l), .int (nI r), .int (nI i), .int (nI n), .int (nI (setN (fun v => fitN tl n 0 (vry 2 l v X.nw)) 0 k)), .int (nI k)] [] (mk S) = some (some (.int (nI (setN (fun v => fitN tl n 0 (vry 2 l v X.nw)) 0 (X.nw 0 0)))), mk S') ∧ FN S S' := by
  have h6 := hX.l6
  have h9 := hX.wf.2.1
  intro q
  induction q with
  | zero =>
    intro k S hq hM
    refine ⟨S, ?_, FN.rf _⟩
    rw [e204_1]
    simp only [O359, oB_s, hM.stat.1]
    rw [if_pos (nI_le (by omega) (by omega)), e204_4, show k = X.nw 0 0 by omega]
  | succ q ih =>
    intro k S hq hM
    have evr : vry 2 l k X.nw = upA X.nw 2 l k := rfl
    have hok : OkT 12 (upA X.nw 2 l k) := hv k (by omega)
    obtain ⟨S2, b1, b2, b3⟩ := aside_spec hM.stat hM.now h6 sc (d + 5)
    have g := MS_2 b2 h6 hl k
    have f2 : FN S (up S2 373 (24 + l) (nI k)) := b3.fm.fn.tr (RC.up (j := 24 + l) (x := nI k)).fm.fn
    obtain ⟨S3, c1, c2⟩ := so201 (tl := tl) hn hr hi g (vry_RkId (w := 2) (l := l) (v := k) hX.rk) (hok.le hn) (vry_nv (w := 2) (l := l) (v := k) hX.nv) (fun j hj => by
      rw [f2.1 360 (by omega) (by omega), Nat.add_assoc, (hM.shelf r hr).2.2 (i + j) (by omega)]; exact ht j hj) sc d
    have f3 := f2.tr c2.fn
    obtain ⟨S4, d1, d2⟩ := ih (k + 1) S3 (by omega) (hM.fn hX f3)
    refine ⟨S4, ?_, f3.tr d2⟩
    rw [e204_1]
    simp only [O359, oB_s, hM.stat.1]
    rw [if_neg (nI_ge (by omega) (by omega))]
    simp only [O359, if_true, b1, cV_s, oB_s, show (24 : Int32) = nI 24 from rfl, nI_add, A373_st (S := S2) (show 24 + l < 32 by omega), c1, cI_s, ii_0]
    have hst : setN (fun v => fitN tl n 0 (vry 2 l v X.nw)) 0 (k + 1) = if fitN tl n 0 (vry 2 l (0 + k) X.nw) = true then setN (fun v => fitN tl n 0 (vry 2 l v X.nw)) 0 k ||| 2 ^ (0 + k) else setN (fun v => fitN tl n 0 (vry 2 l v X.nw)) 0 k := rfl
    rw [Nat.zero_add, evr] at hst
    by_cases c : fitN tl n 0 (upA X.nw 2 l k) = true
    · rw [if_pos c] at hst
      rw [if_pos c, (shk k (by omega)).2, e204_3, nI_or, ← hst, nI_1]
      exact d1
    · rw [if_neg c] at hst
      rw [if_neg c, e204_2, e204_3, or_0, ← hst, nI_1]
      exact d1
theorem set205 {X : Xs} (hX : XOk X) {tl : Nat → Int32} {l r i n : Nat} (hn : n ≤ 12) (hr : r < 8) (hi : i + n ≤ 40) (hv : ∀ v, v < 21 → OkT 12 (vry 3 l v X.nw)) (ht : ∀ j, j < n → X.it r (i + j) = tl j) (sc : Nat × (Nat → Int32)) (d : Nat) : ∀ (q k : Nat) (S : Nat → Nat → Int32), 2 + k + q = 21 → MP S X → ∃ S', EX sc (d + 7) 205 1 [.ref 359, .int (nI r), .int (nI i), .int (nI n), .int (nI (setN (fun v => fitN tl n 0 (vry 3 l v X.nw)) 2 k)), .int (nI (2 + k))] [] (mk S) = some (some (.int (nI (setN (fun v => fitN tl n 0 (vry 3 l v X.nw)) 2 19))), mk S') ∧ FN S S' := by
  have h6 := hX.l6
  intro q
  induction q with
  | zero =>
    intro k S hq hM
    refine ⟨S, ?_, FN.rf _⟩
    rw [e205_1, if_pos (show (21 : Int32) ≤ nI (2 + k) from nI_le (a := 21) (by omega) (by omega)), e205_4, show k = 19 by omega]
  | succ q ih =>
    intro k S hq hM
    have evr : vry 3 l (2 + k) X.nw = upA X.nw 0 1 (2 + k) := rfl
    have hok : OkT 12 (upA X.nw 0 1 (2 + k)) := hv (2 + k) (by omega)
    obtain ⟨S2, b1, b2, b3⟩ := aside_spec hM.stat hM.now h6 sc (d + 5)
    have g := MS_wide b2 h6 (2 + k)
    have f2 : FN S (up S2 373 30 (nI (2 + k))) := b3.fm.fn.tr (RC.up (j := 30) (x := nI (2 + k))).fm.fn
    obtain ⟨S3, c1, c2⟩ := so201 (tl := tl) hn hr hi g (vry_RkId (w := 3) (l := l) (v := 2 + k) hX.rk) (hok.le hn) (vry_nv (w := 3) (l := l) (v := 2 + k) hX.nv) (fun j hj => by
      rw [f2.1 360 (by omega) (by omega), Nat.add_assoc, (hM.shelf r hr).2.2 (i + j) (by omega)]; exact ht j hj) sc d
    have f3 := f2.tr c2.fn
    obtain ⟨S4, d1, d2⟩ := ih (k + 1) S3 (by omega) (hM.fn hX f3)
    refine ⟨S4, ?_, f3.tr d2⟩
    rw [e205_1, if_neg (show ¬ (21 : Int32) ≤ nI (2 + k) from nI_ge (b := 21) (by omega) (by omega))]
    simp only [O359, if_true, b1, cV_s, oB_s, show (30 : Int32) = nI 30 from rfl, A373_st (S := S2) (show 30 < 32 by omega), c1, cI_s, ii_0]
    have hst : setN (fun v => fitN tl n 0 (vry 3 l v X.nw)) 2 (k + 1) = if fitN tl n 0 (vry 3 l (2 + k) X.nw) = true then setN (fun v => fitN tl n 0 (vry 3 l v X.nw)) 2 k ||| 2 ^ (2 + k) else setN (fun v => fitN tl n 0 (vry 3 l v X.nw)) 2 k := rfl
    rw [evr] at hst
    by_cases c : fitN tl n 0 (upA X.nw 0 1 (2 + k)) = true
    · rw [if_pos c] at hst
      rw [if_pos c, (shk (2 + k) (by omega)).2, e205_3, nI_or, ← hst, nI_1]
      exact d1
    · rw [if_neg c] at hst
      rw [if_neg c, e205_2, e205_3, or_0, ← hst, nI_1]
      exact d1
