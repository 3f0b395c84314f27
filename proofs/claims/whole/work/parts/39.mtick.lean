/-! the reference: a tick, whole -/
theorem upd_self (f : Nat → Int32) (i : Nat) : upd f i (f i) = f := by
  funext j
  unfold upd
  by_cases h : j = i
  · simp [h]
  · simp [h]
/-- only the row aside has changed -/
def RC (S S' : Nat → Nat → Int32) : Prop := ∀ k, k ≠ 373 → S' k = S k
theorem RC.rf (S : Nat → Nat → Int32) : RC S S := fun _ _ => rfl
theorem RC.tr {S S' S'' : Nat → Nat → Int32} (h1 : RC S S') (h2 : RC S' S'') : RC S S'' := fun k a => (h2 k a).trans (h1 k a)
theorem RC.up {S : Nat → Nat → Int32} {j : Nat} {x : Int32} : RC S (up S 373 j x) := fun _ h => up_row_ne h
theorem RC.of {S S' : Nat → Nat → Int32} (h : S' = va_up S 373 (S' 373)) : RC S S' := fun k hk => by rw [h]; unfold va_up; rw [if_neg hk]
theorem RC.ft {S S' : Nat → Nat → Int32} (h : RC S S') : FT S S' := fun k a _ => h k a
theorem A374_at {S : Nat → Nat → Int32} {j : Nat} (h : j < 6) : aI (mk S) 374 (nI j) = some (S 374 j) := aI_at A374 h (by omega)
theorem A374_st {S : Nat → Nat → Int32} {j : Nat} (h : j < 6) (x : Int32) : sI (mk S) 374 (nI j) x = some (mk (up S 374 j x)) := sI_at A374 h (by omega) x
theorem A375_at {S : Nat → Nat → Int32} {j : Nat} (h : j < 6) : aI (mk S) 375 (nI j) = some (S 375 j) := aI_at A375 h (by omega)
theorem A375_st {S : Nat → Nat → Int32} {j : Nat} (h : j < 6) (x : Int32) : sI (mk S) 375 (nI j) x = some (mk (up S 375 j x)) := sI_at A375 h (by omega) x
theorem mInner_spec {B : Nat} {b : Hs} {lay : Nat → Nat} {f : Nat} (hw : WFg B b) (hB : B + 6 ≤ 1000000) (hok : LayOk lay f 0 b) (hf : f < b 0 0) (sc : Nat × (Nat → Int32)) (d : Nat) : ∀ (n l : Nat) (S : Nat → Nat → Int32), l + n = b 0 3 → MR S (iter l (stepF lay f) b) → (∀ j, j < b 0 3 → (S 374 j = nI f ↔ lay j = f)) → ∃ S', EX sc (d + 5) 166 4 [.ref 359, .int (nI f), .int (nI l), Jk] [] (mk S) = EX sc (d + 5) 166 6 [.ref 359, .int (nI f), Jk, Jk] [] (mk S') ∧ MR S' (iter (b 0 3) (stepF lay f) b) ∧ RC S S' := by
  have h6 := hw.1
  have h9 := hw.2.1
  intro n
  induction n with
  | zero =>
    intro l S hl h hlay
    refine ⟨S, ?_, ?_, RC.rf _⟩
    · rw [e166_4]
      simp only [O359, oB_s, h.1.2.1]
      rw [iterF_c (by omega), if_pos (by rw [show l = b 0 3 by omega]; exact nI_le (by omega) (by omega))]
    · rw [show b 0 3 = l by omega]; exact h
  | succ n ih =>
    intro l S hl h hlay
    rw [e166_4, e166_5, nI_1]
    simp only [O359, oB_s, h.1.2.1, A374_at (S := S) (show l < 6 by omega), if_true]
    rw [iterF_c (by omega), if_neg (nI_ge (by omega) (by omega))]
    by_cases e : lay l = f
    · rw [if_pos ((hlay l (by omega)).mpr e)]
      have hwl := WF_iter hw hok hf l (by omega)
      have hl1 := LayOk.itr hok (by omega) l (by omega) l (by rw [iterF_c (by omega)]; omega)
      rw [if_neg (by omega)] at hl1
      obtain ⟨S1, k1, k2, k3⟩ := goFall_spec h hwl (by omega) (i := l) (by rw [iterF_c (by omega)]; omega) (by rw [hl1, e, iterF_c (by omega)]; exact hf) sc d
      rw [k1, cV_s, e166_5, nI_1]
      have hs : iter (l + 1) (stepF lay f) b = fallA (iter l (stepF lay f) b) l := if_pos e
      have hr := RC.of k3
      obtain ⟨S2, m1, m2, m3⟩ := ih (l + 1) S1 (by omega) (by rw [hs]; exact k2) (by rw [hr 374 (by omega)]; exact hlay)
      exact ⟨S2, m1, m2, hr.tr m3⟩
    · rw [if_neg (fun q => e ((hlay l (by omega)).mp q))]
      have hs : iter (l + 1) (stepF lay f) b = iter l (stepF lay f) b := if_neg e
      exact ih (l + 1) S (by omega) (by rw [hs]; exact h) hlay
theorem mOuter_spec {B : Nat} {a : Hs} (hw : WFg B a) (hB : B + 60 ≤ 1000000) (sc : Nat × (Nat → Int32)) (d : Nat) :
    ∀ (n f : Nat) (S : Nat → Nat → Int32), f + n = a 0 0 → MR S (iter f (floorA (a 5)) a) → (∀ j, j < a 0 3 → S 374 j = nI (plv a j)) → ∃ S', EX sc (d + 5) 166 3 [.ref 359, .int (nI f), Jk, Jk] [] (mk S) = EX sc (d + 5) 166 7 [.ref 359, Jk, Jk, Jk] [] (mk S') ∧ MR S' (iter (a 0 0) (floorA (a 5)) a) ∧ RC S S' := by
  have h6 := hw.1
  have h9 := hw.2.1
  intro n
  induction n with
  | zero =>
    intro f S hf h hlay
    refine ⟨S, ?_, ?_, RC.rf _⟩
    · rw [e166_3]
      simp only [O359, oB_s, h.1.1]
      rw [iterG_c (by omega), if_pos (by rw [show f = a 0 0 by omega]; exact nI_le (by omega) (by omega))]
    · rw [show a 0 0 = f by omega]; exact h
  | succ n ih =>
    intro f S hf h hlay
    have hwf := WF_floors hw f (by omega)
    have hl := LayOk.floors (a := a) (by omega) f (by omega)
    rw [e166_3]
    simp only [O359, oB_s, h.1.1]
    rw [iterG_c (by omega), if_neg (nI_ge (by omega) (by omega)), show (0 : Int32) = nI 0 from rfl]
    obtain ⟨S1, k1, k2, k3⟩ := mInner_spec hwf (by omega) hl (by rw [iterG_c (by omega)]; omega) sc d _ 0 S (Nat.zero_add _) h (fun j hj => by
      rw [iterG_c (by omega)] at hj
      have := plv_lt hw hj
      rw [hlay j hj, nI_eq (by omega) (by omega)]
      exact plv_q (by omega))
    rw [k1, e166_6, nI_1]
    obtain ⟨S2, m1, m2, m3⟩ := ih (f + 1) S1 (by omega) k2 (by rw [k3 374 (by omega)]; exact hlay)
    exact ⟨S2, m1, m2, k3.tr m3⟩
theorem lay_spec {B : Nat} {a : Hs} (hw : WFg B a) (sc : Nat × (Nat → Int32)) (d : Nat) :
    ∀ (n l : Nat) (S : Nat → Nat → Int32), l + n = a 0 3 → MR S a → (∀ j, j < l → S 374 j = nI (plv a j)) → ∃ S', EX sc (d + 1) 166 1 [.ref 359, .int (nI l), Jk, Jk] [] (mk S) = EX sc (d + 1) 166 2 [.ref 359, Jk, Jk, Jk] [] (mk S') ∧ MR S' a ∧ (∀ j, j < a 0 3 → S' 374 j = nI (plv a j)) ∧ FT S S' := by
  have h6 := hw.1
  intro n
  induction n with
  | zero =>
    intro l S hl h hlay
    refine ⟨S, ?_, h, ?_, FT.rf _⟩
    · rw [e166_1]
      simp only [O359, oB_s, h.1.2.1]
      rw [if_pos (by rw [show l = a 0 3 by omega]; exact nI_le (by omega) (by omega))]
    · rw [show a 0 3 = l by omega]; exact hlay
  | succ n ih =>
    intro l S hl h hlay
    rw [e166_1]
    simp only [O359, oB_s, h.1.2.1, A373_at (S := S) (show l < 32 by omega), (h.2.1.1 l (by omega)).1, A374_st (S := S) (show l < 6 by omega)]
    rw [if_neg (nI_ge (by omega) (by omega)), nI_1]
    have hf : FT S (up S 374 l (nI (plv a l))) := fun k _ hk => up_row_ne hk
    obtain ⟨S1, k1, k2, k3, k4⟩ := ih (l + 1) (up S 374 l (nI (plv a l))) (by omega) ⟨h.1.ft hf, by rw [up_row_ne (by omega)]; exact h.2.1, by rw [up_row_ne (by omega)]; exact h.2.2⟩ (fun j hj => by
      rw [up_at]
      by_cases e : j = l
      · rw [if_pos ⟨rfl, e⟩, e]
      · rw [if_neg (fun q => e q.2)]; exact hlay j (by omega))
    exact ⟨S1, k1, k2, k3, hf.tr k4⟩
theorem mCome_spec {B : Nat} {a : Hs} (hw : WFg B a) (sc : Nat × (Nat → Int32)) (d : Nat) :
    ∀ (n k : Nat) (S : Nat → Nat → Int32), k + n = a 0 3 → MR S (iter k comeA a) → ∃ S', EX sc (d + 4) 166 8 [.ref 359, .int (nI k), Jk, Jk] [] (mk S) = EX sc (d + 4) 166 13 [.ref 359, Jk, Jk, Jk] [] (mk S') ∧ MR S' (iter (a 0 3) comeA a) ∧ RC S S' := by
  have h6 := hw.1
  have h9 := hw.2.1
  have ht := hw.2.2.2.1
  intro n
  induction n with
  | zero =>
    intro k S hk h
    refine ⟨S, ?_, ?_, RC.rf _⟩
    · rw [e166_8]
      simp only [O359, oB_s, h.1.2.1]
      rw [iterC_c (by omega), if_pos (by rw [show k = a 0 3 by omega]; exact nI_le (by omega) (by omega))]
    · rw [show a 0 3 = k by omega]; exact h
  | succ n ih =>
    intro k S hk h
    have hwk := WF_iterC hw k (by omega)
    have key : ∀ b : Hs, WFg B b → b 0 3 = a 0 3 → (∀ j, j < b 0 3 → b 8 j < b 0 3) → MR S b → (∀ S1, MR S1 (comeA k b) → RC S S1 → ∃ S', EX sc (d + 4) 166 8 [.ref 359, .int (nI (k + 1)), Jk, Jk] [] (mk S1) = EX sc (d + 4) 166 13 [.ref 359, Jk, Jk, Jk] [] (mk S') ∧ MR S' (iter (a 0 3) comeA a) ∧ RC S S') → ∃ S', EX sc (d + 4) 166 8 [.ref 359, .int (nI k), Jk, Jk] [] (mk S) = EX sc (d + 4) 166 13 [.ref 359, Jk, Jk, Jk] [] (mk S') ∧ MR S' (iter (a 0 3) comeA a) ∧ RC S S' := by
      intro b hwb hb3 hb8 hM next
      have hi := hb8 k (by omega)
      obtain ⟨i, hie⟩ : ∃ i, i = b 8 k := ⟨_, rfl⟩
      rw [← hie] at hi
      obtain ⟨w1, w2, w3, w4, w5, w6, w7, w8⟩ := hwb.2.2.2.2.2 i hi
      obtain ⟨r1, r2, r3, r4, r5⟩ := hM.2.1.1 i hi
      have hb9 := hwb.2.1
      have htb := hwb.2.2.2.1
      have hpv := plv_lt hwb hi
      have e18 : (18 : Int32) + nI i = nI (18 + i) := by rw [show (18 : Int32) = nI 18 from rfl, nI_add]
      have e24 : (24 : Int32) + nI i = nI (24 + i) := by rw [show (24 : Int32) = nI 24 from rfl, nI_add]
      have hr := mRoom_eq hM.q hwb (q := b 2 i) (i := i) (by omega) hi sc d
      have hst : ∀ v w, w = nI v → (v = b 2 i ∧ comeA k b = upA b 5 i (b 2 i) ∨ v = plv b i ∧ comeA k b = b) → ∃ S', EX sc (d + 4) 166 12 [.ref 359, .int (nI k), Jk, Jk] [.int w, .int (nI i), .ref 373] (mk S) = EX sc (d + 4) 166 13 [.ref 359, Jk, Jk, Jk] [] (mk S') ∧ MR S' (iter (a 0 3) comeA a) ∧ RC S S' := by
        intro v w hv hc
        rw [e166_12, hv, A373_st (S := S) (show i < 32 by omega), oB_s, nI_1]
        refine next _ ?_ RC.up
        rcases hc with ⟨c1, c2⟩ | ⟨c1, c2⟩
        · rw [c1, c2]; exact MR_pl hM hwb.1 hi (by omega)
        · rw [c2, c1, ← r1]
          have : up S 373 i (S 373 i) = S := by
            unfold up
            rw [upd_self, vup_id]
          rw [this]; exact hM
      have no : comeA k b = b → ∃ S', EX sc (d + 4) 166 10 [.ref 359, .int (nI k), .int (nI i), Jk] [.int 0] (mk S) = EX sc (d + 4) 166 13 [.ref 359, Jk, Jk, Jk] [] (mk S') ∧ MR S' (iter (a 0 3) comeA a) ∧ RC S S' := by
        intro hc
        rw [e166_10]
        simp only [O359, oB_s]
        rw [if_pos trivial, e166_11]
        simp only [O359, oB_s, A373_at (S := S) (show i < 32 by omega), r1]
        exact hst (plv b i) _ rfl (Or.inr ⟨rfl, hc⟩)
      rw [e166_8]
      simp only [O359, oB_s, hM.1.2.1, hb3, A375_at (S := S) (show k < 6 by omega), hM.2.2 k (by omega), ← hie, A373_at (S := S) (show i < 32 by omega), r1, e18, A373_at (S := S) (show 18 + i < 32 by omega), r4, show (31 : Int32) = nI 31 from rfl, A373_at (S := S) (show 31 < 32 by omega), hM.2.1.2.2, e24, A373_at (S := S) (show 24 + i < 32 by omega), r5, if_true, hr, cI_s]
      rw [if_neg (nI_ge (by omega) (by omega)), e166_9]
      have ecome : comeA k b = if b 5 i = 20 ∧ (b 0 4).testBit i = false ∧ b 4 i ≤ b 0 2 ∧ roomS b i (b 2 i) = true then upA b 5 i (b 2 i) else b := by
        unfold comeA
        rw [← hie]
      have e20 : (nI (plv b i) = 20) ↔ (b 5 i = 20 ∧ (b 0 4).testBit i = false) := by
        rw [show (20 : Int32) = nI 20 from rfl, nI_eq (by omega) (by omega)]
        unfold plv
        cases hq : (b 0 4).testBit i with
        | true => by_cases q2 : b 5 i = 20 <;> simp [q2]
        | false => simp
      by_cases c1 : b 5 i = 20 ∧ (b 0 4).testBit i = false
      · rw [if_pos (e20.mpr c1)]
        have est : (nI (b 0 2) < nI (b 4 i)) ↔ b 0 2 < b 4 i := nI_ltI (by omega) (by omega)
        by_cases c2 : b 4 i ≤ b 0 2
        · rw [if_neg (fun q => by have := est.mp q; omega)]
          by_cases c3 : roomS b i (b 2 i) = true
          · rw [if_pos c3, if_neg (show ¬ (1 : Int32) = 0 by decide), e166_10]
            simp only [O359, oB_s, e24, A373_at (S := S) (show 24 + i < 32 by omega), r5]
            rw [if_neg (show ¬ (1 : Int32) = 0 by decide)]
            exact hst (b 2 i) _ rfl (Or.inl ⟨rfl, by rw [ecome, if_pos ⟨c1.1, c1.2, c2, c3⟩]⟩)
          · rw [if_neg c3, if_pos rfl]
            exact no (by rw [ecome, if_neg (fun q => c3 q.2.2.2)])
        · rw [if_pos (est.mpr (by omega))]
          exact no (by rw [ecome, if_neg (fun q => c2 q.2.2.1)])
      · rw [if_neg (fun q => c1 (e20.mp q))]
        exact no (by rw [ecome, if_neg (fun q => c1 ⟨q.1, q.2.1⟩)])
    refine key (iter k comeA a) hwk (by rw [iterC_c (by omega)]) (fun j hj => (hwk.2.2.2.2.2 j hj).2.2.2.2.2.2.2) h (fun S1 h1 hr => ?_)
    obtain ⟨S2, m1, m2, m3⟩ := ih (k + 1) S1 (by omega) h1
    exact ⟨S2, m1, m2, hr.tr m3⟩
theorem MR_tick {S : Nat → Nat → Int32} {a : Hs} (h : MR S a) (h6 : a 0 3 ≤ 6) {v : Nat} : MR (up S 373 31 (nI v)) (upA a 0 2 v) := by
  obtain ⟨h1, ⟨h2, h3, h4⟩, h5⟩ := h
  have g : MSt (up S 373 31 (nI v)) a := h1.ft RC.up.ft
  refine ⟨g, ⟨fun l hl => ?_, ?_, ?_⟩, fun k hk => ?_⟩
  · have hl' : l < a 0 3 := hl
    obtain ⟨g1, g2, g3, g4, g5⟩ := h2 l hl'
    simp only [up_at, true_and]
    refine ⟨?_, ?_, ?_, ?_, ?_⟩
    · rw [if_neg (by omega)]; exact g1
    · rw [if_neg (by omega)]; exact g2
    · rw [if_neg (by omega)]; exact g3
    · rw [if_neg (by omega)]; exact g4
    · rw [if_neg (by omega)]; exact g5
  · rw [up_at, if_neg (by omega)]; exact h3
  · rw [up_same, upA_same]
  · rw [up_row_ne (by omega)]; exact h5 k hk
theorem goTick_spec {S : Nat → Nat → Int32} {a : Hs} {B : Nat} (h : MR S a) (hw : WFg B a) (hB : B + 60 ≤ 1000000) (sc : Nat × (Nat → Int32)) (d : Nat) : ∃ S', EX sc (d + 5) 166 0 [.ref 359, Jk, Jk, Jk] [] (mk S) = some (none, mk S') ∧ MR S' (tickS a) ∧ FT S S' := by
  have h6 := hw.1
  have h9 := hw.2.1
  rw [e166_0, show (0 : Int32) = nI 0 from rfl]
  obtain ⟨S1, k1, k2, k3, k4⟩ := lay_spec hw sc (d + 4) (a 0 3) 0 S (Nat.zero_add _) h (fun j hj => by omega)
  rw [k1, e166_2, show (0 : Int32) = nI 0 from rfl]
  obtain ⟨S2, m1, m2, m3⟩ := mOuter_spec hw hB sc d (a 0 0) 0 S1 (Nat.zero_add _) k2 k3
  have hw1 := WF_floors hw (a 0 0) (Nat.le_refl _)
  have c : ∀ c, c ≠ 5 ∧ c ≠ 6 ∧ c ≠ 7 → (iter (a 0 0) (floorA (a 5)) a) c = a c := fun c hc => iterG_c hc _
  rw [m1, e166_7, show (0 : Int32) = nI 0 from rfl]
  obtain ⟨S3, p1, p2, p3⟩ := mCome_spec hw1 sc (d + 1) _ 0 S2 (Nat.zero_add _) m2
  have ct : (iter (iter (a 0 0) (floorA (a 5)) a 0 3) comeA (iter (a 0 0) (floorA (a 5)) a)) 0 2 = a 0 2 := by rw [iterC_c (by omega), c 0 (by omega)]
  have hw2 := WF_iterC hw1 _ (Nat.le_refl _)
  rw [p1, e166_13]
  simp only [O359, oB_s, show (31 : Int32) = nI 31 from rfl, A373_at (S := S3) (show 31 < 32 by omega), p2.2.1.2.2, ct, nI_1, A373_st (S := S3) (show 31 < 32 by omega)]
  refine ⟨_, rfl, ?_, k4.tr (m3.ft.tr (p3.ft.tr RC.up.ft))⟩
  have := MR_tick p2 hw2.1 (v := a 0 2 + 1)
  rw [c 0 (by omega)] at this
  exact this
