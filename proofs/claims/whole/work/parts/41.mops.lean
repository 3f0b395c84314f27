/-! the reference: its helpers -/
/-- a row copied into another, or down in itself -/
def cpR (S : Nat → Nat → Int32) (dst src b a n : Nat) : Nat → Nat → Int32 := va_up S dst (fun j => if b ≤ j ∧ j < b + n then S src (a + (j - b)) else S dst j)
theorem cpR_0 (S : Nat → Nat → Int32) (dst src b a : Nat) : cpR S dst src b a 0 = S := by
  unfold cpR
  have : (fun j => if b ≤ j ∧ j < b + 0 then S src (a + (j - b)) else S dst j) = S dst := funext fun j => if_neg (by omega)
  rw [this, vup_id]
theorem cpR_ne {S : Nat → Nat → Int32} {dst src b a n k : Nat} (h : k ≠ dst) : cpR S dst src b a n k = S k := vup_ne h
theorem cpR_at {S : Nat → Nat → Int32} {dst src b a n j : Nat} (h1 : b ≤ j) (h2 : j < b + n) : cpR S dst src b a n dst j = S src (a + (j - b)) := by
  unfold cpR
  rw [vup_at, if_pos ⟨h1, h2⟩]
theorem cpR_out {S : Nat → Nat → Int32} {dst src b a n j : Nat} (h : ¬ (b ≤ j ∧ j < b + n)) : cpR S dst src b a n dst j = S dst j := by
  unfold cpR
  rw [vup_at, if_neg h]
theorem cpR_step {S : Nat → Nat → Int32} {dst src b a n : Nat} (h : src ≠ dst ∨ b ≤ a) : up (cpR S dst src b a n) dst (b + n) (cpR S dst src b a n src (a + n)) = cpR S dst src b a (n + 1) := by
  have hv : cpR S dst src b a n src (a + n) = S src (a + n) := by
    by_cases e : src = dst
    · subst e
      exact cpR_out (by omega)
    · rw [cpR_ne e]
  rw [hv]
  funext k j
  rw [up_at]
  by_cases hk : k = dst
  · subst hk
    by_cases hj : j = b + n
    · subst hj
      rw [if_pos ⟨rfl, rfl⟩, cpR_at (by omega) (by omega)]
      congr 1
      omega
    · rw [if_neg (fun q => hj q.2)]
      by_cases hj2 : b ≤ j ∧ j < b + n
      · rw [cpR_at hj2.1 hj2.2, cpR_at hj2.1 (by omega)]
      · rw [cpR_out hj2, cpR_out (by omega)]
  · rw [if_neg (fun q => hk q.1), cpR_ne hk, cpR_ne hk]
/-- a loop that counts up to N -/
theorem loopN {N : Nat} (F : Nat → (Nat → Nat → Int32) → Option Res) (G : (Nat → Nat → Int32) → Option Res) (T : Nat → Nat → Nat → Int32) (h1 : F N (T N) = G (T N)) (h2 : ∀ k, k < N → F k (T k) = F (k + 1) (T (k + 1))) : ∀ n k, k + n = N → F k (T k) = G (T N) := by
  intro n
  induction n with
  | zero => intro k hk; rw [show k = N by omega]; exact h1
  | succ n ih => intro k hk; rw [h2 k (by omega)]; exact ih (k + 1) (by omega)
theorem A365_at {S : Nat → Nat → Int32} {j : Nat} (h : j < 32) : aI (mk S) 365 (nI j) = some (S 365 j) := aI_at A365 h (by omega)
theorem A365_st {S : Nat → Nat → Int32} {j : Nat} (h : j < 32) (x : Int32) : sI (mk S) 365 (nI j) x = some (mk (up S 365 j x)) := sI_at A365 h (by omega) x
theorem aside_eq (S : Nat → Nat → Int32) (sc : Nat × (Nat → Int32)) (d : Nat) : EX sc (d + 1) 156 0 [.ref 359, Jk] [] (mk S) = some (none, mk (cpR S 373 365 0 0 32)) := by
  rw [e156_0]
  have := loopN (N := 32) (fun k T => EX sc (d + 1) 156 1 [.ref 359, .int (nI k)] [] (mk T)) (fun T => some (none, mk T)) (fun k => cpR S 373 365 0 0 k) (by
    show EX sc (d + 1) 156 1 _ _ _ = _
    rw [e156_1, e156_2, if_pos (by decide)]) (fun k hk => by
    show EX sc (d + 1) 156 1 _ _ _ = EX sc (d + 1) 156 1 _ _ _
    rw [e156_1, if_neg (show ¬ (32 : Int32) ≤ nI k from nI_ge (b := 32) (by omega) (by omega))]
    simp only [O359, oB_s, A365_at (S := cpR S 373 365 0 0 k) (show k < 32 by omega), A373_st (S := cpR S 373 365 0 0 k) (show k < 32 by omega), nI_1]
    have := cpR_step (S := S) (dst := 373) (src := 365) (b := 0) (a := 0) (n := k) (Or.inl (by omega))
    rw [Nat.zero_add] at this
    rw [this]) 32 0 (by omega)
  rw [cpR_0] at this
  exact this
theorem take_eq (S : Nat → Nat → Int32) (sc : Nat × (Nat → Int32)) (d : Nat) : EX sc (d + 1) 157 0 [.ref 359, Jk] [] (mk S) = some (none, mk (cpR S 365 373 0 0 32)) := by
  rw [e157_0]
  have := loopN (N := 32) (fun k T => EX sc (d + 1) 157 1 [.ref 359, .int (nI k)] [] (mk T)) (fun T => some (none, mk T)) (fun k => cpR S 365 373 0 0 k) (by
    show EX sc (d + 1) 157 1 _ _ _ = _
    rw [e157_1, e157_2, if_pos (by decide)]) (fun k hk => by
    show EX sc (d + 1) 157 1 _ _ _ = EX sc (d + 1) 157 1 _ _ _
    rw [e157_1, if_neg (show ¬ (32 : Int32) ≤ nI k from nI_ge (b := 32) (by omega) (by omega))]
    simp only [O359, oB_s, A373_at (S := cpR S 365 373 0 0 k) (show k < 32 by omega), A365_st (S := cpR S 365 373 0 0 k) (show k < 32 by omega), nI_1]
    have := cpR_step (S := S) (dst := 365) (src := 373) (b := 0) (a := 0) (n := k) (Or.inl (by omega))
    rw [Nat.zero_add] at this
    rw [this]) 32 0 (by omega)
  rw [cpR_0] at this
  exact this
theorem MRow.congr {R R' : Nat → Int32} {a : Hs} (h : MRow R a) (h6 : a 0 3 ≤ 6) (he : ∀ j, j < 32 → R' j = R j) : MRow R' a := by
  obtain ⟨h1, h2, h3⟩ := h
  refine ⟨fun l hl => ?_, ?_, ?_⟩
  · rw [he l (by omega), he (6 + l) (by omega), he (12 + l) (by omega), he (18 + l) (by omega), he (24 + l) (by omega)]
    exact h1 l hl
  · rw [he 30 (by omega)]; exact h2
  · rw [he 31 (by omega)]; exact h3
/-- only the rows aside have changed -/
def FM (S S' : Nat → Nat → Int32) : Prop := ∀ k, ¬ (373 ≤ k ∧ k ≤ 375) → S' k = S k
theorem FM.rf (S : Nat → Nat → Int32) : FM S S := fun _ _ => rfl
theorem FM.tr {S S' S'' : Nat → Nat → Int32} (h1 : FM S S') (h2 : FM S' S'') : FM S S'' := fun k a => (h2 k a).trans (h1 k a)
theorem FT.fm {S S' : Nat → Nat → Int32} (h : FT S S') : FM S S' := fun k hk => h k (by omega) (by omega)
theorem RC.fm {S S' : Nat → Nat → Int32} (h : RC S S') : FM S S' := fun k hk => h k (by omega)
theorem MSt.fm {S S' : Nat → Nat → Int32} {a : Hs} (h : MSt S a) (hf : FM S S') : MSt S' a := by
  unfold MSt at h ⊢
  rw [hf 359 (by omega), hf 363 (by omega), hf 364 (by omega)]
  exact h
/-- the row aside, with no word of the ranks -/
def MS (S : Nat → Nat → Int32) (a : Hs) : Prop := MSt S a ∧ MRow (S 373) a
theorem MS.q {S : Nat → Nat → Int32} {a : Hs} (h : MS S a) : MRq S a := ⟨h.1, h.2, trivial⟩
theorem aside_spec {S : Nat → Nat → Int32} {a : Hs} (h : MSt S a) (hr : MRow (S 365) a) (h6 : a 0 3 ≤ 6) (sc : Nat × (Nat → Int32)) (d : Nat) : ∃ S', EX sc (d + 1) 156 0 [.ref 359, Jk] [] (mk S) = some (none, mk S') ∧ MS S' a ∧ RC S S' := by
  have hf : RC S (cpR S 373 365 0 0 32) := fun k hk => cpR_ne hk
  exact ⟨_, aside_eq S sc d, ⟨h.fm hf.fm, hr.congr h6 (fun j hj => by rw [cpR_at (by omega) (by omega)]; congr 1; omega)⟩, hf⟩
theorem byNumbers_spec (S : Nat → Nat → Int32) (sc : Nat × (Nat → Int32)) (d : Nat) : ∃ S', EX sc (d + 1) 165 0 [.ref 359, Jk] [] (mk S) = some (none, mk S') ∧ (∀ k, k < 6 → S' 375 k = nI k) ∧ ∀ k, k ≠ 375 → S' k = S k := by
  have loop : ∀ (n k : Nat) (T : Nat → Nat → Int32), k + n = 6 → (∀ j, j < k → T 375 j = nI j) → (∀ j, j ≠ 375 → T j = S j) → ∃ S', EX sc (d + 1) 165 1 [.ref 359, .int (nI k)] [] (mk T) = some (none, mk S') ∧ (∀ k, k < 6 → S' 375 k = nI k) ∧ ∀ k, k ≠ 375 → S' k = S k := by
    intro n
    induction n with
    | zero =>
      intro k T hk h1 h2
      refine ⟨T, ?_, by rw [show 6 = k by omega]; exact h1, h2⟩
      rw [e165_1, e165_2, if_pos (show (6 : Int32) ≤ nI k from nI_le (a := 6) (by omega) (by omega))]
    | succ n ih =>
      intro k T hk h1 h2
      rw [e165_1, if_neg (show ¬ (6 : Int32) ≤ nI k from nI_ge (b := 6) (by omega) (by omega))]
      simp only [O359, oB_s, A375_st (S := T) (show k < 6 by omega), nI_1]
      refine ih (k + 1) _ (by omega) (fun j hj => ?_) (fun j hj => ?_)
      · rw [up_at]
        by_cases e : j = k
        · rw [if_pos ⟨rfl, e⟩, e]
        · rw [if_neg (fun q => e q.2)]; exact h1 j (by omega)
      · rw [up_row_ne hj]; exact h2 j hj
  rw [e165_0]
  exact loop 6 0 S (by omega) (fun j hj => by omega) (fun _ _ => rfl)
/-- ranks by the numbers -/
def RkId (a : Hs) : Prop := ∀ k, k < a 0 3 → a 8 k = k
theorem MS_num {S S' : Nat → Nat → Int32} {a : Hs} (h : MS S a) (hr : RkId a) (h6 : a 0 3 ≤ 6) (h1 : ∀ k, k < 6 → S' 375 k = nI k) (h2 : ∀ k, k ≠ 375 → S' k = S k) : MR S' a :=
  ⟨h.1.fm (fun k hk => h2 k (by omega)), by rw [h2 373 (by omega)]; exact h.2, fun k hk => by rw [h1 k (by omega), hr k hk]⟩
theorem goTicks_spec {S : Nat → Nat → Int32} {N : Nat} {a : Hs} (h : MS S a) (hr : RkId a) (hw : OkT N a) (hN : N < 10000) (sc : Nat × (Nat → Int32)) (d : Nat) : ∃ S', EX sc (d + 6) 167 0 [.ref 359, .int (nI N), Jk] [] (mk S) = some (none, mk S') ∧ MR S' (tk N a) ∧ FM S S' := by
  have loop : ∀ (n k : Nat) (T : Nat → Nat → Int32) (b : Hs), k + n = N → MR T b → OkT n b → ∃ S', EX sc (d + 6) 167 1 [.ref 359, .int (nI N), .int (nI k)] [] (mk T) = some (none, mk S') ∧ MR S' (tk n b) ∧ FM T S' := by
    intro n
    induction n with
    | zero =>
      intro k T b hk h1 h2
      refine ⟨T, ?_, h1, FM.rf _⟩
      rw [e167_1, e167_2, if_pos (nI_le (by omega) (by omega))]
    | succ n ih =>
      intro k T b hk h1 h2
      rw [e167_1, if_neg (nI_ge (by omega) (by omega))]
      simp only [O359, if_true]
      obtain ⟨T1, k1, k2, k3⟩ := goTickT h1 h2 sc d
      rw [k1, cV_s, nI_1]
      obtain ⟨T2, m1, m2, m3⟩ := ih (k + 1) T1 (tickS b) (by omega) k2 h2.tick
      exact ⟨T2, m1, m2, k3.fm.tr m3⟩
  obtain ⟨S1, b1, b2, b3⟩ := byNumbers_spec S sc (d + 4)
  rw [e167_0]
  simp only [O359, if_true, b1, cV_s]
  obtain ⟨S2, m1, m2, m3⟩ := loop N 0 S1 a (by omega) (MS_num h hr hw.l6 b2 b3) hw
  exact ⟨S2, m1, m2, FM.tr (fun k hk => b3 k (by omega)) m3⟩
theorem MR.ms {S : Nat → Nat → Int32} {a : Hs} (h : MR S a) : MS S a := ⟨h.1, h.2.1⟩
theorem or_I : ∀ b, b < 64 → ∀ i, i < 6 → nI b ||| (1 <<< (nI i &&& 31)) = nI (setB b i) := set_I
theorem set_add {b i : Nat} (hb : b < 2 ^ i) : setB b i = b + 2 ^ i := by
  unfold setB
  have := Nat.two_pow_add_eq_or_of_lt hb 1
  rw [Nat.mul_one] at this
  rw [Nat.or_comm, ← this, Nat.add_comm]
theorem or_0 (x : Int32) : x ||| 0 = x := by
  apply Int32.toBitVec_inj.mp
  simp
theorem boxed_spec {S : Nat → Nat → Int32} {a : Hs} {B : Nat} (h : MS S a) (hw : WFg B a) (sc : Nat × (Nat → Int32)) (d : Nat) : EX sc (d + 1) 168 0 [.ref 359, Jk, Jk] [] (mk S) = some (some (.int (nI (ly a 21))), mk S) := by
  have h6 := hw.1
  have loop : ∀ n i, i + n = a 0 3 → EX sc (d + 1) 168 1 [.ref 359, .int (nI (lyN (a 5) 21 i)), .int (nI i)] [] (mk S) = some (some (.int (nI (ly a 21))), mk S) := by
    intro n
    induction n with
    | zero =>
      intro i hi
      rw [e168_1, e168_4]
      simp only [O359, oB_s, h.1.2.1]
      rw [if_pos (nI_le (by omega) (by omega)), show i = a 0 3 by omega]
      rfl
    | succ n ih =>
      intro i hi
      have hn := ih (i + 1) (by omega)
      have hp := plv_lt hw (show i < a 0 3 by omega)
      rw [e168_1, ]
      simp only [O359, oB_s, h.1.2.1, A373_at (S := S) (show i < 32 by omega), (h.2.1 i (by omega)).1]
      rw [if_neg (nI_ge (by omega) (by omega)), e168_2, e168_3, e168_3, nI_1, or_I _ (lyN_64 (by omega)) i (by omega), or_0, set_add (lyN_lt _ _ _)]
      have e : (nI (plv a i) = 21) ↔ a 5 i = 21 := by
        rw [show (21 : Int32) = nI 21 from rfl, nI_eq (by omega) (by omega)]
        unfold plv
        split <;> omega
      unfold lyN at hn
      by_cases c : a 5 i = 21
      · rw [if_pos (e.mpr c)]
        rw [if_pos c] at hn
        exact hn
      · rw [if_neg (fun q => c (e.mp q))]
        rw [if_neg c, Nat.add_zero] at hn
        exact hn
  rw [e168_0]
  exact loop (a 0 3) 0 (by omega)
theorem waiting_spec {S : Nat → Nat → Int32} {a : Hs} {B : Nat} (h : MS S a) (hw : WFg B a) (h4 : a 0 4 = 0) (sc : Nat × (Nat → Int32)) (d : Nat) : EX sc (d + 1) 169 0 [.ref 359, Jk, Jk] [] (mk S) = some (some (.int (nI (ly a 20))), mk S) := by
  have h6 := hw.1
  have loop : ∀ n i, i + n = a 0 3 → EX sc (d + 1) 169 1 [.ref 359, .int (nI (lyN (a 5) 20 i)), .int (nI i)] [] (mk S) = some (some (.int (nI (ly a 20))), mk S) := by
    intro n
    induction n with
    | zero =>
      intro i hi
      rw [e169_1, e169_4]
      simp only [O359, oB_s, h.1.2.1]
      rw [if_pos (nI_le (by omega) (by omega)), show i = a 0 3 by omega]
      rfl
    | succ n ih =>
      intro i hi
      have hn := ih (i + 1) (by omega)
      have hp := plv_lt hw (show i < a 0 3 by omega)
      rw [e169_1, ]
      simp only [O359, oB_s, h.1.2.1, A373_at (S := S) (show i < 32 by omega), (h.2.1 i (by omega)).1]
      rw [if_neg (nI_ge (by omega) (by omega)), e169_2, e169_3, e169_3, nI_1, or_I _ (lyN_64 (by omega)) i (by omega), or_0, set_add (lyN_lt _ _ _)]
      have e : (nI (plv a i) = 20) ↔ a 5 i = 20 := by
        rw [show (20 : Int32) = nI 20 from rfl, nI_eq (by omega) (by omega)]
        unfold plv
        rw [h4]
        simp
      unfold lyN at hn
      by_cases c : a 5 i = 20
      · rw [if_pos (e.mpr c)]
        rw [if_pos c] at hn
        exact hn
      · rw [if_neg (fun q => c (e.mp q))]
        rw [if_neg c, Nat.add_zero] at hn
        exact hn
  rw [e169_0]
  exact loop (a 0 3) 0 (by omega)
theorem everyone_eq {S : Nat → Nat → Int32} {a : Hs} (h : MSt S a) (h6 : a 0 3 ≤ 6) (sc : Nat × (Nat → Int32)) (d : Nat) : EX sc (d + 1) 170 0 [.ref 359] [] (mk S) = some (some (.int (nI (2 ^ (a 0 3) - 1))), mk S) := by
  rw [e170_0]
  simp only [O359, oB_s, h.2.1, all_I _ h6]
theorem stuckAll_eq {S : Nat → Nat → Int32} {a : Hs} (h : MS S a) (h6 : a 0 3 ≤ 6) (sc : Nat × (Nat → Int32)) (d : Nat) : EX sc (d + 1) 171 0 [.ref 359, Jk, Jk] [] (mk S) = some (some (.int (nI (sumN (a 6) (a 0 3)))), mk S) := by
  have loop : ∀ n i, i + n = a 0 3 → EX sc (d + 1) 171 1 [.ref 359, .int (nI (sumN (a 6) i)), .int (nI i)] [] (mk S) = some (some (.int (nI (sumN (a 6) (a 0 3)))), mk S) := by
    intro n
    induction n with
    | zero =>
      intro i hi
      rw [e171_1, e171_2]
      simp only [O359, oB_s, h.1.2.1]
      rw [if_pos (nI_le (by omega) (by omega)), show i = a 0 3 by omega]
    | succ n ih =>
      intro i hi
      rw [e171_1]
      simp only [O359, oB_s, h.1.2.1, show (6 : Int32) = nI 6 from rfl, nI_add, A373_at (S := S) (show 6 + i < 32 by omega), (h.2.1 i (by omega)).2.1, nI_1]
      rw [if_neg (nI_ge (by omega) (by omega))]
      exact ih (i + 1) (by omega)
  rw [e171_0]
  exact loop (a 0 3) 0 (by omega)
theorem isShaft_eq {S : Nat → Nat → Int32} {a : Hs} {B : Nat} (h : MS S a) (hw : WFg B a) {i : Nat} (hi : i < a 0 3) (sc : Nat × (Nat → Int32)) (d : Nat) : EX sc (d + 1) 162 0 [.ref 359, .int (nI i)] [] (mk S) = some (some (.int (if a 5 i < 20 then 1 else 0)), mk S) := by
  have h6 := hw.1
  have hp := plv_lt hw hi
  rw [e162_0, e162_1]
  simp only [O359, oB_s, A373_at (S := S) (show i < 32 by omega), (h.2.1 i hi).1, or_true, true_or, if_true]
  have e : ((20 : Int32) ≤ nI (plv a i)) ↔ ¬ a 5 i < 20 := by
    rw [show (20 : Int32) = nI 20 from rfl, nI_leI (by omega) (by omega)]
    unfold plv
    split <;> omega
  by_cases c : a 5 i < 20
  · rw [if_neg (fun q => e.mp q c), if_pos c]
  · rw [if_pos (e.mpr c), if_neg c]
