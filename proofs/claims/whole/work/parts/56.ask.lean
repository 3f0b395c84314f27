/-! as, ask -/
def lvX (X : Xs) (b : Int32) : Xs := X.wtrace (upd X.tr X.tn b) (X.tn + 1)
theorem XOk_lv {X : Xs} (h : XOk X) (hn : X.tn < 16) (b : Int32) : XOk (lvX X b) := ⟨h.1, h.2.1, show X.tn + 1 ≤ 16 by omega, h.2.2.2⟩
theorem CR_tr {S S' : Nat → Nat → Int32} {X : Xs} {f : Nat → Int32} {n : Nat} (h : CR S X) (hf : ∀ k, k ≠ 15 → k ≠ 16 → S' k = S k) (ht : S' 15 1 = nI n ∧ ∀ j, j < n → S' 16 j = f j) : CR S' (X.wtrace f n) := by
  exact ⟨h.shelf.cg (fun k h1 h2 => hf k (by omega) (by omega)), by rw [hf 0 (by omega) (by omega)]; exact h.st, by rw [hf 0 (by omega) (by omega)]; exact h.fl, by rw [hf 13 (by omega) (by omega), hf 14 (by omega) (by omega)]; exact h.tape, ht, h.now.cg (fun k h1 h2 => hf k (by omega) (by omega)), by obtain ⟨b, hb⟩ := h.draft; exact ⟨b, hb.cg (fun k h1 h2 => hf k (by omega) (by omega))⟩, h.acts.cg (by rw [hf 0 (by omega) (by omega)]) (by rw [hf 0 (by omega) (by omega)]) (fun k h1 h2 => hf k (by omega) (by omega)), fun k hk => (h.img k hk).cg (fun k h1 h2 => hf k (by omega) (by omega)), h.cache.cg (by rw [hf 45 (by omega) (by omega)]) (by rw [hf 45 (by omega) (by omega)]) (hf 69 (by omega) (by omega))⟩
theorem MP_tr {S S' : Nat → Nat → Int32} {X : Xs} {f : Nat → Int32} {n : Nat} (h : MP S X) (hX : XOk X) (hf : ∀ k, k ≠ 359 → k ≠ 369 → S' k = S k) (hg : ∀ j, j ≠ 18 → S' 359 j = S 359 j) (ht : S' 359 18 = nI n ∧ ∀ j, j < n → S' 369 j = f j) : MP S' (X.wtrace f n) := by
  exact ⟨by rw [hf 360 (by omega) (by omega), hf 361 (by omega) (by omega), hf 362 (by omega) (by omega)]; exact h.shelf, by rw [hg 3 (by omega)]; exact h.st, by rw [hg 16 (by omega)]; exact h.fl, by rw [hg 14 (by omega), hf 368 (by omega) (by omega)]; exact h.tape, ht, by rw [hg 29 (by omega)]; exact h.none, h.stat.cg hX.l6 h.none (hg 4 (by omega)) (hg 5 (by omega)) (hg 29 (by omega)) (hf 363 (by omega) (by omega)) (hf 364 (by omega) (by omega)), by rw [hf 365 (by omega) (by omega)]; exact h.now, by rw [hg 6 (by omega)]; exact h.has, by rw [hg 11 (by omega), hf 366 (by omega) (by omega)]; exact h.acts, by rw [hg 13 (by omega), hf 367 (by omega) (by omega)]; exact h.img⟩
def AskC (S : Nat → Nat → Int32) (X : Xs) (l t k : Int32) : Prop := CR S X ∧ S 15 2 = l ∧ S 15 3 = t ∧ S 15 4 = k
theorem leaveC {S : Nat → Nat → Int32} {X : Xs} {l t k : Int32} (h : AskC S X l t k) (hn : X.tn < 16) (b : Int32) (sc : Nat × (Nat → Int32)) (d : Nat) : ∃ S', EX sc (d + 1) 2 0 [.ref 15, .int b] [] (mk S) = some (none, mk S') ∧ AskC S' (lvX X b) l t k ∧ FrC S S' := by
  obtain ⟨hC, h2, h3, h4⟩ := h
  have hS' : ∃ S', S' = up (up S 16 X.tn b) 15 1 (nI (X.tn + 1)) := ⟨_, rfl⟩
  obtain ⟨S', hS'⟩ := hS'
  have hf : ∀ k, k ≠ 15 → k ≠ 16 → S' k = S k := fun k a b => by rw [hS', up_row_ne a, up_row_ne b]
  have hg : ∀ j, j ≠ 1 → S' 15 j = S 15 j := fun j a => by rw [hS', up_ne (by omega), up_row_ne (by omega)]
  refine ⟨S', ?_, ⟨CR_tr hC hf ⟨by rw [hS', up_same], fun j hj => ?_⟩, by rw [hg 2 (by omega)]; exact h2, by rw [hg 3 (by omega)]; exact h3, by rw [hg 4 (by omega)]; exact h4⟩, fun k hk => hf k (by omega) (by omega)⟩
  · rw [e2_0]
    simp only [O15, oB_s, hC.trace.1]
    rw [if_neg (show ¬ (16 : Int32) ≤ nI X.tn from nI_ge (b := 16) (by omega) (by omega))]
    simp only [sI_at (S := S) A16 hn (by omega), O15, P15, oB_s, up_row_ne (show 15 ≠ 16 by omega), hC.trace.1, nI_1, e2_1, hS']
  · rw [hS', up_row_ne (by omega), up_at]
    by_cases e : j = X.tn
    · rw [if_pos ⟨rfl, e⟩, e, pk_us]
    · rw [if_neg (fun q => e q.2), pk_un e]
      exact hC.trace.2 j (by omega)
theorem leaveM {S : Nat → Nat → Int32} {X : Xs} (h : MP S X) (hX : XOk X) (hn : X.tn < 16) (b : Int32) (sc : Nat × (Nat → Int32)) (d : Nat) : ∃ S', EX sc (d + 1) 213 0 [.ref 359, .int b] [] (mk S) = some (none, mk S') ∧ MP S' (lvX X b) ∧ FrM S S' := by
  have hS' : ∃ S', S' = up (up S 369 X.tn b) 359 18 (nI (X.tn + 1)) := ⟨_, rfl⟩
  obtain ⟨S', hS'⟩ := hS'
  have hf : ∀ k, k ≠ 359 → k ≠ 369 → S' k = S k := fun k a b => by rw [hS', up_row_ne a, up_row_ne b]
  have hg : ∀ j, j ≠ 18 → S' 359 j = S 359 j := fun j a => by rw [hS', up_ne (by omega), up_row_ne (by omega)]
  refine ⟨S', ?_, MP_tr h hX hf hg ⟨by rw [hS', up_same], fun j hj => ?_⟩, fun k hk => hf k (by omega) (by omega)⟩
  · rw [e213_0]
    simp only [O359, oB_s, h.trace.1]
    rw [if_neg (show ¬ (16 : Int32) ≤ nI X.tn from nI_ge (b := 16) (by omega) (by omega))]
    simp only [sI_at (S := S) A369 hn (by omega), O359, P359, oB_s, up_row_ne (show 359 ≠ 369 by omega), h.trace.1, nI_1, e213_1, hS']
  · rw [hS', up_row_ne (by omega), up_at]
    by_cases e : j = X.tn
    · rw [if_pos ⟨rfl, e⟩, e, pk_us]
    · rw [if_neg (fun q => e q.2), pk_un e]
      exact h.trace.2 j (by omega)
/-- an ask of the class, of the reference: what is answered and left -/
def RC2 (sc : Nat × (Nat → Int32)) (d m : Nat) (ls : List Value) (S : Nat → Nat → Int32) (X' : Xs) (l t k r : Int32) : Prop := ∃ S', EX sc d m 0 ls [] (mk S) = some (some (.int r), mk S') ∧ AskC S' X' l t k ∧ FrC S S'
def RM2 (sc : Nat × (Nat → Int32)) (d m : Nat) (ls : List Value) (S : Nat → Nat → Int32) (X' : Xs) (r : Int32) : Prop := ∃ S', EX sc d m 0 ls [] (mk S) = some (some (.int r), mk S') ∧ MP S' X' ∧ FrM S S'
theorem c27 {S : Nat → Nat → Int32} {X : Xs} {l t k : Int32} (h : AskC S X l t k) (hn : X.tn < 16) (p : Nat) (sc : Nat × (Nat → Int32)) (d : Nat) : RC2 sc (d + 2) 27 [.ref p, .ref 15] S (lvX X 10) l t k t := by
  obtain ⟨S1, a1, a2, a3⟩ := leaveC h hn 10 sc d
  refine ⟨S1, ?_, a2, a3⟩
  rw [e27_0]
  simp only [O15, if_true, a1, cV_s, oB_s, a2.2.2.1]
theorem c28 {S : Nat → Nat → Int32} {X : Xs} {l t k : Int32} (h : AskC S X l t k) (hn : X.tn < 16) (p : Nat) (sc : Nat × (Nat → Int32)) (d : Nat) : RC2 sc (d + 2) 28 [.ref p, .ref 15] S (lvX X 20) l t k l := by
  obtain ⟨S1, a1, a2, a3⟩ := leaveC h hn 20 sc d
  refine ⟨S1, ?_, a2, a3⟩
  rw [e28_0]
  simp only [O15, if_true, a1, cV_s, oB_s, a2.2.1]
theorem c5 {S : Nat → Nat → Int32} {X : Xs} {l t k : Int32} (h : AskC S X l t k) (hn : X.tn + 1 < 16) {p c : Nat} (hp : ∀ S, clsOf (mk S) p = some c) (sc : Nat × (Nat → Int32)) (d : Nat) : RC2 sc (d + 3) 5 [.ref p, .ref 15] S (lvX (lvX X 21) 20) l t k (l + k) := by
  obtain ⟨S1, a1, a2, a3⟩ := leaveC h (by omega) 21 sc (d + 1)
  obtain ⟨S2, b1, b2, b3⟩ := c28 a2 (show X.tn + 1 < 16 by omega) p sc d
  refine ⟨S2, ?_, b2, a3.tr b3⟩
  rw [e5_0]
  simp only [O15, if_true, a1, cV_s, oB_s, hp, b1, cI_s, b2.2.2.2]
theorem c79 {S : Nat → Nat → Int32} {X : Xs} {l t k : Int32} (h : AskC S X l t k) (hn : X.tn + 2 < 16) {p c : Nat} (hp : ∀ S, clsOf (mk S) p = some c) (sc : Nat × (Nat → Int32)) (d : Nat) : RC2 sc (d + 4) 79 [.ref p, .ref 15] S (lvX (lvX (lvX X 24) 21) 20) l t k (2 * (l + k)) := by
  obtain ⟨S1, a1, a2, a3⟩ := leaveC h (by omega) 24 sc (d + 2)
  obtain ⟨S2, b1, b2, b3⟩ := c5 a2 (show X.tn + 1 + 1 < 16 by omega) hp sc d
  refine ⟨S2, ?_, b2, a3.tr b3⟩
  rw [e79_0]
  simp only [O15, if_true, a1, cV_s, oB_s, hp, b1, cI_s, b2.2.2.2]
theorem c30 {S : Nat → Nat → Int32} {X : Xs} {l t k : Int32} (h : AskC S X l t k) (hn : X.tn + 2 < 16) {p c : Nat} (hp : ∀ S, clsOf (mk S) p = some c) (sc : Nat × (Nat → Int32)) (d : Nat) : RC2 sc (d + 4) 30 [.ref p, .ref 15] S (lvX (lvX (lvX X 22) 21) 20) l t k ((l + k) - 1000) := by
  obtain ⟨S1, a1, a2, a3⟩ := leaveC h (by omega) 22 sc (d + 2)
  obtain ⟨S2, b1, b2, b3⟩ := c5 a2 (show X.tn + 1 + 1 < 16 by omega) hp sc d
  refine ⟨S2, ?_, b2, a3.tr b3⟩
  rw [e30_0]
  simp only [O15, if_true, a1, cV_s, oB_s, hp, b1, cI_s, b2.2.2.2]
theorem c54 {S : Nat → Nat → Int32} {X : Xs} {l t k : Int32} (h : AskC S X l t k) (hn : X.tn + 1 < 16) {p c : Nat} (hp : ∀ S, clsOf (mk S) p = some c) (sc : Nat × (Nat → Int32)) (d : Nat) : RC2 sc (d + 3) 54 [.ref p, .ref 15] S (lvX (lvX X 13) 10) l t k (t - 100) := by
  obtain ⟨S1, a1, a2, a3⟩ := leaveC h (by omega) 13 sc (d + 1)
  obtain ⟨S2, b1, b2, b3⟩ := c27 a2 (show X.tn + 1 < 16 by omega) p sc d
  refine ⟨S2, ?_, b2, a3.tr b3⟩
  rw [e54_0]
  simp only [O15, if_true, a1, cV_s, oB_s, hp, b1, cI_s, b2.2.2.2]
theorem c68 {S : Nat → Nat → Int32} {X : Xs} {l t k : Int32} (h : AskC S X l t k) (hn : X.tn + 2 < 16) {p c : Nat} (hp : ∀ S, clsOf (mk S) p = some c) (sc : Nat × (Nat → Int32)) (d : Nat) : RC2 sc (d + 4) 68 [.ref p, .ref 15] S (lvX (lvX (lvX X 14) 13) 10) l t k (2 * (t - 100)) := by
  obtain ⟨S1, a1, a2, a3⟩ := leaveC h (by omega) 14 sc (d + 2)
  obtain ⟨S2, b1, b2, b3⟩ := c54 a2 (show X.tn + 1 + 1 < 16 by omega) hp sc d
  refine ⟨S2, ?_, b2, a3.tr b3⟩
  rw [e68_0]
  simp only [O15, if_true, a1, cV_s, oB_s, hp, b1, cI_s, b2.2.2.2]
theorem c4_1 {S : Nat → Nat → Int32} {X : Xs} {l t k : Int32} (h : AskC S X l t k) (hn : X.tn + 4 < 16) {p : Nat} (hp : ∀ S, clsOf (mk S) p = some 1) (sc : Nat × (Nat → Int32)) (d : Nat) : RC2 sc (d + 5) 4 [.ref p, .ref 15, Jk] S (lvX (lvX (lvX (lvX X 11) 10) 21) 20) l t k (t + (l + k)) := by
  obtain ⟨S1, a1, a2, a3⟩ := leaveC h (by omega) 11 sc (d + 3)
  obtain ⟨S2, b1, b2, b3⟩ := c27 a2 (show X.tn + 1 < 16 by omega) p sc (d + 2)
  obtain ⟨S3, d1, d2, d3⟩ := c5 b2 (show X.tn + 1 + 1 + 1 < 16 by omega) hp sc (d + 1)
  refine ⟨S3, ?_, d2, (a3.tr b3).tr d3⟩
  rw [e4_0]
  simp only [O15, if_true, a1, cV_s, oB_s, hp, b1, cI_s, if_false, d1]
theorem c4_9 {S : Nat → Nat → Int32} {X : Xs} {l t k : Int32} (h : AskC S X l t k) (hn : X.tn + 4 < 16) {p : Nat} (hp : ∀ S, clsOf (mk S) p = some 9) (sc : Nat × (Nat → Int32)) (d : Nat) : RC2 sc (d + 5) 4 [.ref p, .ref 15, Jk] S (lvX (lvX (lvX (lvX (lvX X 11) 10) 24) 21) 20) l t k (t + 2 * (l + k)) := by
  obtain ⟨S1, a1, a2, a3⟩ := leaveC h (by omega) 11 sc (d + 3)
  obtain ⟨S2, b1, b2, b3⟩ := c27 a2 (show X.tn + 1 < 16 by omega) p sc (d + 2)
  obtain ⟨S3, d1, d2, d3⟩ := c79 b2 (show X.tn + 1 + 1 + 2 < 16 by omega) hp sc d
  refine ⟨S3, ?_, d2, (a3.tr b3).tr d3⟩
  rw [e4_0]
  simp only [O15, if_true, a1, cV_s, oB_s, hp, b1, cI_s, show ¬ (some 9 : Option Nat) = some 1 by decide, if_false, d1]
theorem c4_3 {S : Nat → Nat → Int32} {X : Xs} {l t k : Int32} (h : AskC S X l t k) (hn : X.tn + 4 < 16) {p : Nat} (hp : ∀ S, clsOf (mk S) p = some 3) (sc : Nat × (Nat → Int32)) (d : Nat) : RC2 sc (d + 5) 4 [.ref p, .ref 15, Jk] S (lvX (lvX (lvX (lvX (lvX X 11) 10) 22) 21) 20) l t k (t + ((l + k) - 1000)) := by
  obtain ⟨S1, a1, a2, a3⟩ := leaveC h (by omega) 11 sc (d + 3)
  obtain ⟨S2, b1, b2, b3⟩ := c27 a2 (show X.tn + 1 < 16 by omega) p sc (d + 2)
  obtain ⟨S3, d1, d2, d3⟩ := c30 b2 (show X.tn + 1 + 1 + 2 < 16 by omega) hp sc d
  refine ⟨S3, ?_, d2, (a3.tr b3).tr d3⟩
  rw [e4_0]
  simp only [O15, if_true, a1, cV_s, oB_s, hp, b1, cI_s, show ¬ (some 3 : Option Nat) = some 1 by decide, show ¬ (some 3 : Option Nat) = some 9 by decide, if_false, d1]
theorem c78 {S : Nat → Nat → Int32} {X : Xs} {l t k : Int32} (h : AskC S X l t k) (hn : X.tn + 5 < 16) {p : Nat} (hp : ∀ S, clsOf (mk S) p = some 9) (sc : Nat × (Nat → Int32)) (d : Nat) : RC2 sc (d + 6) 78 [.ref p, .ref 15] S (lvX (lvX (lvX (lvX (lvX (lvX X 12) 11) 10) 24) 21) 20) l t k (0 - (t + 2 * (l + k))) := by
  obtain ⟨S1, a1, a2, a3⟩ := leaveC h (by omega) 12 sc (d + 4)
  obtain ⟨S2, b1, b2, b3⟩ := c4_9 a2 (show X.tn + 1 + 4 < 16 by omega) hp sc d
  refine ⟨S2, ?_, b2, a3.tr b3⟩
  rw [e78_0]
  simp only [O15, if_true, a1, cV_s, oB_s, hp, b1, cI_s]
theorem c55_5 {S : Nat → Nat → Int32} {X : Xs} {l t k : Int32} (h : AskC S X l t k) (hn : X.tn + 4 < 16) {p : Nat} (hp : ∀ S, clsOf (mk S) p = some 5) (sc : Nat × (Nat → Int32)) (d : Nat) : RC2 sc (d + 5) 55 [.ref p, .ref 15, Jk] S (lvX (lvX (lvX (lvX X 23) 20) 13) 10) l t k (l - (t - 100)) := by
  obtain ⟨S1, a1, a2, a3⟩ := leaveC h (by omega) 23 sc (d + 3)
  obtain ⟨S2, b1, b2, b3⟩ := c28 a2 (show X.tn + 1 < 16 by omega) p sc (d + 2)
  obtain ⟨S3, d1, d2, d3⟩ := c54 b2 (show X.tn + 1 + 1 + 1 < 16 by omega) hp sc (d + 1)
  refine ⟨S3, ?_, d2, (a3.tr b3).tr d3⟩
  rw [e55_0]
  simp only [O15, if_true, a1, cV_s, oB_s, hp, b1, cI_s, if_false, d1]
theorem c55_7 {S : Nat → Nat → Int32} {X : Xs} {l t k : Int32} (h : AskC S X l t k) (hn : X.tn + 4 < 16) {p : Nat} (hp : ∀ S, clsOf (mk S) p = some 7) (sc : Nat × (Nat → Int32)) (d : Nat) : RC2 sc (d + 5) 55 [.ref p, .ref 15, Jk] S (lvX (lvX (lvX (lvX (lvX X 23) 20) 14) 13) 10) l t k (l - 2 * (t - 100)) := by
  obtain ⟨S1, a1, a2, a3⟩ := leaveC h (by omega) 23 sc (d + 3)
  obtain ⟨S2, b1, b2, b3⟩ := c28 a2 (show X.tn + 1 < 16 by omega) p sc (d + 2)
  obtain ⟨S3, d1, d2, d3⟩ := c68 b2 (show X.tn + 1 + 1 + 2 < 16 by omega) hp sc d
  refine ⟨S3, ?_, d2, (a3.tr b3).tr d3⟩
  rw [e55_0]
  simp only [O15, if_true, a1, cV_s, oB_s, hp, b1, cI_s, show ¬ (some 7 : Option Nat) = some 5 by decide, if_false, d1]
