/-! as, ask: the reference's bodies and the calls -/
theorem mfacts {S : Nat → Nat → Int32} {X : Xs} (h : MP S X) (hX : XOk X) {i : Nat} (hi : i < X.nw 0 3) : S 363 i = nI (X.nw 1 i) ∧ S 364 i = nI (X.nw 3 i) ∧ S 365 (6 + i) = nI (X.nw 6 i) := by
  have h6 := hX.l6
  have hb : ¬ nI i = -1000000 := by
    have : ∀ k, k < 6 → ¬ nI k = -1000000 := by decide
    exact this i (by omega)
  have := h.stat.2.2 i hi
  rw [h.none, if_neg hb, if_neg hb] at this
  exact ⟨this.1, this.2, (h.now.1 i hi).2.1⟩
theorem A363_i {S : Nat → Nat → Int32} {i : Nat} (h : i < 6) : aI (mk S) 363 (nI i) = some (S 363 i) := aI_at A363 h (by omega)
theorem A364_i {S : Nat → Nat → Int32} {i : Nat} (h : i < 6) : aI (mk S) 364 (nI i) = some (S 364 i) := aI_at A364 h (by omega)
theorem g214 {S : Nat → Nat → Int32} {X : Xs} (h : MP S X) (hX : XOk X) {i : Nat} (hi : i < X.nw 0 3) (hn : X.tn < 16) (sc : Nat × (Nat → Int32)) (d : Nat) : RM2 sc (d + 2) 214 [.ref 359, .int (nI i)] S (lvX X 10) (nI (X.nw 3 i)) := by
  have h6 : i < 6 := by have := hX.l6; omega
  obtain ⟨S1, a1, a2, a3⟩ := leaveM h hX hn 10 sc d
  refine ⟨S1, ?_, a2, a3⟩
  have f := (mfacts a2 (XOk_lv hX hn 10) hi).2.1
  have f2 : S1 364 i = nI (X.nw 3 i) := f
  rw [e214_0]
  simp only [O359, if_true, a1, cV_s, oB_s, A364_i h6, f2]
theorem g215 {S : Nat → Nat → Int32} {X : Xs} (h : MP S X) (hX : XOk X) {i : Nat} (hi : i < X.nw 0 3) (hn : X.tn < 16) (sc : Nat × (Nat → Int32)) (d : Nat) : RM2 sc (d + 2) 215 [.ref 359, .int (nI i)] S (lvX X 20) (nI i) := by
  obtain ⟨S1, a1, a2, a3⟩ := leaveM h hX hn 20 sc d
  refine ⟨S1, ?_, a2, a3⟩
  rw [e215_0]
  simp only [O359, if_true, a1, cV_s]
theorem g216 {S : Nat → Nat → Int32} {X : Xs} (h : MP S X) (hX : XOk X) {i : Nat} (hi : i < X.nw 0 3) (hn : X.tn + 1 < 16) (sc : Nat × (Nat → Int32)) (d : Nat) : RM2 sc (d + 3) 216 [.ref 359, .int (nI i)] S (lvX (lvX X 21) 20) (nI i + nI (X.nw 6 i)) := by
  have h6 : i < 6 := by have := hX.l6; omega
  obtain ⟨S1, a1, a2, a3⟩ := leaveM h hX (by omega) 21 sc (d + 1)
  have x1 := XOk_lv hX (show X.tn < 16 by omega) 21
  obtain ⟨S2, b1, b2, b3⟩ := g215 a2 x1 hi (show X.tn + 1 < 16 by omega) sc d
  refine ⟨S2, ?_, b2, a3.tr b3⟩
  have f2 : S2 365 (6 + i) = nI (X.nw 6 i) := (mfacts b2 (XOk_lv x1 (show X.tn + 1 < 16 by omega) 20) hi).2.2
  rw [e216_0]
  simp only [O359, if_true, a1, cV_s, b1, cI_s, oB_s, show (6 : Int32) = nI 6 from rfl, nI_add, A365_at (S := S2) (show 6 + i < 32 by omega), f2]
theorem g217_1 {S : Nat → Nat → Int32} {X : Xs} (h : MP S X) (hX : XOk X) {i : Nat} (hi : i < X.nw 0 3) (hk : X.nw 1 i = 1) (hn : X.tn + 1 < 16) (sc : Nat × (Nat → Int32)) (d : Nat) : RM2 sc (d + 4) 217 [.ref 359, .int (nI i)] S (lvX (lvX X 21) 20) (nI i + nI (X.nw 6 i)) := by
  have h6 : i < 6 := by have := hX.l6; omega
  have f : S 363 i = nI 1 := by rw [(mfacts h hX hi).1, hk]
  obtain ⟨S2, b1, b2, b3⟩ := g216 h hX hi hn sc d
  refine ⟨S2, ?_, b2, b3⟩
  rw [e217_0, e217_1, e217_2]
  simp only [O359, if_true, oB_s, A363_i h6, f, b1, cI_s]
  rw [if_neg (by decide), if_neg (by decide)]
theorem g217_2 {S : Nat → Nat → Int32} {X : Xs} (h : MP S X) (hX : XOk X) {i : Nat} (hi : i < X.nw 0 3) (hk : X.nw 1 i = 2) (hn : X.tn + 2 < 16) (sc : Nat × (Nat → Int32)) (d : Nat) : RM2 sc (d + 4) 217 [.ref 359, .int (nI i)] S (lvX (lvX (lvX X 24) 21) 20) (2 * (nI i + nI (X.nw 6 i))) := by
  have h6 : i < 6 := by have := hX.l6; omega
  have f : S 363 i = nI 2 := by rw [(mfacts h hX hi).1, hk]
  obtain ⟨S1, a1, a2, a3⟩ := leaveM h hX (by omega) 24 sc (d + 2)
  obtain ⟨S2, b1, b2, b3⟩ := g216 a2 (XOk_lv hX (show X.tn < 16 by omega) 24) hi (show X.tn + 1 + 1 < 16 by omega) sc d
  refine ⟨S2, ?_, b2, a3.tr b3⟩
  rw [e217_0, e217_1]
  simp only [O359, if_true, oB_s, A363_i h6, f, a1, cV_s, b1, cI_s]
  rw [if_pos (by decide)]
  rfl
theorem g217_3 {S : Nat → Nat → Int32} {X : Xs} (h : MP S X) (hX : XOk X) {i : Nat} (hi : i < X.nw 0 3) (hk : X.nw 1 i = 3) (hn : X.tn + 2 < 16) (sc : Nat × (Nat → Int32)) (d : Nat) : RM2 sc (d + 4) 217 [.ref 359, .int (nI i)] S (lvX (lvX (lvX X 22) 21) 20) ((nI i + nI (X.nw 6 i)) - 1000) := by
  have h6 : i < 6 := by have := hX.l6; omega
  have f : S 363 i = nI 3 := by rw [(mfacts h hX hi).1, hk]
  obtain ⟨S1, a1, a2, a3⟩ := leaveM h hX (by omega) 22 sc (d + 2)
  obtain ⟨S2, b1, b2, b3⟩ := g216 a2 (XOk_lv hX (show X.tn < 16 by omega) 22) hi (show X.tn + 1 + 1 < 16 by omega) sc d
  refine ⟨S2, ?_, b2, a3.tr b3⟩
  rw [e217_0, e217_1]
  simp only [O359, if_true, oB_s, A363_i h6, f, a1, cV_s, b1, cI_s]
  rw [if_neg (by decide), if_pos (by decide)]
  rfl
theorem g218_1 {S : Nat → Nat → Int32} {X : Xs} (h : MP S X) (hX : XOk X) {i : Nat} (hi : i < X.nw 0 3) (hk : X.nw 1 i = 1) (hn : X.tn + 3 < 16) (sc : Nat × (Nat → Int32)) (d : Nat) : RM2 sc (d + 5) 218 [.ref 359, .int (nI i), Jk] S (lvX (lvX (lvX (lvX X 11) 10) 21) 20) (nI (X.nw 3 i) + (nI i + nI (X.nw 6 i))) := by
  obtain ⟨S1, a1, a2, a3⟩ := leaveM h hX (by omega) 11 sc (d + 3)
  have x1 := XOk_lv hX (show X.tn < 16 by omega) 11
  obtain ⟨S2, b1, b2, b3⟩ := g214 a2 x1 hi (show X.tn + 1 < 16 by omega) sc (d + 2)
  have x2 := XOk_lv x1 (show X.tn + 1 < 16 by omega) 10
  obtain ⟨S3, d1, d2, d3⟩ := g217_1 b2 x2 hi hk (show X.tn + 1 + 1 + 1 < 16 by omega) sc d
  have b1' : EX sc (d + 4) 214 0 [.ref 359, .int (nI i)] [] (mk S1) = some (some (.int (nI (X.nw 3 i))), mk S2) := b1
  have d1' : EX sc (d + 4) 217 0 [.ref 359, .int (nI i)] [] (mk S2) = some (some (.int (nI i + nI (X.nw 6 i))), mk S3) := d1
  refine ⟨S3, ?_, d2, (a3.tr b3).tr d3⟩
  rw [e218_0]
  simp only [O359, if_true, a1, cV_s, b1', cI_s, d1']
theorem g218_2 {S : Nat → Nat → Int32} {X : Xs} (h : MP S X) (hX : XOk X) {i : Nat} (hi : i < X.nw 0 3) (hk : X.nw 1 i = 2) (hn : X.tn + 4 < 16) (sc : Nat × (Nat → Int32)) (d : Nat) : RM2 sc (d + 5) 218 [.ref 359, .int (nI i), Jk] S (lvX (lvX (lvX (lvX (lvX X 11) 10) 24) 21) 20) (nI (X.nw 3 i) + (2 * (nI i + nI (X.nw 6 i)))) := by
  obtain ⟨S1, a1, a2, a3⟩ := leaveM h hX (by omega) 11 sc (d + 3)
  have x1 := XOk_lv hX (show X.tn < 16 by omega) 11
  obtain ⟨S2, b1, b2, b3⟩ := g214 a2 x1 hi (show X.tn + 1 < 16 by omega) sc (d + 2)
  have x2 := XOk_lv x1 (show X.tn + 1 < 16 by omega) 10
  obtain ⟨S3, d1, d2, d3⟩ := g217_2 b2 x2 hi hk (show X.tn + 1 + 1 + 2 < 16 by omega) sc d
  have b1' : EX sc (d + 4) 214 0 [.ref 359, .int (nI i)] [] (mk S1) = some (some (.int (nI (X.nw 3 i))), mk S2) := b1
  have d1' : EX sc (d + 4) 217 0 [.ref 359, .int (nI i)] [] (mk S2) = some (some (.int (2 * (nI i + nI (X.nw 6 i)))), mk S3) := d1
  refine ⟨S3, ?_, d2, (a3.tr b3).tr d3⟩
  rw [e218_0]
  simp only [O359, if_true, a1, cV_s, b1', cI_s, d1']
theorem g218_3 {S : Nat → Nat → Int32} {X : Xs} (h : MP S X) (hX : XOk X) {i : Nat} (hi : i < X.nw 0 3) (hk : X.nw 1 i = 3) (hn : X.tn + 4 < 16) (sc : Nat × (Nat → Int32)) (d : Nat) : RM2 sc (d + 5) 218 [.ref 359, .int (nI i), Jk] S (lvX (lvX (lvX (lvX (lvX X 11) 10) 22) 21) 20) (nI (X.nw 3 i) + ((nI i + nI (X.nw 6 i)) - 1000)) := by
  obtain ⟨S1, a1, a2, a3⟩ := leaveM h hX (by omega) 11 sc (d + 3)
  have x1 := XOk_lv hX (show X.tn < 16 by omega) 11
  obtain ⟨S2, b1, b2, b3⟩ := g214 a2 x1 hi (show X.tn + 1 < 16 by omega) sc (d + 2)
  have x2 := XOk_lv x1 (show X.tn + 1 < 16 by omega) 10
  obtain ⟨S3, d1, d2, d3⟩ := g217_3 b2 x2 hi hk (show X.tn + 1 + 1 + 2 < 16 by omega) sc d
  have b1' : EX sc (d + 4) 214 0 [.ref 359, .int (nI i)] [] (mk S1) = some (some (.int (nI (X.nw 3 i))), mk S2) := b1
  have d1' : EX sc (d + 4) 217 0 [.ref 359, .int (nI i)] [] (mk S2) = some (some (.int ((nI i + nI (X.nw 6 i)) - 1000)), mk S3) := d1
  refine ⟨S3, ?_, d2, (a3.tr b3).tr d3⟩
  rw [e218_0]
  simp only [O359, if_true, a1, cV_s, b1', cI_s, d1']
theorem g219 {S : Nat → Nat → Int32} {X : Xs} (h : MP S X) (hX : XOk X) {i : Nat} (hi : i < X.nw 0 3) (hn : X.tn + 1 < 16) (sc : Nat × (Nat → Int32)) (d : Nat) : RM2 sc (d + 3) 219 [.ref 359, .int (nI i)] S (lvX (lvX X 13) 10) (nI (X.nw 3 i) - 100) := by
  obtain ⟨S1, a1, a2, a3⟩ := leaveM h hX (by omega) 13 sc (d + 1)
  obtain ⟨S2, b1, b2, b3⟩ := g214 a2 (XOk_lv hX (show X.tn < 16 by omega) 13) hi (show X.tn + 1 < 16 by omega) sc d
  have b1' : EX sc (d + 2) 214 0 [.ref 359, .int (nI i)] [] (mk S1) = some (some (.int (nI (X.nw 3 i))), mk S2) := b1
  refine ⟨S2, ?_, b2, a3.tr b3⟩
  rw [e219_0]
  simp only [O359, if_true, a1, cV_s, b1', cI_s]
theorem g220_4 {S : Nat → Nat → Int32} {X : Xs} (h : MP S X) (hX : XOk X) {i : Nat} (hi : i < X.nw 0 3) (hk : X.nw 1 i = 4) (hn : X.tn + 1 < 16) (sc : Nat × (Nat → Int32)) (d : Nat) : RM2 sc (d + 4) 220 [.ref 359, .int (nI i)] S (lvX (lvX X 13) 10) (nI (X.nw 3 i) - 100) := by
  have h6 : i < 6 := by have := hX.l6; omega
  have f : S 363 i = nI 4 := by rw [(mfacts h hX hi).1, hk]
  obtain ⟨S2, b1, b2, b3⟩ := g219 h hX hi hn sc d
  refine ⟨S2, ?_, b2, b3⟩
  rw [e220_0, e220_1]
  simp only [O359, if_true, oB_s, A363_i h6, f, b1, cI_s]
  rw [if_neg (by decide)]
theorem g220_5 {S : Nat → Nat → Int32} {X : Xs} (h : MP S X) (hX : XOk X) {i : Nat} (hi : i < X.nw 0 3) (hk : X.nw 1 i = 5) (hn : X.tn + 2 < 16) (sc : Nat × (Nat → Int32)) (d : Nat) : RM2 sc (d + 4) 220 [.ref 359, .int (nI i)] S (lvX (lvX (lvX X 14) 13) 10) (2 * (nI (X.nw 3 i) - 100)) := by
  have h6 : i < 6 := by have := hX.l6; omega
  have f : S 363 i = nI 5 := by rw [(mfacts h hX hi).1, hk]
  obtain ⟨S1, a1, a2, a3⟩ := leaveM h hX (by omega) 14 sc (d + 2)
  obtain ⟨S2, b1, b2, b3⟩ := g219 a2 (XOk_lv hX (show X.tn < 16 by omega) 14) hi (show X.tn + 1 + 1 < 16 by omega) sc d
  have b1' : EX sc (d + 3) 219 0 [.ref 359, .int (nI i)] [] (mk S1) = some (some (.int (nI (X.nw 3 i) - 100)), mk S2) := b1
  refine ⟨S2, ?_, b2, a3.tr b3⟩
  rw [e220_0]
  simp only [O359, if_true, oB_s, A363_i h6, f, a1, cV_s, b1', cI_s]
  rw [if_pos (by decide)]
theorem g221_1 {S : Nat → Nat → Int32} {X : Xs} (h : MP S X) (hX : XOk X) {i : Nat} (hi : i < X.nw 0 3) (hk : X.nw 1 i = 1) (hn : X.tn + 3 < 16) (sc : Nat × (Nat → Int32)) (d : Nat) : RM2 sc (d + 6) 221 [.ref 359, .int (nI i)] S (lvX (lvX (lvX (lvX X 11) 10) 21) 20) (nI (X.nw 3 i) + (nI i + nI (X.nw 6 i))) := by
  have h6 : i < 6 := by have := hX.l6; omega
  have f : S 363 i = nI 1 := by rw [(mfacts h hX hi).1, hk]
  obtain ⟨S2, b1, b2, b3⟩ := g218_1 h hX hi hk hn sc d
  refine ⟨S2, ?_, b2, b3⟩
  rw [e221_0, e221_1, e221_2]
  simp only [O359, if_true, oB_s, A363_i h6, f, b1, cI_s]
  rw [if_pos (by decide), if_neg (by decide)]
theorem g221_3 {S : Nat → Nat → Int32} {X : Xs} (h : MP S X) (hX : XOk X) {i : Nat} (hi : i < X.nw 0 3) (hk : X.nw 1 i = 3) (hn : X.tn + 4 < 16) (sc : Nat × (Nat → Int32)) (d : Nat) : RM2 sc (d + 6) 221 [.ref 359, .int (nI i)] S (lvX (lvX (lvX (lvX (lvX X 11) 10) 22) 21) 20) (nI (X.nw 3 i) + ((nI i + nI (X.nw 6 i)) - 1000)) := by
  have h6 : i < 6 := by have := hX.l6; omega
  have f : S 363 i = nI 3 := by rw [(mfacts h hX hi).1, hk]
  obtain ⟨S2, b1, b2, b3⟩ := g218_3 h hX hi hk hn sc d
  refine ⟨S2, ?_, b2, b3⟩
  rw [e221_0, e221_1, e221_2]
  simp only [O359, if_true, oB_s, A363_i h6, f, b1, cI_s]
  rw [if_pos (by decide), if_neg (by decide)]
theorem g221_2 {S : Nat → Nat → Int32} {X : Xs} (h : MP S X) (hX : XOk X) {i : Nat} (hi : i < X.nw 0 3) (hk : X.nw 1 i = 2) (hn : X.tn + 5 < 16) (sc : Nat × (Nat → Int32)) (d : Nat) : RM2 sc (d + 6) 221 [.ref 359, .int (nI i)] S (lvX (lvX (lvX (lvX (lvX (lvX X 12) 11) 10) 24) 21) 20) (-(nI (X.nw 3 i) + (2 * (nI i + nI (X.nw 6 i))))) := by
  have h6 : i < 6 := by have := hX.l6; omega
  have f : S 363 i = nI 2 := by rw [(mfacts h hX hi).1, hk]
  obtain ⟨S1, a1, a2, a3⟩ := leaveM h hX (by omega) 12 sc (d + 4)
  obtain ⟨S2, b1, b2, b3⟩ := g218_2 a2 (XOk_lv hX (show X.tn < 16 by omega) 12) hi hk (show X.tn + 1 + 4 < 16 by omega) sc d
  have b1' : EX sc (d + 5) 218 0 [.ref 359, .int (nI i), Jk] [] (mk S1) = some (some (.int (nI (X.nw 3 i) + (2 * (nI i + nI (X.nw 6 i))))), mk S2) := b1
  refine ⟨S2, ?_, b2, a3.tr b3⟩
  rw [e221_0, e221_1]
  simp only [O359, if_true, oB_s, A363_i h6, f, a1, cV_s, b1', cI_s]
  rw [if_pos (by decide), if_pos (by decide)]
theorem g221_4 {S : Nat → Nat → Int32} {X : Xs} (h : MP S X) (hX : XOk X) {i : Nat} (hi : i < X.nw 0 3) (hk : X.nw 1 i = 4) (hn : X.tn + 1 < 16) (sc : Nat × (Nat → Int32)) (d : Nat) : RM2 sc (d + 6) 221 [.ref 359, .int (nI i)] S (lvX (lvX X 13) 10) (nI (X.nw 3 i) - 100) := by
  have h6 : i < 6 := by have := hX.l6; omega
  have f : S 363 i = nI 4 := by rw [(mfacts h hX hi).1, hk]
  obtain ⟨S2, b1, b2, b3⟩ := g220_4 h hX hi hk hn sc (d + 1)
  refine ⟨S2, ?_, b2, b3⟩
  rw [e221_0]
  simp only [O359, if_true, oB_s, A363_i h6, f, b1, cI_s]
  rw [if_neg (by decide)]
theorem g222_4 {S : Nat → Nat → Int32} {X : Xs} (h : MP S X) (hX : XOk X) {i : Nat} (hi : i < X.nw 0 3) (hk : X.nw 1 i = 4) (hn : X.tn + 3 < 16) (sc : Nat × (Nat → Int32)) (d : Nat) : RM2 sc (d + 6) 222 [.ref 359, .int (nI i), Jk] S (lvX (lvX (lvX (lvX X 23) 20) 13) 10) (nI i - (nI (X.nw 3 i) - 100)) := by
  have h6 : i < 6 := by have := hX.l6; omega
  have f : S 363 i = nI 4 := by rw [(mfacts h hX hi).1, hk]
  obtain ⟨S1, a1, a2, a3⟩ := leaveM h hX (by omega) 23 sc (d + 4)
  have x1 := XOk_lv hX (show X.tn < 16 by omega) 23
  obtain ⟨S2, b1, b2, b3⟩ := g215 a2 x1 hi (show X.tn + 1 < 16 by omega) sc (d + 3)
  have x2 := XOk_lv x1 (show X.tn + 1 < 16 by omega) 20
  obtain ⟨S3, d1, d2, d3⟩ := g220_4 b2 x2 hi hk (show X.tn + 1 + 1 + 1 < 16 by omega) sc (d + 1)
  have d1' : EX sc (d + 5) 220 0 [.ref 359, .int (nI i)] [] (mk S2) = some (some (.int (nI (X.nw 3 i) - 100)), mk S3) := d1
  refine ⟨S3, ?_, d2, (a3.tr b3).tr d3⟩
  rw [e222_0, e222_1]
  simp only [O359, if_true, oB_s, A363_i h6, f, a1, cV_s, b1, cI_s, d1']
  rw [if_pos (by decide)]
theorem g221_5 {S : Nat → Nat → Int32} {X : Xs} (h : MP S X) (hX : XOk X) {i : Nat} (hi : i < X.nw 0 3) (hk : X.nw 1 i = 5) (hn : X.tn + 2 < 16) (sc : Nat × (Nat → Int32)) (d : Nat) : RM2 sc (d + 6) 221 [.ref 359, .int (nI i)] S (lvX (lvX (lvX X 14) 13) 10) (2 * (nI (X.nw 3 i) - 100)) := by
  have h6 : i < 6 := by have := hX.l6; omega
  have f : S 363 i = nI 5 := by rw [(mfacts h hX hi).1, hk]
  obtain ⟨S2, b1, b2, b3⟩ := g220_5 h hX hi hk hn sc (d + 1)
  refine ⟨S2, ?_, b2, b3⟩
  rw [e221_0]
  simp only [O359, if_true, oB_s, A363_i h6, f, b1, cI_s]
  rw [if_neg (by decide)]
theorem g222_5 {S : Nat → Nat → Int32} {X : Xs} (h : MP S X) (hX : XOk X) {i : Nat} (hi : i < X.nw 0 3) (hk : X.nw 1 i = 5) (hn : X.tn + 4 < 16) (sc : Nat × (Nat → Int32)) (d : Nat) : RM2 sc (d + 6) 222 [.ref 359, .int (nI i), Jk] S (lvX (lvX (lvX (lvX (lvX X 23) 20) 14) 13) 10) (nI i - (2 * (nI (X.nw 3 i) - 100))) := by
  have h6 : i < 6 := by have := hX.l6; omega
  have f : S 363 i = nI 5 := by rw [(mfacts h hX hi).1, hk]
  obtain ⟨S1, a1, a2, a3⟩ := leaveM h hX (by omega) 23 sc (d + 4)
  have x1 := XOk_lv hX (show X.tn < 16 by omega) 23
  obtain ⟨S2, b1, b2, b3⟩ := g215 a2 x1 hi (show X.tn + 1 < 16 by omega) sc (d + 3)
  have x2 := XOk_lv x1 (show X.tn + 1 < 16 by omega) 20
  obtain ⟨S3, d1, d2, d3⟩ := g220_5 b2 x2 hi hk (show X.tn + 1 + 1 + 2 < 16 by omega) sc (d + 1)
  have d1' : EX sc (d + 5) 220 0 [.ref 359, .int (nI i)] [] (mk S2) = some (some (.int (2 * (nI (X.nw 3 i) - 100))), mk S3) := d1
  refine ⟨S3, ?_, d2, (a3.tr b3).tr d3⟩
  rw [e222_0, e222_1]
  simp only [O359, if_true, oB_s, A363_i h6, f, a1, cV_s, b1, cI_s, d1']
  rw [if_pos (by decide)]
theorem g222_1 {S : Nat → Nat → Int32} {X : Xs} (h : MP S X) (hX : XOk X) {i : Nat} (hi : i < X.nw 0 3) (hk : X.nw 1 i = 1) (hn : X.tn + 1 < 16) (sc : Nat × (Nat → Int32)) (d : Nat) : RM2 sc (d + 6) 222 [.ref 359, .int (nI i), Jk] S (lvX (lvX X 21) 20) (nI i + nI (X.nw 6 i)) := by
  have h6 : i < 6 := by have := hX.l6; omega
  have f : S 363 i = nI 1 := by rw [(mfacts h hX hi).1, hk]
  obtain ⟨S2, b1, b2, b3⟩ := g217_1 h hX hi hk hn sc (d + 1)
  refine ⟨S2, ?_, b2, b3⟩
  rw [e222_0]
  simp only [O359, if_true, oB_s, A363_i h6, f, b1, cI_s]
  rw [if_neg (by decide)]
theorem g222_2 {S : Nat → Nat → Int32} {X : Xs} (h : MP S X) (hX : XOk X) {i : Nat} (hi : i < X.nw 0 3) (hk : X.nw 1 i = 2) (hn : X.tn + 2 < 16) (sc : Nat × (Nat → Int32)) (d : Nat) : RM2 sc (d + 6) 222 [.ref 359, .int (nI i), Jk] S (lvX (lvX (lvX X 24) 21) 20) (2 * (nI i + nI (X.nw 6 i))) := by
  have h6 : i < 6 := by have := hX.l6; omega
  have f : S 363 i = nI 2 := by rw [(mfacts h hX hi).1, hk]
  obtain ⟨S2, b1, b2, b3⟩ := g217_2 h hX hi hk hn sc (d + 1)
  refine ⟨S2, ?_, b2, b3⟩
  rw [e222_0]
  simp only [O359, if_true, oB_s, A363_i h6, f, b1, cI_s]
  rw [if_neg (by decide)]
theorem g222_3 {S : Nat → Nat → Int32} {X : Xs} (h : MP S X) (hX : XOk X) {i : Nat} (hi : i < X.nw 0 3) (hk : X.nw 1 i = 3) (hn : X.tn + 2 < 16) (sc : Nat × (Nat → Int32)) (d : Nat) : RM2 sc (d + 6) 222 [.ref 359, .int (nI i), Jk] S (lvX (lvX (lvX X 22) 21) 20) ((nI i + nI (X.nw 6 i)) - 1000) := by
  have h6 : i < 6 := by have := hX.l6; omega
  have f : S 363 i = nI 3 := by rw [(mfacts h hX hi).1, hk]
  obtain ⟨S2, b1, b2, b3⟩ := g217_3 h hX hi hk hn sc (d + 1)
  refine ⟨S2, ?_, b2, b3⟩
  rw [e222_0]
  simp only [O359, if_true, oB_s, A363_i h6, f, b1, cI_s]
  rw [if_neg (by decide)]
theorem ask_fin {sc : Nat × (Nat → Int32)} {cm mm : Nat} {cl ml : List Value} {S : Nat → Nat → Int32} {X X' : Xs} {r r' l t k : Int32} (hX : XOk X) (hX' : XOk X') (hM : MP S X) (hr : r' = r) (c : ∃ S1, EX sc 39 cm 0 cl [] (mk S) = some (some (.int r), mk S1) ∧ AskC S1 X' l t k ∧ FrC S S1) (m : ∀ S1, MP S1 X → ∃ S2, EX sc 39 mm 0 ml [] (mk S1) = some (some (.int r'), mk S2) ∧ MP S2 X' ∧ FrM S1 S2) : ∃ r S1 S2, EX sc 39 cm 0 cl [] (mk S) = some (some (.int r), mk S1) ∧ EX sc 39 mm 0 ml [] (mk S1) = some (some (.int r), mk S2) ∧ Inv S2 := by
  obtain ⟨S1, c1, c2, c3⟩ := c
  rw [hr] at m
  exact stp hX hX' hM ⟨S1, c1, c2.1, c3⟩ m
theorem neg_I (x : Int32) : -x = 0 - x := by
  apply Int32.toBitVec_inj.mp
  simp
theorem lvX_tn (X : Xs) (b : Int32) : (lvX X b).tn = X.tn + 1 := rfl
theorem op_ask (sc : Nat × (Nat → Int32)) (x y : Int32) : St2 sc 114 [.ref 0, .int x, .int y, Jk] 223 [.ref 359, .int x, .int y] := by
  rintro S ⟨X, hX, hC, hM⟩
  have h6 := hX.l6
  by_cases c1 : 0 ≤ x ∧ x ≤ nI (X.nw 0 3) - 1
  · by_cases c2 : 0 ≤ y ∧ y ≤ 1
    · obtain ⟨i, hi, rfl⟩ := (toL (by omega)).mp c1
      obtain ⟨w, hw1, rfl⟩ := toN (N := 1) (by omega) c2
      have hg := hX.gd (by omega)
      have hk5 := (hg.1.2.2.2.2.2 i hi).1
      have hk1 := (hg.2.2.2.2.2.2.2.2 i hi).1
      have hS1 : ∃ S1, S1 = up (up (up (up S 15 1 0) 15 2 (nI i)) 15 3 (nI (X.nw 3 i))) 15 4 (nI (X.nw 6 i)) := ⟨_, rfl⟩
      obtain ⟨S1, hS1⟩ := hS1
      have hf : ∀ k, k ≠ 15 → k ≠ 16 → S1 k = S k := fun k a b => by rw [hS1, up_row_ne a, up_row_ne a, up_row_ne a, up_row_ne a]
      have frc : FrC S S1 := fun k hk => hf k (by omega) (by omega)
      have ask0 : AskC S1 (X.wtrace X.tr 0) (nI i) (nI (X.nw 3 i)) (nI (X.nw 6 i)) := ⟨CR_tr hC hf ⟨by rw [hS1, up_ne (by omega), up_ne (by omega), up_ne (by omega), up_same]; rfl, fun j hj => by omega⟩, by rw [hS1, up_ne (by omega), up_ne (by omega), up_same], by rw [hS1, up_ne (by omega), up_same], by rw [hS1, up_same]⟩
      have hX00 : XOk (X.wtrace X.tr 0) := ⟨hX.1, hX.2.1, show 0 ≤ 16 by omega, hX.2.2.2⟩
      obtain ⟨X0, hX0e⟩ : ∃ X0, X0 = X.wtrace X.tr 0 := ⟨_, rfl⟩
      have tn0 : X0.tn = 0 := by rw [hX0e]; rfl
      have nw0 : X0.nw = X.nw := by rw [hX0e]; rfl
      have hX0 : XOk X0 := by rw [hX0e]; exact hX00
      have ask : AskC S1 X0 (nI i) (nI (X.nw 3 i)) (nI (X.nw 6 i)) := by rw [hX0e]; exact ask0
      have p3 : S 26 i = nI (X.nw 3 i) := pl_I hC.now (show 1 ≤ 3 by omega) (show 3 ≤ 8 by omega) (show i < 6 by omega)
      have p6 : S 29 i = nI (X.nw 6 i) := pl_I hC.now (show 1 ≤ 6 by omega) (show 6 ≤ 8 by omega) (show i < 6 by omega)
      have p1 : S1 24 i = nI (X.nw 1 i) := by rw [hf 24 (by omega) (by omega)]; exact pl_I hC.now (show 1 ≤ 1 by omega) (show 1 ≤ 8 by omega) (show i < 6 by omega)
      have mp0 : ∀ T, MP T X → MP (up T 359 18 0) X0 := fun T hM1 => by
        rw [hX0e]
        exact MP_tr hM1 hX (fun k a b => up_row_ne a) (fun j a => up_ne (by omega)) ⟨by rw [up_same]; rfl, fun j hj => by omega⟩
      have mS : ∀ T, MP T X → EX sc 39 223 0 [.ref 359, .int (nI i), .int (nI w)] [] (mk T) = if nI w = 0 then (cI (EX sc 38 221 0 [.ref 359, .int (nI i)] [] (mk (up T 359 18 0))) fun r3 h2 => some (some (.int r3), h2)) else (cI (EX sc 38 222 0 [.ref 359, .int (nI i), Jk] [] (mk (up T 359 18 0))) fun r3 h2 => some (some (.int r3), h2)) := by
        intro T hM1
        rw [e223_0]
        simp only [O359, if_true, isLetterM hM1.stat, fun S => inL sc (nI w) 0 1 0 1 S 37 rfl rfl, cI_s, ii_0]
        rw [if_pos c1, if_pos c2, e223_2]
        simp only [O359, P359, oB_s, if_true, e223_3]
      have cS : ∀ q, aR (mk S1) 17 2 (nI (X.nw 1 i) - 1) = some q → EX sc 39 114 0 [.ref 0, .int (nI i), .int (nI w), Jk] [] (mk S) = if nI w = 0 then (if clsOf (mk S1) q = some 1 then (cI (EX sc 38 4 0 [.ref q, .ref 15, Jk] [] (mk S1)) fun r21 h20 => some (some (.int r21), h20)) else if clsOf (mk S1) q = some 9 then (cI (EX sc 38 78 0 [.ref q, .ref 15] [] (mk S1)) fun r19 h18 => some (some (.int r19), h18)) else if clsOf (mk S1) q = some 3 then (cI (EX sc 38 4 0 [.ref q, .ref 15, Jk] [] (mk S1)) fun r17 h16 => some (some (.int r17), h16)) else if clsOf (mk S1) q = some 5 then (cI (EX sc 38 54 0 [.ref q, .ref 15] [] (mk S1)) fun r15 h14 => some (some (.int r15), h14)) else if clsOf (mk S1) q = some 7 then (cI (EX sc 38 68 0 [.ref q, .ref 15] [] (mk S1)) fun r13 h12 => some (some (.int r13), h12)) else none) else EX sc 39 114 3 [.ref 0, Jk, Jk, .ref q] [] (mk S1) := by
        intro q hq
        rw [e114_0]
        simp only [O0, if_true, isLetterC hC, within_eq, cI_s, ii_0]
        rw [if_pos c1, if_pos c2, e114_2]
        simp only [O0, oB_s, Hg isH_23, fun S => HA isH_23 S (show i < 6 by omega), p3, p6, O15, if_true, e1_0, P15, ← hS1, cV_s, e131_0, p1, hq, cR_s]
      have kc : X.nw 1 i = 1 ∨ X.nw 1 i = 2 ∨ X.nw 1 i = 3 ∨ X.nw 1 i = 4 ∨ X.nw 1 i = 5 := by omega
      have wc : w = 0 ∨ w = 1 := by omega
      rcases wc with rfl | rfl
      · rcases kc with hk | hk | hk | hk | hk
        · have hq : aR (mk S1) 17 2 (nI (X.nw 1 i) - 1) = some 18 := by rw [hk]; exact aR17 S1 (i := 0) (by omega)
          obtain ⟨S2, b1, b2, b3⟩ := c4_1 ask (by omega) (fun _ => rfl) sc 33 (p := 18)
          refine ask_fin (X := X) (r := nI (X.nw 3 i) + (nI i + nI (X.nw 6 i))) (r' := nI (X.nw 3 i) + (nI i + nI (X.nw 6 i))) hX ?_ hM (rfl) ⟨S2, ?_, b2, frc.tr b3⟩ (fun T hM1 => ?_)
          · exact (XOk_lv (XOk_lv (XOk_lv (XOk_lv hX0 (by simp only [lvX_tn, tn0]; omega) 11) (by simp only [lvX_tn, tn0]; omega) 10) (by simp only [lvX_tn, tn0]; omega) 21) (by simp only [lvX_tn, tn0]; omega) 20)
          · rw [cS 18 hq]
            rw [if_pos (show nI 0 = 0 from rfl), show clsOf (mk S1) 18 = some 1 from rfl, if_pos rfl, b1, cI_s]
          · obtain ⟨T2, d1, d2, d3⟩ := g221_1 (mp0 T hM1) hX0 (i := i) (by rw [nw0]; exact hi) (by rw [nw0]; exact hk) (by omega) sc 32
            rw [nw0] at d1
            refine ⟨T2, ?_, d2, FrM.tr (FrM.up (by omega)) d3⟩
            rw [mS T hM1, if_pos (show nI 0 = 0 from rfl), d1, cI_s]
        · have hq : aR (mk S1) 17 2 (nI (X.nw 1 i) - 1) = some 19 := by rw [hk]; exact aR17 S1 (i := 1) (by omega)
          obtain ⟨S2, b1, b2, b3⟩ := c78 ask (by omega) (fun _ => rfl) sc 32 (p := 19)
          refine ask_fin (X := X) (r := 0 - (nI (X.nw 3 i) + 2 * (nI i + nI (X.nw 6 i)))) (r' := -(nI (X.nw 3 i) + 2 * (nI i + nI (X.nw 6 i)))) hX ?_ hM (neg_I _) ⟨S2, ?_, b2, frc.tr b3⟩ (fun T hM1 => ?_)
          · exact (XOk_lv (XOk_lv (XOk_lv (XOk_lv (XOk_lv (XOk_lv hX0 (by simp only [lvX_tn, tn0]; omega) 12) (by simp only [lvX_tn, tn0]; omega) 11) (by simp only [lvX_tn, tn0]; omega) 10) (by simp only [lvX_tn, tn0]; omega) 24) (by simp only [lvX_tn, tn0]; omega) 21) (by simp only [lvX_tn, tn0]; omega) 20)
          · rw [cS 19 hq]
            rw [if_pos (show nI 0 = 0 from rfl), show clsOf (mk S1) 19 = some 9 from rfl, if_neg (show ¬ (some 9 : Option Nat) = some 1 by decide), if_pos rfl, b1, cI_s]
          · obtain ⟨T2, d1, d2, d3⟩ := g221_2 (mp0 T hM1) hX0 (i := i) (by rw [nw0]; exact hi) (by rw [nw0]; exact hk) (by omega) sc 32
            rw [nw0] at d1
            refine ⟨T2, ?_, d2, FrM.tr (FrM.up (by omega)) d3⟩
            rw [mS T hM1, if_pos (show nI 0 = 0 from rfl), d1, cI_s]
        · have hq : aR (mk S1) 17 2 (nI (X.nw 1 i) - 1) = some 20 := by rw [hk]; exact aR17 S1 (i := 2) (by omega)
          obtain ⟨S2, b1, b2, b3⟩ := c4_3 ask (by omega) (fun _ => rfl) sc 33 (p := 20)
          refine ask_fin (X := X) (r := nI (X.nw 3 i) + ((nI i + nI (X.nw 6 i)) - 1000)) (r' := nI (X.nw 3 i) + ((nI i + nI (X.nw 6 i)) - 1000)) hX ?_ hM (rfl) ⟨S2, ?_, b2, frc.tr b3⟩ (fun T hM1 => ?_)
          · exact (XOk_lv (XOk_lv (XOk_lv (XOk_lv (XOk_lv hX0 (by simp only [lvX_tn, tn0]; omega) 11) (by simp only [lvX_tn, tn0]; omega) 10) (by simp only [lvX_tn, tn0]; omega) 22) (by simp only [lvX_tn, tn0]; omega) 21) (by simp only [lvX_tn, tn0]; omega) 20)
          · rw [cS 20 hq]
            rw [if_pos (show nI 0 = 0 from rfl), show clsOf (mk S1) 20 = some 3 from rfl, if_neg (show ¬ (some 3 : Option Nat) = some 1 by decide), if_neg (show ¬ (some 3 : Option Nat) = some 9 by decide), if_pos rfl, b1, cI_s]
          · obtain ⟨T2, d1, d2, d3⟩ := g221_3 (mp0 T hM1) hX0 (i := i) (by rw [nw0]; exact hi) (by rw [nw0]; exact hk) (by omega) sc 32
            rw [nw0] at d1
            refine ⟨T2, ?_, d2, FrM.tr (FrM.up (by omega)) d3⟩
            rw [mS T hM1, if_pos (show nI 0 = 0 from rfl), d1, cI_s]
        · have hq : aR (mk S1) 17 2 (nI (X.nw 1 i) - 1) = some 21 := by rw [hk]; exact aR17 S1 (i := 3) (by omega)
          obtain ⟨S2, b1, b2, b3⟩ := c54 ask (by omega) (c := 5) (fun _ => rfl) sc 35 (p := 21)
          refine ask_fin (X := X) (r := nI (X.nw 3 i) - 100) (r' := nI (X.nw 3 i) - 100) hX ?_ hM (rfl) ⟨S2, ?_, b2, frc.tr b3⟩ (fun T hM1 => ?_)
          · exact (XOk_lv (XOk_lv hX0 (by simp only [lvX_tn, tn0]; omega) 13) (by simp only [lvX_tn, tn0]; omega) 10)
          · rw [cS 21 hq]
            rw [if_pos (show nI 0 = 0 from rfl), show clsOf (mk S1) 21 = some 5 from rfl, if_neg (show ¬ (some 5 : Option Nat) = some 1 by decide), if_neg (show ¬ (some 5 : Option Nat) = some 9 by decide), if_neg (show ¬ (some 5 : Option Nat) = some 3 by decide), if_pos rfl, b1, cI_s]
          · obtain ⟨T2, d1, d2, d3⟩ := g221_4 (mp0 T hM1) hX0 (i := i) (by rw [nw0]; exact hi) (by rw [nw0]; exact hk) (by omega) sc 32
            rw [nw0] at d1
            refine ⟨T2, ?_, d2, FrM.tr (FrM.up (by omega)) d3⟩
            rw [mS T hM1, if_pos (show nI 0 = 0 from rfl), d1, cI_s]
        · have hq : aR (mk S1) 17 2 (nI (X.nw 1 i) - 1) = some 22 := by rw [hk]; exact aR17 S1 (i := 4) (by omega)
          obtain ⟨S2, b1, b2, b3⟩ := c68 ask (by omega) (c := 7) (fun _ => rfl) sc 34 (p := 22)
          refine ask_fin (X := X) (r := 2 * (nI (X.nw 3 i) - 100)) (r' := 2 * (nI (X.nw 3 i) - 100)) hX ?_ hM (rfl) ⟨S2, ?_, b2, frc.tr b3⟩ (fun T hM1 => ?_)
          · exact (XOk_lv (XOk_lv (XOk_lv hX0 (by simp only [lvX_tn, tn0]; omega) 14) (by simp only [lvX_tn, tn0]; omega) 13) (by simp only [lvX_tn, tn0]; omega) 10)
          · rw [cS 22 hq]
            rw [if_pos (show nI 0 = 0 from rfl), show clsOf (mk S1) 22 = some 7 from rfl, if_neg (show ¬ (some 7 : Option Nat) = some 1 by decide), if_neg (show ¬ (some 7 : Option Nat) = some 9 by decide), if_neg (show ¬ (some 7 : Option Nat) = some 3 by decide), if_neg (show ¬ (some 7 : Option Nat) = some 5 by decide), if_pos rfl, b1, cI_s]
          · obtain ⟨T2, d1, d2, d3⟩ := g221_5 (mp0 T hM1) hX0 (i := i) (by rw [nw0]; exact hi) (by rw [nw0]; exact hk) (by omega) sc 32
            rw [nw0] at d1
            refine ⟨T2, ?_, d2, FrM.tr (FrM.up (by omega)) d3⟩
            rw [mS T hM1, if_pos (show nI 0 = 0 from rfl), d1, cI_s]
      · rcases kc with hk | hk | hk | hk | hk
        · have hq : aR (mk S1) 17 2 (nI (X.nw 1 i) - 1) = some 18 := by rw [hk]; exact aR17 S1 (i := 0) (by omega)
          obtain ⟨S2, b1, b2, b3⟩ := c5 ask (by omega) (c := 1) (fun _ => rfl) sc 35 (p := 18)
          refine ask_fin (X := X) (r := (nI i + nI (X.nw 6 i))) (r' := (nI i + nI (X.nw 6 i))) hX ?_ hM (rfl) ⟨S2, ?_, b2, frc.tr b3⟩ (fun T hM1 => ?_)
          · exact (XOk_lv (XOk_lv hX0 (by simp only [lvX_tn, tn0]; omega) 21) (by simp only [lvX_tn, tn0]; omega) 20)
          · rw [cS 18 hq]
            rw [if_neg (show ¬ nI 1 = 0 by decide), e114_3]
            simp only [O0, oB_s]
            rw [show clsOf (mk S1) 18 = some 1 from rfl, if_pos rfl, b1, cI_s]
          · obtain ⟨T2, d1, d2, d3⟩ := g222_1 (mp0 T hM1) hX0 (i := i) (by rw [nw0]; exact hi) (by rw [nw0]; exact hk) (by omega) sc 32
            rw [nw0] at d1
            refine ⟨T2, ?_, d2, FrM.tr (FrM.up (by omega)) d3⟩
            rw [mS T hM1, if_neg (show ¬ nI 1 = 0 by decide), d1, cI_s]
        · have hq : aR (mk S1) 17 2 (nI (X.nw 1 i) - 1) = some 19 := by rw [hk]; exact aR17 S1 (i := 1) (by omega)
          obtain ⟨S2, b1, b2, b3⟩ := c79 ask (by omega) (c := 9) (fun _ => rfl) sc 34 (p := 19)
          refine ask_fin (X := X) (r := 2 * (nI i + nI (X.nw 6 i))) (r' := 2 * (nI i + nI (X.nw 6 i))) hX ?_ hM (rfl) ⟨S2, ?_, b2, frc.tr b3⟩ (fun T hM1 => ?_)
          · exact (XOk_lv (XOk_lv (XOk_lv hX0 (by simp only [lvX_tn, tn0]; omega) 24) (by simp only [lvX_tn, tn0]; omega) 21) (by simp only [lvX_tn, tn0]; omega) 20)
          · rw [cS 19 hq]
            rw [if_neg (show ¬ nI 1 = 0 by decide), e114_3]
            simp only [O0, oB_s]
            rw [show clsOf (mk S1) 19 = some 9 from rfl, if_neg (show ¬ (some 9 : Option Nat) = some 1 by decide), if_pos rfl, b1, cI_s]
          · obtain ⟨T2, d1, d2, d3⟩ := g222_2 (mp0 T hM1) hX0 (i := i) (by rw [nw0]; exact hi) (by rw [nw0]; exact hk) (by omega) sc 32
            rw [nw0] at d1
            refine ⟨T2, ?_, d2, FrM.tr (FrM.up (by omega)) d3⟩
            rw [mS T hM1, if_neg (show ¬ nI 1 = 0 by decide), d1, cI_s]
        · have hq : aR (mk S1) 17 2 (nI (X.nw 1 i) - 1) = some 20 := by rw [hk]; exact aR17 S1 (i := 2) (by omega)
          obtain ⟨S2, b1, b2, b3⟩ := c30 ask (by omega) (c := 3) (fun _ => rfl) sc 34 (p := 20)
          refine ask_fin (X := X) (r := (nI i + nI (X.nw 6 i)) - 1000) (r' := (nI i + nI (X.nw 6 i)) - 1000) hX ?_ hM (rfl) ⟨S2, ?_, b2, frc.tr b3⟩ (fun T hM1 => ?_)
          · exact (XOk_lv (XOk_lv (XOk_lv hX0 (by simp only [lvX_tn, tn0]; omega) 22) (by simp only [lvX_tn, tn0]; omega) 21) (by simp only [lvX_tn, tn0]; omega) 20)
          · rw [cS 20 hq]
            rw [if_neg (show ¬ nI 1 = 0 by decide), e114_3]
            simp only [O0, oB_s]
            rw [show clsOf (mk S1) 20 = some 3 from rfl, if_neg (show ¬ (some 3 : Option Nat) = some 1 by decide), if_neg (show ¬ (some 3 : Option Nat) = some 9 by decide), if_pos rfl, b1, cI_s]
          · obtain ⟨T2, d1, d2, d3⟩ := g222_3 (mp0 T hM1) hX0 (i := i) (by rw [nw0]; exact hi) (by rw [nw0]; exact hk) (by omega) sc 32
            rw [nw0] at d1
            refine ⟨T2, ?_, d2, FrM.tr (FrM.up (by omega)) d3⟩
            rw [mS T hM1, if_neg (show ¬ nI 1 = 0 by decide), d1, cI_s]
        · have hq : aR (mk S1) 17 2 (nI (X.nw 1 i) - 1) = some 21 := by rw [hk]; exact aR17 S1 (i := 3) (by omega)
          obtain ⟨S2, b1, b2, b3⟩ := c55_5 ask (by omega) (fun _ => rfl) sc 33 (p := 21)
          refine ask_fin (X := X) (r := nI i - (nI (X.nw 3 i) - 100)) (r' := nI i - (nI (X.nw 3 i) - 100)) hX ?_ hM (rfl) ⟨S2, ?_, b2, frc.tr b3⟩ (fun T hM1 => ?_)
          · exact (XOk_lv (XOk_lv (XOk_lv (XOk_lv hX0 (by simp only [lvX_tn, tn0]; omega) 23) (by simp only [lvX_tn, tn0]; omega) 20) (by simp only [lvX_tn, tn0]; omega) 13) (by simp only [lvX_tn, tn0]; omega) 10)
          · rw [cS 21 hq]
            rw [if_neg (show ¬ nI 1 = 0 by decide), e114_3]
            simp only [O0, oB_s]
            rw [show clsOf (mk S1) 21 = some 5 from rfl, if_neg (show ¬ (some 5 : Option Nat) = some 1 by decide), if_neg (show ¬ (some 5 : Option Nat) = some 9 by decide), if_neg (show ¬ (some 5 : Option Nat) = some 3 by decide), if_pos rfl, b1, cI_s]
          · obtain ⟨T2, d1, d2, d3⟩ := g222_4 (mp0 T hM1) hX0 (i := i) (by rw [nw0]; exact hi) (by rw [nw0]; exact hk) (by omega) sc 32
            rw [nw0] at d1
            refine ⟨T2, ?_, d2, FrM.tr (FrM.up (by omega)) d3⟩
            rw [mS T hM1, if_neg (show ¬ nI 1 = 0 by decide), d1, cI_s]
        · have hq : aR (mk S1) 17 2 (nI (X.nw 1 i) - 1) = some 22 := by rw [hk]; exact aR17 S1 (i := 4) (by omega)
          obtain ⟨S2, b1, b2, b3⟩ := c55_7 ask (by omega) (fun _ => rfl) sc 33 (p := 22)
          refine ask_fin (X := X) (r := nI i - 2 * (nI (X.nw 3 i) - 100)) (r' := nI i - 2 * (nI (X.nw 3 i) - 100)) hX ?_ hM (rfl) ⟨S2, ?_, b2, frc.tr b3⟩ (fun T hM1 => ?_)
          · exact (XOk_lv (XOk_lv (XOk_lv (XOk_lv (XOk_lv hX0 (by simp only [lvX_tn, tn0]; omega) 23) (by simp only [lvX_tn, tn0]; omega) 20) (by simp only [lvX_tn, tn0]; omega) 14) (by simp only [lvX_tn, tn0]; omega) 13) (by simp only [lvX_tn, tn0]; omega) 10)
          · rw [cS 22 hq]
            rw [if_neg (show ¬ nI 1 = 0 by decide), e114_3]
            simp only [O0, oB_s]
            rw [show clsOf (mk S1) 22 = some 7 from rfl, if_neg (show ¬ (some 7 : Option Nat) = some 1 by decide), if_neg (show ¬ (some 7 : Option Nat) = some 9 by decide), if_neg (show ¬ (some 7 : Option Nat) = some 3 by decide), if_neg (show ¬ (some 7 : Option Nat) = some 5 by decide), if_pos rfl, b1, cI_s]
          · obtain ⟨T2, d1, d2, d3⟩ := g222_5 (mp0 T hM1) hX0 (i := i) (by rw [nw0]; exact hi) (by rw [nw0]; exact hk) (by omega) sc 32
            rw [nw0] at d1
            refine ⟨T2, ?_, d2, FrM.tr (FrM.up (by omega)) d3⟩
            rw [mS T hM1, if_neg (show ¬ nI 1 = 0 by decide), d1, cI_s]
    · refine ⟨-1000001, S, S, ?_, ?_, X, hX, hC, hM⟩
      · rw [e114_0]
        simp only [O0, if_true, isLetterC hC, within_eq, cI_s, ii_0]
        rw [if_pos c1, if_neg c2, e114_1]
      · rw [e223_0]
        simp only [O359, if_true, isLetterM hM.stat, fun S => inL sc y 0 1 0 1 S 37 rfl rfl, cI_s, ii_0]
        rw [if_pos c1, if_neg c2, e223_1]
  · refine ⟨-1000001, S, S, ?_, ?_, X, hX, hC, hM⟩
    · rw [e114_0]
      simp only [O0, if_true, isLetterC hC, within_eq, cI_s, ii_0]
      rw [if_neg c1, e114_1]
    · rw [e223_0]
      simp only [O359, if_true, isLetterM hM.stat, cI_s, ii_0]
      rw [if_neg c1, e223_1]
