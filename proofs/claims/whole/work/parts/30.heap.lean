/-! the heap after both constructors: a function of its ints S (place, index); written by wip/whole/gen_heap.py -/
def hclG (f : Nat → Int32) (p off : Nat) : va_E := if off = 0 then .inr (2, [.int (f 0), .int (f 1), .int (f 2), .int (f 3), .int (f 4), .ref (p + 1), .ref (p + 2), .ref (p + 3), .ref (p + 4), .ref (p + 5), .ref (p + 6), .ref (p + 7), .ref (p + 8), .ref (p + 9), .ref (p + 10)]) else .inl (0, if off ≤ 8 then 6 else 22, .inl f)
def othG (f : Nat → Int32) (k : Nat) : va_E := if k = 0 then .inr (10, [.ref 1, .ref 13, .ref 15, .ref 17, .ref 23, .ref 34, .ref 45, .ref 71, .ref 72, .int (f 9), .int (f 10), .int (f 11), .int (f 12)]) else if k = 1 then .inr (8, [.ref 2, .ref 3, .ref 4]) else if k = 2 then .inl (0, 8, .inl f) else if k = 3 then .inl (0, 8, .inl f) else if k = 4 then .inl (3, 8, .inr (.inr (.inr (.inr (fun i => if i < 8 then some (5 + i) else none))))) else if k = 5 then .inl (0, 40, .inl f) else if k = 6 then .inl (0, 40, .inl f) else if k = 7 then .inl (0, 40, .inl f) else if k = 8 then .inl (0, 40, .inl f) else if k = 9 then .inl (0, 40, .inl f) else if k = 10 then .inl (0, 40, .inl f) else if k = 11 then .inl (0, 40, .inl f) else if k = 12 then .inl (0, 40, .inl f) else if k = 13 then .inr (6, [.ref 14, .int (f 1), .int (f 2), .int (f 3), .int (f 4)]) else if k = 14 then .inl (0, 100, .inl f) else if k = 15 then .inr (0, [.ref 16, .int (f 1), .int (f 2), .int (f 3), .int (f 4)]) else if k = 16 then .inl (0, 16, .inl f) else if k = 17 then .inl (2, 5, .inr (.inr (.inr (.inr (fun i => if i < 5 then some (18 + i) else none))))) else if k = 18 then .inr (1, []) else if k = 19 then .inr (9, []) else if k = 20 then .inr (3, []) else if k = 21 then .inr (5, []) else if k = 22 then .inr (7, []) else if k = 45 then .inr (4, [.ref 46, .ref 57, .ref 68, .ref 69, .int (f 4), .int (f 5), .ref 70, .int (f 7)]) else if k = 68 then .inl (0, 6, .inl f) else if k = 69 then .inl (0, 6, .inl f) else if k = 70 then .inl (0, 12, .inl f) else if k = 71 then .inl (1, 24, .inr (.inr (.inr (.inr (fun i => if i < 24 then some (73 + 11 * i) else none))))) else if k = 72 then .inl (1, 2, .inr (.inr (.inr (.inr (fun i => if i < 2 then some (337 + 11 * i) else none))))) else if k = 359 then .inr (11, [.ref 360, .ref 361, .ref 362, .int (f 3), .int (f 4), .int (f 5), .int (f 6), .ref 363, .ref 364, .ref 365, .ref 366, .int (f 11), .ref 367, .int (f 13), .int (f 14), .ref 368, .int (f 16), .ref 369, .int (f 18), .int (f 19), .int (f 20), .int (f 21), .int (f 22), .ref 370, .ref 371, .ref 372, .int (f 26), .int (f 27), .ref 373, .int (f 29), .int (f 30), .int (f 31), .ref 374, .ref 375, .ref 376]) else if k = 360 then .inl (0, 320, .inl f) else if k = 361 then .inl (0, 8, .inl f) else if k = 362 then .inl (0, 8, .inl f) else if k = 363 then .inl (0, 6, .inl f) else if k = 364 then .inl (0, 6, .inl f) else if k = 365 then .inl (0, 32, .inl f) else if k = 366 then .inl (0, 768, .inl f) else if k = 367 then .inl (0, 96, .inl f) else if k = 368 then .inl (0, 100, .inl f) else if k = 369 then .inl (0, 16, .inl f) else if k = 370 then .inl (0, 6, .inl f) else if k = 371 then .inl (0, 6, .inl f) else if k = 372 then .inl (0, 32, .inl f) else if k = 373 then .inl (0, 32, .inl f) else if k = 374 then .inl (0, 6, .inl f) else if k = 375 then .inl (0, 6, .inl f) else if k = 376 then .inl (0, 6, .inl f) else .inr (0, [])
def cellG (f : Nat → Int32) (k : Nat) : va_E := if 73 ≤ k ∧ k < 359 then hclG f (k - (k - 73) % 11) ((k - 73) % 11) else if 46 ≤ k ∧ k < 68 then hclG f (k - (k - 46) % 11) ((k - 46) % 11) else if 23 ≤ k ∧ k < 45 then hclG f (k - (k - 23) % 11) ((k - 23) % 11) else othG f k
def mk (S : Nat → Nat → Int32) : AH := (377, 5248, fun k => cellG (S k) k)
/-- one int written -/
def up (S : Nat → Nat → Int32) (k j : Nat) (x : Int32) : Nat → Nat → Int32 := va_up S k (upd (S k) j x)
theorem up_at (S : Nat → Nat → Int32) (k j : Nat) (x : Int32) (k' j' : Nat) : up S k j x k' j' = if k' = k ∧ j' = j then x else S k' j' := by
  unfold up va_up upd
  by_cases h : k' = k
  · subst h
    by_cases h2 : j' = j <;> simp [h2]
  · simp [h]
theorem up_row_ne {S : Nat → Nat → Int32} {k j k' : Nat} {x : Int32} (h : k' ≠ k) : up S k j x k' = S k' := by
  unfold up va_up
  rw [if_neg h]
theorem up_same (S : Nat → Nat → Int32) (k j : Nat) (x : Int32) : up S k j x k j = x := by rw [up_at, if_pos ⟨rfl, rfl⟩]
theorem up_ne {S : Nat → Nat → Int32} {k j k' j' : Nat} {x : Int32} (h : ¬ (k' = k ∧ j' = j)) : up S k j x k' j' = S k' j' := by rw [up_at, if_neg h]
theorem hset_mk (S : Nat → Nat → Int32) (k : Nat) (f : Nat → Int32) : hset (mk S) k (cellG f k) = mk (va_up S k f) := by
  unfold hset mk
  refine congrArg (fun g => (_, _, g)) (funext fun j => ?_)
  unfold va_up
  by_cases h : j = k
  · subst h; simp
  · simp [h]
theorem hcell_mk {S : Nat → Nat → Int32} {k : Nat} (hk : k < 377) : hcell (mk S) k = some (cellG (S k) k) := by
  unfold hcell
  rw [if_pos (show k < (mk S).1 from hk)]
  rfl
-- arrays of ints
def AL (k n : Nat) : Prop := k < 377 ∧ ∀ f, cellG f k = .inl (0, n, .inl f)
theorem aI_mk {S : Nat → Nat → Int32} {k n : Nat} (h : AL k n) (i : Int32) : aI (mk S) k i = if i < 0 ∨ n ≤ i.toNatClampNeg then none else some (S k i.toNatClampNeg) := by
  unfold aI
  rw [hcell_mk h.1, h.2]
  rfl
theorem sI_mk {S : Nat → Nat → Int32} {k n : Nat} (h : AL k n) (i x : Int32) : sI (mk S) k i x = if i < 0 ∨ n ≤ i.toNatClampNeg then none else some (mk (up S k i.toNatClampNeg x)) := by
  unfold sI
  rw [hcell_mk h.1, h.2]
  have e := hset_mk S k (upd (S k) i.toNatClampNeg x)
  rw [h.2] at e
  show (if i < 0 ∨ n ≤ i.toNatClampNeg then none else some (hset (mk S) k (.inl (0, n, .inl (upd (S k) i.toNatClampNeg x))))) = _
  rw [e]
  rfl
theorem aI_at {S : Nat → Nat → Int32} {k n j : Nat} (h : AL k n) (hj : j < n) (hn : n ≤ 1000) : aI (mk S) k (nI j) = some (S k j) := by
  rw [aI_mk h, if_neg (nI_in hj (by omega)), nI_clamp (by omega)]
theorem sI_at {S : Nat → Nat → Int32} {k n j : Nat} (h : AL k n) (hj : j < n) (hn : n ≤ 1000) (x : Int32) : sI (mk S) k (nI j) x = some (mk (up S k j x)) := by
  rw [sI_mk h, if_neg (nI_in hj (by omega)), nI_clamp (by omega)]
/-- n ints of a row copied to the front of another -/
theorem cp_at {S : Nat → Nat → Int32} {s d n0 n1 a b n : Nat} (hs : AL s n0) (hd : AL d n1) (h0 : a + n ≤ n0) (h1 : b + n ≤ n1) (hn0 : n0 ≤ 1000) (hn1 : n1 ≤ 1000) : cpA (mk S) s (nI a) d (nI b) (nI n) = some (mk (va_up S d (va_cpy (S s) (S d) a b n))) := by
  unfold cpA
  rw [hcell_mk hs.1, hs.2, hcell_mk hd.1, hd.2]
  have e := hset_mk S d (va_cpy (S s) (S d) a b n)
  rw [hd.2] at e
  show (if _ then some (hset (mk S) d (.inl (0, n1, .inl (va_cpy (S s) (S d) (nI a).toNatClampNeg (nI b).toNatClampNeg (nI n).toNatClampNeg)))) else none) = _
  rw [nI_clamp (by omega), nI_clamp (by omega), nI_clamp (by omega), if_pos ⟨rfl, rfl, nI_pos (by omega), nI_pos (by omega), nI_pos (by omega), h0, h1⟩, e]
-- houses
def isH (p : Nat) : Prop := (73 ≤ p ∧ p < 359 ∧ (p - 73) % 11 = 0) ∨ (46 ≤ p ∧ p < 68 ∧ (p - 46) % 11 = 0) ∨ (23 ≤ p ∧ p < 45 ∧ (p - 23) % 11 = 0)
theorem isH_lt {p : Nat} (h : isH p) : p + 10 < 359 := by unfold isH at h; omega
theorem cell_H {p : Nat} (hp : isH p) {o : Nat} (ho : o ≤ 10) (f : Nat → Int32) : cellG f (p + o) = hclG f p o := by
  unfold isH at hp
  unfold cellG
  rcases hp with ⟨h1, h2, h3⟩ | ⟨h1, h2, h3⟩ | ⟨h1, h2, h3⟩
  · rw [if_pos (by omega)]
    rw [show (p + o - 73) % 11 = o by omega, show p + o - o = p by omega]
  · rw [if_neg (by omega), if_pos (by omega)]
    rw [show (p + o - 46) % 11 = o by omega, show p + o - o = p by omega]
  · rw [if_neg (by omega), if_neg (by omega), if_pos (by omega)]
    rw [show (p + o - 23) % 11 = o by omega, show p + o - o = p by omega]
theorem cell_H0 {p : Nat} (hp : isH p) (f : Nat → Int32) : cellG f p = hclG f p 0 := cell_H hp (o := 0) (by omega) f
theorem AL_6 {p : Nat} (hp : isH p) {o : Nat} (h1 : 1 ≤ o) (h2 : o ≤ 8) : AL (p + o) 6 := by
  refine ⟨by have := isH_lt hp; omega, fun f => ?_⟩
  rw [cell_H hp (by omega)]
  unfold hclG
  rw [if_neg (by omega), if_pos h2]
theorem AL_22 {p : Nat} (hp : isH p) {o : Nat} (h1 : 9 ≤ o) (h2 : o ≤ 10) : AL (p + o) 22 := by
  refine ⟨by have := isH_lt hp; omega, fun f => ?_⟩
  rw [cell_H hp (by omega)]
  unfold hclG
  rw [if_neg (by omega), if_neg (by omega)]
theorem H_cell {S : Nat → Nat → Int32} {p : Nat} (hp : isH p) : hcell (mk S) p = some (hclG (S p) p 0) := by rw [hcell_mk (by have := isH_lt hp; omega), cell_H0 hp]
theorem Hg {p : Nat} (hp : isH p) (S : Nat → Nat → Int32) : gI (mk S) p 2 0 = some (S p 0) ∧ gI (mk S) p 2 1 = some (S p 1) ∧ gI (mk S) p 2 2 = some (S p 2) ∧ gI (mk S) p 2 3 = some (S p 3) ∧ gI (mk S) p 2 4 = some (S p 4) ∧ gR (mk S) p 2 5 = some (p + 1) ∧ gR (mk S) p 2 6 = some (p + 2) ∧ gR (mk S) p 2 7 = some (p + 3) ∧ gR (mk S) p 2 8 = some (p + 4) ∧ gR (mk S) p 2 9 = some (p + 5) ∧ gR (mk S) p 2 10 = some (p + 6) ∧ gR (mk S) p 2 11 = some (p + 7) ∧ gR (mk S) p 2 12 = some (p + 8) ∧ gR (mk S) p 2 13 = some (p + 9) ∧ gR (mk S) p 2 14 = some (p + 10) ∧ clsOf (mk S) p = some 2 := by
  unfold gI gR clsOf
  rw [H_cell hp]
  exact ⟨rfl, rfl, rfl, rfl, rfl, rfl, rfl, rfl, rfl, rfl, rfl, rfl, rfl, rfl, rfl, rfl⟩
theorem Hp {p : Nat} (hp : isH p) (S : Nat → Nat → Int32) (x : Int32) : pV (mk S) p 2 0 (.int x) = some (mk (up S p 0 x)) ∧ pV (mk S) p 2 1 (.int x) = some (mk (up S p 1 x)) ∧ pV (mk S) p 2 2 (.int x) = some (mk (up S p 2 x)) ∧ pV (mk S) p 2 3 (.int x) = some (mk (up S p 3 x)) ∧ pV (mk S) p 2 4 (.int x) = some (mk (up S p 4 x)) := by
  have e : ∀ f, hset (mk S) p (hclG f p 0) = mk (va_up S p f) := fun f => by rw [← cell_H0 hp, hset_mk]
  unfold pV
  rw [H_cell hp]
  exact ⟨congrArg some (e (upd (S p) 0 x)), congrArg some (e (upd (S p) 1 x)), congrArg some (e (upd (S p) 2 x)), congrArg some (e (upd (S p) 3 x)), congrArg some (e (upd (S p) 4 x))⟩
theorem HA {p : Nat} (hp : isH p) (S : Nat → Nat → Int32) {j : Nat} (hj : j < 6) : aI (mk S) (p + 1) (nI j) = some (S (p + 1) j) ∧ aI (mk S) (p + 2) (nI j) = some (S (p + 2) j) ∧ aI (mk S) (p + 3) (nI j) = some (S (p + 3) j) ∧ aI (mk S) (p + 4) (nI j) = some (S (p + 4) j) ∧ aI (mk S) (p + 5) (nI j) = some (S (p + 5) j) ∧ aI (mk S) (p + 6) (nI j) = some (S (p + 6) j) ∧ aI (mk S) (p + 7) (nI j) = some (S (p + 7) j) ∧ aI (mk S) (p + 8) (nI j) = some (S (p + 8) j) := ⟨aI_at (AL_6 hp (o := 1) (by omega) (by omega)) hj (by omega), aI_at (AL_6 hp (o := 2) (by omega) (by omega)) hj (by omega), aI_at (AL_6 hp (o := 3) (by omega) (by omega)) hj (by omega), aI_at (AL_6 hp (o := 4) (by omega) (by omega)) hj (by omega), aI_at (AL_6 hp (o := 5) (by omega) (by omega)) hj (by omega), aI_at (AL_6 hp (o := 6) (by omega) (by omega)) hj (by omega), aI_at (AL_6 hp (o := 7) (by omega) (by omega)) hj (by omega), aI_at (AL_6 hp (o := 8) (by omega) (by omega)) hj (by omega)⟩
theorem HS {p : Nat} (hp : isH p) (S : Nat → Nat → Int32) {j : Nat} (hj : j < 6) (x : Int32) : sI (mk S) (p + 1) (nI j) x = some (mk (up S (p + 1) j x)) ∧ sI (mk S) (p + 2) (nI j) x = some (mk (up S (p + 2) j x)) ∧ sI (mk S) (p + 3) (nI j) x = some (mk (up S (p + 3) j x)) ∧ sI (mk S) (p + 4) (nI j) x = some (mk (up S (p + 4) j x)) ∧ sI (mk S) (p + 5) (nI j) x = some (mk (up S (p + 5) j x)) ∧ sI (mk S) (p + 6) (nI j) x = some (mk (up S (p + 6) j x)) ∧ sI (mk S) (p + 7) (nI j) x = some (mk (up S (p + 7) j x)) ∧ sI (mk S) (p + 8) (nI j) x = some (mk (up S (p + 8) j x)) := ⟨sI_at (AL_6 hp (o := 1) (by omega) (by omega)) hj (by omega) x, sI_at (AL_6 hp (o := 2) (by omega) (by omega)) hj (by omega) x, sI_at (AL_6 hp (o := 3) (by omega) (by omega)) hj (by omega) x, sI_at (AL_6 hp (o := 4) (by omega) (by omega)) hj (by omega) x, sI_at (AL_6 hp (o := 5) (by omega) (by omega)) hj (by omega) x, sI_at (AL_6 hp (o := 6) (by omega) (by omega)) hj (by omega) x, sI_at (AL_6 hp (o := 7) (by omega) (by omega)) hj (by omega) x, sI_at (AL_6 hp (o := 8) (by omega) (by omega)) hj (by omega) x⟩
theorem HA2 {p : Nat} (hp : isH p) (S : Nat → Nat → Int32) {j : Nat} (hj : j < 22) : aI (mk S) (p + 9) (nI j) = some (S (p + 9) j) ∧ aI (mk S) (p + 10) (nI j) = some (S (p + 10) j) := ⟨aI_at (AL_22 hp (o := 9) (by omega) (by omega)) hj (by omega), aI_at (AL_22 hp (o := 10) (by omega) (by omega)) hj (by omega)⟩
theorem HS2 {p : Nat} (hp : isH p) (S : Nat → Nat → Int32) {j : Nat} (hj : j < 22) (x : Int32) : sI (mk S) (p + 9) (nI j) x = some (mk (up S (p + 9) j x)) ∧ sI (mk S) (p + 10) (nI j) x = some (mk (up S (p + 10) j x)) := ⟨sI_at (AL_22 hp (o := 9) (by omega) (by omega)) hj (by omega) x, sI_at (AL_22 hp (o := 10) (by omega) (by omega)) hj (by omega) x⟩
theorem O0 (S : Nat → Nat → Int32) : gR (mk S) 0 10 0 = some 1 ∧ gR (mk S) 0 10 1 = some 13 ∧ gR (mk S) 0 10 2 = some 15 ∧ gR (mk S) 0 10 3 = some 17 ∧ gR (mk S) 0 10 4 = some 23 ∧ gR (mk S) 0 10 5 = some 34 ∧ gR (mk S) 0 10 6 = some 45 ∧ gR (mk S) 0 10 7 = some 71 ∧ gR (mk S) 0 10 8 = some 72 ∧ gI (mk S) 0 10 9 = some (S 0 9) ∧ gI (mk S) 0 10 10 = some (S 0 10) ∧ gI (mk S) 0 10 11 = some (S 0 11) ∧ gI (mk S) 0 10 12 = some (S 0 12) ∧ clsOf (mk S) 0 = some 10 := ⟨rfl, rfl, rfl, rfl, rfl, rfl, rfl, rfl, rfl, rfl, rfl, rfl, rfl, rfl⟩
theorem P0 (S : Nat → Nat → Int32) (x : Int32) : pV (mk S) 0 10 9 (.int x) = some (mk (up S 0 9 x)) ∧ pV (mk S) 0 10 10 (.int x) = some (mk (up S 0 10 x)) ∧ pV (mk S) 0 10 11 (.int x) = some (mk (up S 0 11 x)) ∧ pV (mk S) 0 10 12 (.int x) = some (mk (up S 0 12 x)) := ⟨congrArg some (hset_mk S 0 (upd (S 0) 9 x)), congrArg some (hset_mk S 0 (upd (S 0) 10 x)), congrArg some (hset_mk S 0 (upd (S 0) 11 x)), congrArg some (hset_mk S 0 (upd (S 0) 12 x))⟩
theorem O1 (S : Nat → Nat → Int32) : gR (mk S) 1 8 0 = some 2 ∧ gR (mk S) 1 8 1 = some 3 ∧ gR (mk S) 1 8 2 = some 4 ∧ clsOf (mk S) 1 = some 8 := ⟨rfl, rfl, rfl, rfl⟩
theorem O13 (S : Nat → Nat → Int32) : gR (mk S) 13 6 0 = some 14 ∧ gI (mk S) 13 6 1 = some (S 13 1) ∧ gI (mk S) 13 6 2 = some (S 13 2) ∧ gI (mk S) 13 6 3 = some (S 13 3) ∧ gI (mk S) 13 6 4 = some (S 13 4) ∧ clsOf (mk S) 13 = some 6 := ⟨rfl, rfl, rfl, rfl, rfl, rfl⟩
theorem P13 (S : Nat → Nat → Int32) (x : Int32) : pV (mk S) 13 6 1 (.int x) = some (mk (up S 13 1 x)) ∧ pV (mk S) 13 6 2 (.int x) = some (mk (up S 13 2 x)) ∧ pV (mk S) 13 6 3 (.int x) = some (mk (up S 13 3 x)) ∧ pV (mk S) 13 6 4 (.int x) = some (mk (up S 13 4 x)) := ⟨congrArg some (hset_mk S 13 (upd (S 13) 1 x)), congrArg some (hset_mk S 13 (upd (S 13) 2 x)), congrArg some (hset_mk S 13 (upd (S 13) 3 x)), congrArg some (hset_mk S 13 (upd (S 13) 4 x))⟩
theorem O15 (S : Nat → Nat → Int32) : gR (mk S) 15 0 0 = some 16 ∧ gI (mk S) 15 0 1 = some (S 15 1) ∧ gI (mk S) 15 0 2 = some (S 15 2) ∧ gI (mk S) 15 0 3 = some (S 15 3) ∧ gI (mk S) 15 0 4 = some (S 15 4) ∧ clsOf (mk S) 15 = some 0 := ⟨rfl, rfl, rfl, rfl, rfl, rfl⟩
theorem P15 (S : Nat → Nat → Int32) (x : Int32) : pV (mk S) 15 0 1 (.int x) = some (mk (up S 15 1 x)) ∧ pV (mk S) 15 0 2 (.int x) = some (mk (up S 15 2 x)) ∧ pV (mk S) 15 0 3 (.int x) = some (mk (up S 15 3 x)) ∧ pV (mk S) 15 0 4 (.int x) = some (mk (up S 15 4 x)) := ⟨congrArg some (hset_mk S 15 (upd (S 15) 1 x)), congrArg some (hset_mk S 15 (upd (S 15) 2 x)), congrArg some (hset_mk S 15 (upd (S 15) 3 x)), congrArg some (hset_mk S 15 (upd (S 15) 4 x))⟩
theorem O45 (S : Nat → Nat → Int32) : gR (mk S) 45 4 0 = some 46 ∧ gR (mk S) 45 4 1 = some 57 ∧ gR (mk S) 45 4 2 = some 68 ∧ gR (mk S) 45 4 3 = some 69 ∧ gI (mk S) 45 4 4 = some (S 45 4) ∧ gI (mk S) 45 4 5 = some (S 45 5) ∧ gR (mk S) 45 4 6 = some 70 ∧ gI (mk S) 45 4 7 = some (S 45 7) ∧ clsOf (mk S) 45 = some 4 := ⟨rfl, rfl, rfl, rfl, rfl, rfl, rfl, rfl, rfl⟩
theorem P45 (S : Nat → Nat → Int32) (x : Int32) : pV (mk S) 45 4 4 (.int x) = some (mk (up S 45 4 x)) ∧ pV (mk S) 45 4 5 (.int x) = some (mk (up S 45 5 x)) ∧ pV (mk S) 45 4 7 (.int x) = some (mk (up S 45 7 x)) := ⟨congrArg some (hset_mk S 45 (upd (S 45) 4 x)), congrArg some (hset_mk S 45 (upd (S 45) 5 x)), congrArg some (hset_mk S 45 (upd (S 45) 7 x))⟩
theorem O359 (S : Nat → Nat → Int32) : gR (mk S) 359 11 0 = some 360 ∧ gR (mk S) 359 11 1 = some 361 ∧ gR (mk S) 359 11 2 = some 362 ∧ gI (mk S) 359 11 3 = some (S 359 3) ∧ gI (mk S) 359 11 4 = some (S 359 4) ∧ gI (mk S) 359 11 5 = some (S 359 5) ∧ gI (mk S) 359 11 6 = some (S 359 6) ∧ gR (mk S) 359 11 7 = some 363 ∧ gR (mk S) 359 11 8 = some 364 ∧ gR (mk S) 359 11 9 = some 365 ∧ gR (mk S) 359 11 10 = some 366 ∧ gI (mk S) 359 11 11 = some (S 359 11) ∧ gR (mk S) 359 11 12 = some 367 ∧ gI (mk S) 359 11 13 = some (S 359 13) ∧ gI (mk S) 359 11 14 = some (S 359 14) ∧ gR (mk S) 359 11 15 = some 368 ∧ gI (mk S) 359 11 16 = some (S 359 16) ∧ gR (mk S) 359 11 17 = some 369 ∧ gI (mk S) 359 11 18 = some (S 359 18) ∧ gI (mk S) 359 11 19 = some (S 359 19) ∧ gI (mk S) 359 11 20 = some (S 359 20) ∧ gI (mk S) 359 11 21 = some (S 359 21) ∧ gI (mk S) 359 11 22 = some (S 359 22) ∧ gR (mk S) 359 11 23 = some 370 ∧ gR (mk S) 359 11 24 = some 371 ∧ gR (mk S) 359 11 25 = some 372 ∧ gI (mk S) 359 11 26 = some (S 359 26) ∧ gI (mk S) 359 11 27 = some (S 359 27) ∧ gR (mk S) 359 11 28 = some 373 ∧ gI (mk S) 359 11 29 = some (S 359 29) ∧ gI (mk S) 359 11 30 = some (S 359 30) ∧ gI (mk S) 359 11 31 = some (S 359 31) ∧ gR (mk S) 359 11 32 = some 374 ∧ gR (mk S) 359 11 33 = some 375 ∧ gR (mk S) 359 11 34 = some 376 ∧ clsOf (mk S) 359 = some 11 := ⟨rfl, rfl, rfl, rfl, rfl, rfl, rfl, rfl, rfl, rfl, rfl, rfl, rfl, rfl, rfl, rfl, rfl, rfl, rfl, rfl, rfl, rfl, rfl, rfl, rfl, rfl, rfl, rfl, rfl, rfl, rfl, rfl, rfl, rfl, rfl, rfl⟩
theorem P359 (S : Nat → Nat → Int32) (x : Int32) : pV (mk S) 359 11 3 (.int x) = some (mk (up S 359 3 x)) ∧ pV (mk S) 359 11 4 (.int x) = some (mk (up S 359 4 x)) ∧ pV (mk S) 359 11 5 (.int x) = some (mk (up S 359 5 x)) ∧ pV (mk S) 359 11 6 (.int x) = some (mk (up S 359 6 x)) ∧ pV (mk S) 359 11 11 (.int x) = some (mk (up S 359 11 x)) ∧ pV (mk S) 359 11 13 (.int x) = some (mk (up S 359 13 x)) ∧ pV (mk S) 359 11 14 (.int x) = some (mk (up S 359 14 x)) ∧ pV (mk S) 359 11 16 (.int x) = some (mk (up S 359 16 x)) ∧ pV (mk S) 359 11 18 (.int x) = some (mk (up S 359 18 x)) ∧ pV (mk S) 359 11 19 (.int x) = some (mk (up S 359 19 x)) ∧ pV (mk S) 359 11 20 (.int x) = some (mk (up S 359 20 x)) ∧ pV (mk S) 359 11 21 (.int x) = some (mk (up S 359 21 x)) ∧ pV (mk S) 359 11 22 (.int x) = some (mk (up S 359 22 x)) ∧ pV (mk S) 359 11 26 (.int x) = some (mk (up S 359 26 x)) ∧ pV (mk S) 359 11 27 (.int x) = some (mk (up S 359 27 x)) ∧ pV (mk S) 359 11 29 (.int x) = some (mk (up S 359 29 x)) ∧ pV (mk S) 359 11 30 (.int x) = some (mk (up S 359 30 x)) ∧ pV (mk S) 359 11 31 (.int x) = some (mk (up S 359 31 x)) := ⟨congrArg some (hset_mk S 359 (upd (S 359) 3 x)), congrArg some (hset_mk S 359 (upd (S 359) 4 x)), congrArg some (hset_mk S 359 (upd (S 359) 5 x)), congrArg some (hset_mk S 359 (upd (S 359) 6 x)), congrArg some (hset_mk S 359 (upd (S 359) 11 x)), congrArg some (hset_mk S 359 (upd (S 359) 13 x)), congrArg some (hset_mk S 359 (upd (S 359) 14 x)), congrArg some (hset_mk S 359 (upd (S 359) 16 x)), congrArg some (hset_mk S 359 (upd (S 359) 18 x)), congrArg some (hset_mk S 359 (upd (S 359) 19 x)), congrArg some (hset_mk S 359 (upd (S 359) 20 x)), congrArg some (hset_mk S 359 (upd (S 359) 21 x)), congrArg some (hset_mk S 359 (upd (S 359) 22 x)), congrArg some (hset_mk S 359 (upd (S 359) 26 x)), congrArg some (hset_mk S 359 (upd (S 359) 27 x)), congrArg some (hset_mk S 359 (upd (S 359) 29 x)), congrArg some (hset_mk S 359 (upd (S 359) 30 x)), congrArg some (hset_mk S 359 (upd (S 359) 31 x))⟩
theorem O18 (S : Nat → Nat → Int32) : clsOf (mk S) 18 = some 1 := rfl
theorem O19 (S : Nat → Nat → Int32) : clsOf (mk S) 19 = some 9 := rfl
theorem O20 (S : Nat → Nat → Int32) : clsOf (mk S) 20 = some 3 := rfl
theorem O21 (S : Nat → Nat → Int32) : clsOf (mk S) 21 = some 5 := rfl
theorem O22 (S : Nat → Nat → Int32) : clsOf (mk S) 22 = some 7 := rfl
theorem A2 : AL 2 8 := ⟨by decide, fun _ => rfl⟩
theorem A3 : AL 3 8 := ⟨by decide, fun _ => rfl⟩
theorem A5 : AL 5 40 := ⟨by decide, fun _ => rfl⟩
theorem A6 : AL 6 40 := ⟨by decide, fun _ => rfl⟩
theorem A7 : AL 7 40 := ⟨by decide, fun _ => rfl⟩
theorem A8 : AL 8 40 := ⟨by decide, fun _ => rfl⟩
theorem A9 : AL 9 40 := ⟨by decide, fun _ => rfl⟩
theorem A10 : AL 10 40 := ⟨by decide, fun _ => rfl⟩
theorem A11 : AL 11 40 := ⟨by decide, fun _ => rfl⟩
theorem A12 : AL 12 40 := ⟨by decide, fun _ => rfl⟩
theorem A14 : AL 14 100 := ⟨by decide, fun _ => rfl⟩
theorem A16 : AL 16 16 := ⟨by decide, fun _ => rfl⟩
theorem A68 : AL 68 6 := ⟨by decide, fun _ => rfl⟩
theorem A69 : AL 69 6 := ⟨by decide, fun _ => rfl⟩
theorem A70 : AL 70 12 := ⟨by decide, fun _ => rfl⟩
theorem A360 : AL 360 320 := ⟨by decide, fun _ => rfl⟩
theorem A361 : AL 361 8 := ⟨by decide, fun _ => rfl⟩
theorem A362 : AL 362 8 := ⟨by decide, fun _ => rfl⟩
theorem A363 : AL 363 6 := ⟨by decide, fun _ => rfl⟩
theorem A364 : AL 364 6 := ⟨by decide, fun _ => rfl⟩
theorem A365 : AL 365 32 := ⟨by decide, fun _ => rfl⟩
theorem A366 : AL 366 768 := ⟨by decide, fun _ => rfl⟩
theorem A367 : AL 367 96 := ⟨by decide, fun _ => rfl⟩
theorem A368 : AL 368 100 := ⟨by decide, fun _ => rfl⟩
theorem A369 : AL 369 16 := ⟨by decide, fun _ => rfl⟩
theorem A370 : AL 370 6 := ⟨by decide, fun _ => rfl⟩
theorem A371 : AL 371 6 := ⟨by decide, fun _ => rfl⟩
theorem A372 : AL 372 32 := ⟨by decide, fun _ => rfl⟩
theorem A373 : AL 373 32 := ⟨by decide, fun _ => rfl⟩
theorem A374 : AL 374 6 := ⟨by decide, fun _ => rfl⟩
theorem A375 : AL 375 6 := ⟨by decide, fun _ => rfl⟩
theorem A376 : AL 376 6 := ⟨by decide, fun _ => rfl⟩
theorem aR71 (S : Nat → Nat → Int32) {i : Nat} (h : i < 24) : aR (mk S) 71 1 (nI i) = some (73 + 11 * i) := by
  show (if (1 : Nat) = 1 then (if nI i < 0 ∨ 24 ≤ (nI i).toNatClampNeg then none else (if (nI i).toNatClampNeg < 24 then some (73 + 11 * (nI i).toNatClampNeg) else none)) else none) = _
  rw [if_pos rfl, if_neg (nI_in h (by omega)), nI_clamp (by omega), if_pos h]
theorem aR72 (S : Nat → Nat → Int32) {i : Nat} (h : i < 2) : aR (mk S) 72 1 (nI i) = some (337 + 11 * i) := by
  show (if (1 : Nat) = 1 then (if nI i < 0 ∨ 2 ≤ (nI i).toNatClampNeg then none else (if (nI i).toNatClampNeg < 2 then some (337 + 11 * (nI i).toNatClampNeg) else none)) else none) = _
  rw [if_pos rfl, if_neg (nI_in h (by omega)), nI_clamp (by omega), if_pos h]
theorem aR4 (S : Nat → Nat → Int32) {i : Nat} (h : i < 8) : aR (mk S) 4 3 (nI i) = some (5 + i) := by
  show (if (3 : Nat) = 3 then (if nI i < 0 ∨ 8 ≤ (nI i).toNatClampNeg then none else (if (nI i).toNatClampNeg < 8 then some (5 + (nI i).toNatClampNeg) else none)) else none) = _
  rw [if_pos rfl, if_neg (nI_in h (by omega)), nI_clamp (by omega), if_pos h]
theorem aR17 (S : Nat → Nat → Int32) {i : Nat} (h : i < 5) : aR (mk S) 17 2 (nI i) = some (18 + i) := by
  show (if (2 : Nat) = 2 then (if nI i < 0 ∨ 5 ≤ (nI i).toNatClampNeg then none else (if (nI i).toNatClampNeg < 5 then some (18 + (nI i).toNatClampNeg) else none)) else none) = _
  rw [if_pos rfl, if_neg (nI_in h (by omega)), nI_clamp (by omega), if_pos h]
-- literals
theorem lt0 : (0 : Int32) = nI 0 := rfl
theorem oB_s {α : Type} (a : α) (F : α → Option Res) : oB (some a) F = F a := rfl
theorem cI_s (x : Int32) (h : AH) (F : Int32 → AH → Option Res) : cI (some (some (.int x), h)) F = F x h := rfl
theorem cV_s (h : AH) (F : AH → Option Res) : cV (some (none, h)) F = F h := rfl
theorem cL_s (x : Int64) (h : AH) (F : Int64 → AH → Option Res) : cL (some (some (.long x), h)) F = F x h := rfl
theorem cR_s (x : Nat) (h : AH) (F : Nat → AH → Option Res) : cR (some (some (.ref x), h)) F = F x h := rfl
