/-! constructors: houses, the heap cut off at a place -/
def S00 : Nat → Nat → Int32 := fun k j => if k = 2 ∨ k = 362 then (if j < 8 then -1 else 0) else if k = 359 ∧ j = 29 then -1000000 else 0
def dfc : va_E := .inr (0, [])
def cut (n : Nat) : Nat → va_E := fun k => if k < n then cellG (S00 k) k else dfc
theorem vup_comm {α : Type} {f : Nat → α} {j k : Nat} {a b : α} (h : j ≠ k) : va_up (va_up f j a) k b = va_up (va_up f k b) j a := by
  funext i
  unfold va_up
  by_cases e1 : i = k
  · rw [if_pos e1, if_neg (fun z => h (z.symm.trans e1)), if_pos e1]
  · rw [if_neg e1, if_neg e1]
theorem cut_at {n k : Nat} (h : k < n) : cut n k = cellG (S00 k) k := if_pos h
theorem cut_s {n : Nat} {c : va_E} (hc : cellG (S00 n) n = c) : va_up (cut n) n c = cut (n + 1) := by
  funext k
  unfold va_up cut
  by_cases e : k = n
  · rw [if_pos e, if_pos (by omega), e, hc]
  · rw [if_neg e]
    by_cases l : k < n
    · rw [if_pos l, if_pos (by omega)]
    · rw [if_neg l, if_neg (by omega)]
theorem cut_over {n : Nat} {c : va_E} : va_up (cut n) n c = va_up (cut (n + 1)) n c := by
  funext k
  unfold va_up cut
  by_cases e : k = n
  · rw [if_pos e, if_pos e]
  · rw [if_neg e, if_neg e]
    by_cases l : k < n
    · rw [if_pos l, if_pos (by omega)]
    · rw [if_neg l, if_neg (by omega)]
theorem cut_back {n k : Nat} {c : va_E} (h : k < n) (hc : cellG (S00 k) k = c) : va_up (cut n) k c = cut n := by
  funext i
  unfold va_up
  by_cases e : i = k
  · rw [if_pos e, e, cut_at h, hc]
  · rw [if_neg e]
def Z (m : Nat) : va_E := .inl (0, m, .inl (fun _ => 0))
/-- an object at p that is being made -/
def cH (n sl : Nat) (g : Nat → va_E) (p c : Nat) (fs : List Value) : AH := (n, sl, va_up g p (.inr (c, fs)))
theorem hcell_cH {n sl p c : Nat} {g : Nat → va_E} {fs : List Value} (hp : p < n) : hcell (cH n sl g p c fs) p = some (.inr (c, fs)) := by
  unfold hcell
  rw [if_pos (show p < (cH n sl g p c fs).1 from hp)]
  exact congrArg some (vup_at _ _ _)
theorem pv_o {n sl p c k : Nat} {g : Nat → va_E} {fs : List Value} {v : Value} (hp : p < n) (hk : k < fs.length) : pV (cH n sl g p c fs) p c k v = some (cH n sl g p c (fs.set k v)) := by
  unfold pV
  rw [hcell_cH hp]
  show (if c = c ∧ k < fs.length then some (hset (cH n sl g p c fs) p (.inr (c, fs.set k v))) else none) = _
  rw [if_pos ⟨rfl, hk⟩]
  show some ((n, sl, va_up (va_up g p _) p _) : AH) = _
  rw [vup_vup]
  rfl
theorem newI_cH {n sl p c m : Nat} {g : Nat → va_E} {fs : List Value} (hp : p < n) : newI (cH n sl g p c fs) m = cH (n + 1) (sl + m) (va_up g n (Z m)) p c fs := by
  show ((n + 1, sl + m, va_up (va_up g p (.inr (c, fs))) n (Z m)) : AH) = (n + 1, sl + m, va_up (va_up g n (Z m)) p (.inr (c, fs)))
  rw [vup_comm (by omega)]
theorem pv_n {n sl p c k m : Nat} {g : Nat → va_E} {fs : List Value} (hp : p < n) (hk : k < fs.length) : pV (newI (cH n sl g p c fs) m) p c k (.ref (Prod.fst (cH n sl g p c fs))) = some (cH (n + 1) (sl + m) (va_up g n (Z m)) p c (fs.set k (.ref n))) := by
  rw [newI_cH hp]
  exact pv_o (by omega) hk
theorem cls_cH {n sl p c : Nat} {g : Nat → va_E} {fs : List Value} (hp : p < n) : clsOf (cH n sl g p c fs) p = some c := by
  unfold clsOf
  rw [hcell_cH hp]
def hou (g : Nat → va_E) (p : Nat) : Nat → va_E := fun k => if p ≤ k ∧ k ≤ p + 10 then hclG (fun _ => 0) p (k - p) else g k
abbrev L2 : List (Nat × Nat × Nat) := [(0, 0, 0), (0, 0, 0), (0, 0, 0), (0, 0, 0), (0, 0, 0), (1, 0, 0), (1, 0, 0), (1, 0, 0), (1, 0, 0), (1, 0, 0), (1, 0, 0), (1, 0, 0), (1, 0, 0), (1, 0, 0), (1, 0, 0)]
theorem house_init (g : Nat → va_E) (p sl : Nat) (sc : Nat × (Nat → Int32)) (d : Nat) : EX sc (d + 1) 6 0 [.ref p] [] (cH (p + 1) sl g p 2 (dfl L2)) = some (none, (p + 11, sl + 92, hou g p)) := by
  have e6 : Int32.toNatClampNeg 6 = 6 := rfl
  have e22 : Int32.toNatClampNeg 22 = 22 := rfl
  have l15 : (dfl L2).length = 15 := rfl
  rw [e6_0, e6, e22]
  rw [pv_o (by omega) (by rw [l15]; omega), oB_s, pv_o (by omega) (by simp [l15]), oB_s, pv_o (by omega) (by simp [l15]), oB_s, pv_o (by omega) (by simp [l15]), oB_s, pv_o (by omega) (by simp [l15]), oB_s]
  rw [if_neg (by decide), pv_n (by omega) (by simp [l15]), oB_s, if_neg (by decide), pv_n (by omega) (by simp [l15]), oB_s, if_neg (by decide), pv_n (by omega) (by simp [l15]), oB_s, if_neg (by decide), pv_n (by omega) (by simp [l15]), oB_s, if_neg (by decide), pv_n (by omega) (by simp [l15]), oB_s, if_neg (by decide), pv_n (by omega) (by simp [l15]), oB_s, if_neg (by decide), pv_n (by omega) (by simp [l15]), oB_s, if_neg (by decide), pv_n (by omega) (by simp [l15]), oB_s, if_neg (by decide), pv_n (by omega) (by simp [l15]), oB_s, if_neg (by decide), pv_n (by omega) (by simp [l15]), oB_s]
  refine congrArg (fun z => some ((none : Option Value), ((p + 11, sl + 92, z) : AH))) ?_
  funext k
  unfold hou
  by_cases c : p ≤ k ∧ k ≤ p + 10
  · rw [if_pos c]
    obtain ⟨o, ho, rfl⟩ : ∃ o, o ≤ 10 ∧ k = p + o := ⟨k - p, by omega, by omega⟩
    rw [show p + o - p = o by omega]
    have e : o = 0 ∨ o = 1 ∨ o = 2 ∨ o = 3 ∨ o = 4 ∨ o = 5 ∨ o = 6 ∨ o = 7 ∨ o = 8 ∨ o = 9 ∨ o = 10 := by omega
    rcases e with rfl | rfl | rfl | rfl | rfl | rfl | rfl | rfl | rfl | rfl | rfl
    · exact (vup_at _ p _).trans rfl
    · rw [vup_ne (by omega), vup_ne (by omega), vup_ne (by omega), vup_ne (by omega), vup_ne (by omega), vup_ne (by omega), vup_ne (by omega), vup_ne (by omega), vup_ne (by omega), vup_ne (by omega), vup_at]; rfl
    · rw [vup_ne (by omega), vup_ne (by omega), vup_ne (by omega), vup_ne (by omega), vup_ne (by omega), vup_ne (by omega), vup_ne (by omega), vup_ne (by omega), vup_ne (by omega), vup_at]; rfl
    · rw [vup_ne (by omega), vup_ne (by omega), vup_ne (by omega), vup_ne (by omega), vup_ne (by omega), vup_ne (by omega), vup_ne (by omega), vup_ne (by omega), vup_at]; rfl
    · rw [vup_ne (by omega), vup_ne (by omega), vup_ne (by omega), vup_ne (by omega), vup_ne (by omega), vup_ne (by omega), vup_ne (by omega), vup_at]; rfl
    · rw [vup_ne (by omega), vup_ne (by omega), vup_ne (by omega), vup_ne (by omega), vup_ne (by omega), vup_ne (by omega), vup_at]; rfl
    · rw [vup_ne (by omega), vup_ne (by omega), vup_ne (by omega), vup_ne (by omega), vup_ne (by omega), vup_at]; rfl
    · rw [vup_ne (by omega), vup_ne (by omega), vup_ne (by omega), vup_ne (by omega), vup_at]; rfl
    · rw [vup_ne (by omega), vup_ne (by omega), vup_ne (by omega), vup_at]; rfl
    · rw [vup_ne (by omega), vup_ne (by omega), vup_at]; rfl
    · rw [vup_ne (by omega), vup_at]; rfl
  · rw [if_neg c, vup_ne (by omega), vup_ne (by omega), vup_ne (by omega), vup_ne (by omega), vup_ne (by omega), vup_ne (by omega), vup_ne (by omega), vup_ne (by omega), vup_ne (by omega), vup_ne (by omega), vup_ne (by omega)]
theorem hou_up {g : Nat → va_E} {p q : Nat} {o : va_E} (h : q < p) : hou (va_up g q o) p = va_up (hou g p) q o := by
  funext k
  unfold hou va_up
  by_cases c : p ≤ k ∧ k ≤ p + 10
  · rw [if_pos c, if_neg (by omega)]
    exact (if_pos c).symm
  · rw [if_neg c]
    by_cases e : k = q
    · rw [if_pos e, if_pos e]
    · rw [if_neg e, if_neg e]
      exact (if_neg c).symm
theorem S00_0 {k : Nat} (h1 : k ≠ 2) (h2 : k ≠ 362) (h3 : k ≠ 359) : S00 k = fun _ => 0 := by
  funext j
  unfold S00
  rw [if_neg (by omega), if_neg (by omega)]
theorem hou_cut {p : Nat} (hp : isH p) : hou (cut p) p = cut (p + 11) := by
  funext k
  unfold hou
  by_cases c : p ≤ k ∧ k ≤ p + 10
  · obtain ⟨o, ho, rfl⟩ : ∃ o, o ≤ 10 ∧ k = p + o := ⟨k - p, by omega, by omega⟩
    have := isH_lt hp
    have h22 : 23 ≤ p := by unfold isH at hp; omega
    rw [if_pos c, cut_at (by omega), cell_H hp ho, S00_0 (by omega) (by omega) (by omega), show p + o - p = o by omega]
  · rw [if_neg c]
    unfold cut
    by_cases l : k < p
    · rw [if_pos l, if_pos (by omega)]
    · rw [if_neg l, if_neg (by omega)]
/-- a new house where the heap is cut off -/
theorem newH {sc : Nat × (Nat → Int32)} {d n sl : Nat} {f : Nat → va_E} {K : AH → Option Res} : (oB (clsOf (newO (n, sl, f) 2 L2) (Prod.fst ((n, sl, f) : AH))) fun _ => cV (EX sc (d + 1) 6 0 [.ref (Prod.fst ((n, sl, f) : AH))] [] (newO (n, sl, f) 2 L2)) K) = K (n + 11, sl + 107, hou f n) := by
  have e : newO (n, sl, f) 2 L2 = cH (n + 1) (sl + 15) f n 2 (dfl L2) := rfl
  show (oB (clsOf (newO (n, sl, f) 2 L2) n) fun _ => cV (EX sc (d + 1) 6 0 [.ref n] [] (newO (n, sl, f) 2 L2)) K) = _
  rw [e, cls_cH (by omega), oB_s, house_init, cV_s, show sl + 15 + 92 = sl + 107 by omega]
