/-! a tick in plain numbers -/
def dn (q : Nat) : Nat := if q = 0 then 21 else q - 1
/-- thick of all at a floor, but one -/
def ldB (a : Hs) (q i : Nat) : Nat := ld a q - (if a 5 i = q then a 3 i else 0)
def roomS (a : Hs) (i q : Nat) : Bool := decide (a 1 i = 2 ∨ ldB a q i + a 3 i ≤ a 0 1)
def fallS (a : Hs) (i : Nat) : Nat := if a 1 i = 5 then (if 1 + a 7 i < 4 then 1 + a 7 i else 4) else if a 1 i = 4 then 1 else if a 1 i = 3 then (if clrB (ly a (a 5 i)) i = 0 then 2 else 1) else 2
def goS : Nat → Hs → Nat → Hs
  | 0, a, _ => a
  | k + 1, a, i => if a 5 i = 21 then a else if a 5 i = 0 ∨ roomS a i (a 5 i - 1) = true then goS k (upA a 5 i (dn (a 5 i))) i else a
def fallA (a : Hs) (i : Nat) : Hs := if (goS (fallS a i) a i) 5 i = a 5 i then upA (upA a 6 i (if a 6 i + 1 < 999 then a 6 i + 1 else 999)) 7 i 0 else upA (goS (fallS a i) a i) 7 i (a 7 i + 1)
/-- those that lie at a floor fall, by numbers -/
def floorA (lay : Nat → Nat) (f : Nat) (a : Hs) : Hs := iter (a 0 3) (fun l b => if lay l = f then fallA b l else b) a
def comeA (k : Nat) (a : Hs) : Hs := if a 5 (a 8 k) = 20 ∧ (a 0 4).testBit (a 8 k) = false ∧ a 4 (a 8 k) ≤ a 0 2 ∧ roomS a (a 8 k) (a 2 (a 8 k)) = true then upA a 5 (a 8 k) (a 2 (a 8 k)) else a
def tickS (a : Hs) : Hs :=
  let a1 := iter (a 0 0) (floorA (a 5)) a
  let a2 := iter (a 0 3) comeA a1
  upA a2 0 2 (a 0 2 + 1)
theorem upA_self (a : Hs) (c j : Nat) : upA a c j (a c j) = a := by
  funext c' j'
  rw [upA_at]
  split
  · next h => rw [h.1, h.2]
  · rfl
theorem upA_upA (a : Hs) (c j v w : Nat) : upA (upA a c j v) c j w = upA a c j w := by
  funext c' j'
  simp only [upA_at]
  split <;> rfl
/-- only the place of one letter changes as it goes down, and only downwards -/
theorem goS_spec (i : Nat) : ∀ (k : Nat) (a : Hs), ∃ q, goS k a i = upA a 5 i q ∧ (q = a 5 i ∨ (a 5 i ≠ 21 ∧ (q = 21 ∨ q < a 5 i)))
  | 0, a => ⟨a 5 i, by unfold goS; rw [upA_self], Or.inl rfl⟩
  | k + 1, a => by
    unfold goS
    split
    · exact ⟨a 5 i, (upA_self a 5 i).symm, Or.inl rfl⟩
    · next h21 =>
      split
      · obtain ⟨q, h1, h2⟩ := goS_spec i k (upA a 5 i (dn (a 5 i)))
        refine ⟨q, by rw [h1, upA_upA], ?_⟩
        rw [upA_same] at h2
        right
        refine ⟨h21, ?_⟩
        have hd : dn (a 5 i) = 21 ∨ dn (a 5 i) < a 5 i := by
          unfold dn
          split
          · exact Or.inl rfl
          · exact Or.inr (by omega)
        rcases h2 with h2 | ⟨h3, h2⟩
        · rw [h2]; exact hd
        · rcases h2 with h2 | h2
          · exact Or.inl h2
          · rcases hd with hd | hd
            · exact absurd hd h3
            · exact Or.inr (by omega)
      · exact ⟨a 5 i, (upA_self a 5 i).symm, Or.inl rfl⟩
theorem WF_mv {B : Nat} {a : Hs} (hw : WFg B a) {i q : Nat} (hq : q < a 0 0 ∨ q = 20 ∨ q = 21) : WFg B (upA a 5 i q) := by
  obtain ⟨h1, h2, h3, h4, h5, h6⟩ := hw
  refine ⟨h1, h2, h3, h4, h5, fun j hj => ?_⟩
  have := h6 j hj
  refine ⟨this.1, this.2.1, this.2.2.1, this.2.2.2.1, ?_, this.2.2.2.2.2⟩
  rw [upA_at]
  split
  · exact hq
  · exact this.2.2.2.2.1
theorem WF_go {B : Nat} {a : Hs} (hw : WFg B a) {i : Nat} (hF : a 5 i < a 0 0) (k : Nat) : WFg B (goS k a i) := by
  obtain ⟨q, h1, h2⟩ := goS_spec i k a
  rw [h1]
  refine WF_mv hw ?_
  rcases h2 with h2 | ⟨h3, h2 | h2⟩
  · rw [h2]; exact Or.inl hF
  · exact Or.inr (Or.inr h2)
  · exact Or.inl (by omega)
theorem WF_67 {B : Nat} {a : Hs} (hw : WFg B a) {i v : Nat} (hv : v ≤ 999) : WFg B (upA a 6 i v) := by
  obtain ⟨h1, h2, h3, h4, h5, h6⟩ := hw
  refine ⟨h1, h2, h3, h4, h5, fun j hj => ?_⟩
  have := h6 j hj
  refine ⟨this.1, this.2.1, this.2.2.1, this.2.2.2.1, this.2.2.2.2.1, ?_, this.2.2.2.2.2.2⟩
  rw [upA_at]
  split
  · exact hv
  · exact this.2.2.2.2.2.1
theorem WF_7 {B B' : Nat} {a : Hs} (hw : WFg B a) {i v : Nat} (hB : B ≤ B') (hv : v ≤ B') : WFg B' (upA a 7 i v) := by
  obtain ⟨h1, h2, h3, h4, h5, h6⟩ := hw
  refine ⟨h1, h2, h3, h4, h5, fun j hj => ?_⟩
  have := h6 j hj
  refine ⟨this.1, this.2.1, this.2.2.1, this.2.2.2.1, this.2.2.2.2.1, this.2.2.2.2.2.1, ?_, this.2.2.2.2.2.2.2⟩
  rw [upA_at]
  split
  · exact hv
  · have := this.2.2.2.2.2.2.1
    show a 7 j ≤ B'
    omega
theorem WF_fall {B : Nat} {a : Hs} (hw : WFg B a) {i : Nat} (hi : i < a 0 3) (hF : a 5 i < a 0 0) : WFg (B + 1) (fallA a i) := by
  unfold fallA
  split
  · exact WF_7 (WF_67 hw (by split <;> omega)) (by omega) (by omega)
  · exact WF_7 (WF_go hw hF _) (by omega) (by have := (hw.2.2.2.2.2 i hi).2.2.2.2.2.2.1; omega)
theorem fallA_c {a : Hs} {i c : Nat} (h : c ≠ 5 ∧ c ≠ 6 ∧ c ≠ 7) : fallA a i c = a c := by
  unfold fallA
  obtain ⟨q, h1, -⟩ := goS_spec i (fallS a i) a
  split
  · rw [upA_c h.2.2, upA_c h.2.1]
  · rw [upA_c h.2.2, h1, upA_c h.1]
/-- the letter that falls goes down, or stays; the others stay -/
theorem fallA_5 {a : Hs} {i : Nat} : (∀ j, j ≠ i → fallA a i 5 j = a 5 j) ∧ (fallA a i 5 i = a 5 i ∨ (a 5 i ≠ 21 ∧ (fallA a i 5 i = 21 ∨ fallA a i 5 i < a 5 i))) := by
  unfold fallA
  obtain ⟨q, h1, h2⟩ := goS_spec i (fallS a i) a
  split
  · rw [upA_c (by omega), upA_c (by omega)]
    exact ⟨fun _ _ => rfl, Or.inl rfl⟩
  · rw [upA_c (by omega), h1]
    exact ⟨fun j hj => upA_ne (fun q => hj q.2), by rw [upA_same]; exact h2⟩
def stepF (lay : Nat → Nat) (f : Nat) (l : Nat) (b : Hs) : Hs := if lay l = f then fallA b l else b
theorem stepF_c {lay : Nat → Nat} {f l c : Nat} {b : Hs} (h : c ≠ 5 ∧ c ≠ 6 ∧ c ≠ 7) : stepF lay f l b c = b c := by
  unfold stepF
  split
  · exact fallA_c h
  · rfl
theorem iterF_c {lay : Nat → Nat} {f c : Nat} {b : Hs} (h : c ≠ 5 ∧ c ≠ 6 ∧ c ≠ 7) : ∀ n, iter n (stepF lay f) b c = b c
  | 0 => rfl
  | n + 1 => by show stepF lay f n _ c = _; rw [stepF_c h, iterF_c h n]
/-- where letters are while the floor f is gone through, l of its letters done -/
def LayOk (lay : Nat → Nat) (f l : Nat) (b : Hs) : Prop := ∀ j, j < b 0 3 → (if lay j < f ∨ (lay j = f ∧ j < l) then b 5 j = 21 ∨ b 5 j ≤ lay j else b 5 j = lay j)
theorem LayOk.step {lay : Nat → Nat} {f l : Nat} {b : Hs} (h : LayOk lay f l b) (hl : l < b 0 3) (hlay : f < 20) : LayOk lay f (l + 1) (stepF lay f l b) := by
  intro j hj
  rw [stepF_c (by omega)] at hj
  have hj' := h j hj
  by_cases e : lay l = f
  · have hs : stepF lay f l b = fallA b l := if_pos e
    rw [hs]
    obtain ⟨o1, o2⟩ := fallA_5 (a := b) (i := l)
    by_cases hjl : j = l
    · subst hjl
      rw [if_pos (Or.inr ⟨e, by omega⟩)]
      rw [if_neg (by omega)] at hj'
      rw [hj'] at o2
      rcases o2 with o2 | ⟨-, o2 | o2⟩
      · exact Or.inr (by omega)
      · exact Or.inl o2
      · exact Or.inr (by omega)
    · rw [o1 j hjl]
      split
      · next hc => rw [if_pos (by omega)] at hj'; exact hj'
      · next hc => rw [if_neg (by omega)] at hj'; exact hj'
  · have hs : stepF lay f l b = b := if_neg e
    rw [hs]
    split
    · next hc =>
      rw [if_pos] at hj'
      · exact hj'
      · rcases hc with hc | ⟨hc1, hc2⟩
        · exact Or.inl hc
        · refine Or.inr ⟨hc1, ?_⟩
          by_cases hjl : j = l
          · subst hjl; exact absurd hc1 e
          · omega
    · next hc => rw [if_neg (by omega)] at hj'; exact hj'
theorem LayOk.next {lay : Nat → Nat} {f : Nat} {b : Hs} (h : LayOk lay f (b 0 3) b) : LayOk lay (f + 1) 0 b := by
  intro j hj
  have hj' := h j hj
  split
  · next hc =>
    rw [if_pos (by omega)] at hj'
    exact hj'
  · next hc =>
    rw [if_neg (by omega)] at hj'
    exact hj'
theorem LayOk.at {lay : Nat → Nat} {f : Nat} {b : Hs} (h : LayOk lay f 0 b) {j : Nat} (hj : j < b 0 3) (hf : f < 20) : b 5 j = f ↔ lay j = f := by
  have hj' := h j hj
  split at hj'
  · next hc => omega
  · next hc => omega
theorem LayOk.itr {lay : Nat → Nat} {f : Nat} {b : Hs} (h : LayOk lay f 0 b) (hf : f < 20) : ∀ n, n ≤ b 0 3 → LayOk lay f n (iter n (stepF lay f) b)
  | 0, _ => h
  | n + 1, hn => (LayOk.itr h hf n (by omega)).step (by rw [iterF_c (by omega)]; omega) hf
theorem floorA_eq (lay : Nat → Nat) (f : Nat) (a : Hs) : floorA lay f a = iter (a 0 3) (stepF lay f) a := rfl
theorem floorA_c {lay : Nat → Nat} {f c : Nat} {b : Hs} (h : c ≠ 5 ∧ c ≠ 6 ∧ c ≠ 7) : floorA lay f b c = b c := iterF_c h _
theorem iterG_c {lay : Nat → Nat} {c : Nat} {b : Hs} (h : c ≠ 5 ∧ c ≠ 6 ∧ c ≠ 7) : ∀ n, iter n (floorA lay) b c = b c
  | 0 => rfl
  | n + 1 => by show floorA lay n _ c = _; rw [floorA_c h, iterG_c h n]
theorem LayOk.floors {a : Hs} (hf : a 0 0 ≤ 20) : ∀ n, n ≤ a 0 0 → LayOk (a 5) n 0 (iter n (floorA (a 5)) a)
  | 0, _ => fun j _ => by rw [if_neg (by omega)]; rfl
  | n + 1, hn => by
    have ih := LayOk.floors hf n (by omega)
    show LayOk (a 5) (n + 1) 0 (floorA (a 5) n (iter n (floorA (a 5)) a))
    refine LayOk.next ?_
    rw [floorA_c (by omega), floorA_eq]
    exact LayOk.itr ih (by omega) _ (Nat.le_refl _)
