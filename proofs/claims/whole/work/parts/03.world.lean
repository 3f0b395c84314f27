/-! the abstract heap as a world of the kit: place k is the cell at address b + k; the script is the cell at bs -/
def vmv (b bs : Nat) : Value → Value
  | .ref k => .ref (b + k)
  | .retAddr _ => .ref bs
  | v => v
theorem vmv_cat (b bs : Nat) (v : Value) : (vmv b bs v).category = v.category := by cases v <;> rfl
def trX (b : Nat) (x : (Nat → Int32) ⊕ (Nat → Int64) ⊕ (Nat → UInt32) ⊕ (Nat → UInt64) ⊕ (Nat → Option Nat)) : (Nat → Int32) ⊕ (Nat → Int64) ⊕ (Nat → UInt32) ⊕ (Nat → UInt64) ⊕ (Nat → Option Nat) := match x with
  | .inl f => .inl f
  | .inr (.inl f) => .inr (.inl f)
  | .inr (.inr (.inl f)) => .inr (.inr (.inl f))
  | .inr (.inr (.inr (.inl f))) => .inr (.inr (.inr (.inl f)))
  | .inr (.inr (.inr (.inr f))) => .inr (.inr (.inr (.inr (fun i => (f i).map (b + ·)))))
def trE (b bs : Nat) (cA : Nat → ClassId) : va_E → va_E
  | .inr (ci, fs) => .inr (ci, fs.map (vmv b bs))
  | .inl (t, n, x) => .inl (cA t, n, trX b x)
def wld (b bs : Nat) (cA : Nat → ClassId) (h : AH) : va_W := (List.range h.1).map fun k => (b + k, trE b bs cA (h.2.2 k))
theorem wld_get {b bs : Nat} {cA : Nat → ClassId} {h : AH} {k : Nat} (hk : k < h.1) : (wld b bs cA h)[k]? = some (b + k, trE b bs cA (h.2.2 k)) := by
  unfold wld
  simp [hk]
theorem wld_set {b bs : Nat} {cA : Nat → ClassId} {h : AH} {k : Nat} {c : va_E} : (wld b bs cA h).set k (b + k, trE b bs cA c) = wld b bs cA (hset h k c) := by
  apply List.ext_getElem?
  intro i
  unfold wld hset
  simp only [List.getElem?_set, List.getElem?_map, List.length_map, List.length_range]
  by_cases hi : k = i
  · subst hi
    by_cases h1 : k < h.1
    · simp [h1, va_up]
    · simp [h1]
  · have hi' : ¬ i = k := fun q => hi q.symm
    by_cases h1 : i < h.1
    · simp [hi, h1, va_up, hi']
    · simp [hi, h1]
theorem wld_push {b bs : Nat} {cA : Nat → ClassId} {h : AH} {c : va_E} {n : Nat} : wld b bs cA (hpush h c n) = wld b bs cA h ++ [(b + h.1, trE b bs cA c)] := by
  unfold wld hpush
  dsimp only
  rw [List.range_succ, List.map_append]
  congr 1
  · apply List.map_congr_left
    intro k hk
    have : k < h.1 := List.mem_range.mp hk
    simp [va_up, show ¬ k = h.1 by omega]
  · simp [va_up]
theorem wld_D {b bs : Nat} {cA : Nat → ClassId} {h : AH} : va_D (fun q => b ≤ q) (wld b bs cA h) := by
  have key : ∀ (i : Nat) (q : Nat × va_E), (wld b bs cA h)[i]? = some q → q.1 = b + i := by
    intro i q hq
    unfold wld at hq
    rw [List.getElem?_map] at hq
    cases hr : (List.range h.1)[i]? with
    | none => rw [hr] at hq; cases hq
    | some j =>
      rw [hr] at hq
      have hj : j = i := by
        obtain ⟨h1, h2⟩ := List.getElem?_eq_some_iff.mp hr
        simpa using h2.symm
      cases hq
      rw [hj]
  refine ⟨fun i j p q hp hq e => ?_, fun k q hq => ?_⟩
  · have h1 := key i p hp
    have h2 := key j q hq
    omega
  · have h1 := key k q hq
    show b ≤ q.1
    omega
theorem hcell_some {h : AH} {p : Nat} {c : va_E} (e : hcell h p = some c) : p < h.1 ∧ h.2.2 p = c := by
  unfold hcell at e
  split at e
  · next hp => cases e; exact ⟨hp, rfl⟩
  · cases e
theorem wld_at {b bs : Nat} {cA : Nat → ClassId} {h : AH} {p : Nat} {c : va_E} (e : hcell h p = some c) : (wld b bs cA h)[p]? = some (b + p, trE b bs cA c) := by
  obtain ⟨h1, h2⟩ := hcell_some e
  rw [wld_get h1, h2]
-- locals
def isJ (v : Value) : Bool := match v with
  | .float _ => true
  | _ => false
def prs (b bs : Nat) (ls : List Value) : List (Nat × Value) := (List.range ls.length).filterMap fun i => match ls[i]? with
  | some v => if isJ v = true then none else some (i, vmv b bs v)
  | none => none
theorem prs_mem {b bs : Nat} {ls : List Value} {i : Nat} {w : Value} : (i, w) ∈ prs b bs ls ↔ ∃ v, ls[i]? = some v ∧ isJ v = false ∧ w = vmv b bs v := by
  unfold prs
  rw [List.mem_filterMap]
  constructor
  · rintro ⟨j, hj, e⟩
    cases hv : ls[j]? with
    | none => rw [hv] at e; cases e
    | some v =>
      rw [hv] at e
      dsimp only at e
      split at e
      · cases e
      · next hJ => cases e; exact ⟨v, hv, by simpa using hJ, rfl⟩
  · rintro ⟨v, hv, hJ, rfl⟩
    have hl : i < ls.length := (List.getElem?_eq_some_iff.mp hv).1
    exact ⟨i, List.mem_range.mpr hl, by rw [hv]; simp [hJ]⟩
/-- the real locals hold what the abstract ones say -/
def LR (b bs nL : Nat) (ls : List Value) (lr : Array Slot) : Prop := ls.length = nL ∧ lv_has lr nL (prs b bs ls)
theorem LR.at {b bs nL : Nat} {ls : List Value} {lr : Array Slot} (h : LR b bs nL ls lr) {i : Nat} {v : Value} (hv : ls[i]? = some v) (hJ : isJ v = false) : lr[i]? = some (.val (vmv b bs v)) := h.2.2.2 (i, vmv b bs v) (prs_mem.mpr ⟨v, hv, hJ, rfl⟩)
theorem LR.weak {b bs nL : Nat} {ls' : List Value} {lr : Array Slot} {l : List (Nat × Value)} (h : lv_has lr nL l) (hl : ls'.length = nL) (hs : ∀ i v, ls'[i]? = some v → isJ v = false → (i, vmv b bs v) ∈ l) : LR b bs nL ls' lr := by
  refine ⟨hl, h.1, h.2.1, fun q hq => ?_⟩
  obtain ⟨i, w⟩ := q
  obtain ⟨v, hv, hJ, rfl⟩ := prs_mem.mp hq
  exact h.2.2 _ (hs i v hv hJ)
theorem killL_len (i : Nat) (ls : List Value) : (killL i ls).length = ls.length := by
  unfold killL
  split
  · rfl
  · split <;> simp
theorem killL_at {i j : Nat} {ls : List Value} {v : Value} (h : (killL i ls)[j]? = some v) (hJ : isJ v = false) : ls[j]? = some v ∧ (j + 1 = i → ¬ v.category = 2) := by
  unfold killL at h
  split at h
  · exact ⟨h, fun q => by omega⟩
  · next k =>
    split at h
    · next x hx =>
      rw [List.getElem?_set] at h
      split at h
      · split at h
        · cases h; cases hJ
        · cases h
      · next hne => exact ⟨h, fun q => absurd (show k = j by omega) hne⟩
    · next x hx =>
      rw [List.getElem?_set] at h
      split at h
      · split at h
        · cases h; cases hJ
        · cases h
      · next hne => exact ⟨h, fun q => absurd (show k = j by omega) hne⟩
    · next hx hy =>
      refine ⟨h, fun q => ?_⟩
      have hjk : j = k := by omega
      subst hjk
      cases v with
      | long x => exact absurd h (hx x)
      | double d => exact absurd h (hy d)
      | _ => simp [Value.category]
theorem st1_len {i : Nat} {v : Value} {ls l : List Value} (h : st1 i v ls = some l) : i < ls.length ∧ l = (killL i ls).set i v := by
  unfold st1 at h
  split at h
  · next hi => cases h; exact ⟨hi, rfl⟩
  · cases h
theorem st2_len {i : Nat} {v : Value} {ls l : List Value} (h : st2 i v ls = some l) : i + 1 < ls.length ∧ l = ((killL i ls).set i v).set (i + 1) Jk := by
  unfold st2 at h
  split at h
  · next hi => cases h; exact ⟨hi, rfl⟩
  · cases h
theorem LR.st1 {b bs nL i : Nat} {v : Value} {ls l : List Value} {lr lr' : Array Slot} (h : LR b bs nL ls lr) (hs : st1 i v ls = some l) (h' : lv_has lr' nL ((i, vmv b bs v) :: (prs b bs ls).filter (fun q => !(q.1 == i) && !(q.1 + 1 == i && q.2.category == 2)))) : LR b bs nL l lr' := by
  obtain ⟨hi, rfl⟩ := st1_len hs
  refine LR.weak h' (by rw [List.length_set, killL_len]; exact h.1) fun j w hw hJ => ?_
  rw [List.getElem?_set] at hw
  split at hw
  · next e =>
    subst e
    split at hw
    · cases hw; exact List.mem_cons_self
    · cases hw
  · next e =>
    obtain ⟨h1, h2⟩ := killL_at hw hJ
    refine List.mem_cons_of_mem _ (List.mem_filter.mpr ⟨prs_mem.mpr ⟨w, h1, hJ, rfl⟩, ?_⟩)
    have e' : ¬ j = i := fun q => e q.symm
    simp only [Bool.and_eq_true, Bool.not_eq_true', beq_eq_false_iff_ne, ne_eq, Bool.and_eq_false_iff]
    refine ⟨e', ?_⟩
    by_cases q : j + 1 = i
    · right; rw [vmv_cat]; exact h2 q
    · left; exact q
theorem LR.st2 {b bs nL i : Nat} {v : Value} {ls l : List Value} {lr lr' : Array Slot} (h : LR b bs nL ls lr) (hs : st2 i v ls = some l) (h' : lv_has lr' nL ((i, vmv b bs v) :: (prs b bs ls).filter (fun q => !(q.1 == i) && (!(q.1 == i + 1) && !(q.1 + 1 == i && q.2.category == 2))))) : LR b bs nL l lr' := by
  obtain ⟨hi, rfl⟩ := st2_len hs
  refine LR.weak h' (by rw [List.length_set, List.length_set, killL_len]; exact h.1) fun j w hw hJ => ?_
  rw [List.getElem?_set] at hw
  split at hw
  · next e =>
    split at hw
    · cases hw; cases hJ
    · cases hw
  · next e0 =>
    rw [List.getElem?_set] at hw
    split at hw
    · next e =>
      subst e
      split at hw
      · cases hw; exact List.mem_cons_self
      · cases hw
    · next e =>
      obtain ⟨h1, h2⟩ := killL_at hw hJ
      refine List.mem_cons_of_mem _ (List.mem_filter.mpr ⟨prs_mem.mpr ⟨w, h1, hJ, rfl⟩, ?_⟩)
      have e' : ¬ j = i := fun q => e q.symm
      have e0' : ¬ j = i + 1 := fun q => e0 q.symm
      simp only [Bool.and_eq_true, Bool.not_eq_true', beq_eq_false_iff_ne, ne_eq, Bool.and_eq_false_iff]
      refine ⟨e', e0', ?_⟩
      by_cases q : j + 1 = i
      · right; rw [vmv_cat]; exact h2 q
      · left; exact q
theorem mskN_len (m : Nat) (ls : List Value) : (mskN m ls).length = ls.length := by
  induction ls generalizing m with
  | nil => rfl
  | cons v r ih => simp [mskN, ih]
theorem mskN_at {m i : Nat} {ls : List Value} {v : Value} (h : (mskN m ls)[i]? = some v) (hJ : isJ v = false) : ls[i]? = some v := by
  induction ls generalizing m i with
  | nil => simp [mskN] at h
  | cons w r ih =>
    cases i with
    | zero =>
      simp only [mskN, List.getElem?_cons_zero, Option.some.injEq] at h
      split at h
      · subst h; rfl
      · subst h; cases hJ
    | succ i =>
      simp only [mskN, List.getElem?_cons_succ] at h ⊢
      exact ih h
theorem LR.msk {b bs nL : Nat} {ls : List Value} {lr : Array Slot} (h : LR b bs nL ls lr) (m : Nat) : LR b bs nL (mskN m ls) lr :=
  LR.weak h.2 (by rw [mskN_len]; exact h.1) fun i v hv hJ => prs_mem.mpr ⟨v, mskN_at hv hJ, hJ, rfl⟩
-- a method's entry
theorem layL_len (b bs : Nat) (as : List Value) : (lg_sl (as.map (vmv b bs))).length = (layL as).length := by
  induction as with
  | nil => rfl
  | cons v r ih =>
    unfold lg_sl at ih ⊢
    rw [List.map_cons, List.flatMap_cons, List.length_append, ih]
    cases v <;> simp [layL, vmv, Value.category] <;> omega
theorem layL_at (b bs : Nat) : ∀ (as : List Value) (k i : Nat) (v : Value), (layL as)[i]? = some v → isJ v = false → (k + i, vmv b bs v) ∈ lv_args k (as.map (vmv b bs)) := by
  intro as
  induction as with
  | nil => intro k i v h; simp [layL] at h
  | cons w r ih =>
    intro k i v h hJ
    rw [List.map_cons]
    unfold lv_args
    have one : ∀ (hw : w.category = 1) (hl : layL (w :: r) = w :: layL r), (k + i, vmv b bs v) ∈ (k, vmv b bs w) :: lv_args (if (vmv b bs w).category = 2 then k + 2 else k + 1) (r.map (vmv b bs)) := by
      intro hw hl
      rw [hl] at h
      cases i with
      | zero => simp at h; subst h; exact List.mem_cons_self
      | succ i =>
        rw [List.getElem?_cons_succ] at h
        refine List.mem_cons_of_mem _ ?_
        rw [vmv_cat, if_neg (by rw [hw]; decide)]
        have := ih (k + 1) i v h hJ
        rw [show k + (i + 1) = k + 1 + i by omega]
        exact this
    cases w with
    | long x =>
      have hl : layL (.long x :: r) = .long x :: Jk :: layL r := rfl
      rw [hl] at h
      match i, h with
      | 0, h => simp at h; subst h; exact List.mem_cons_self
      | 1, h => simp at h; subst h; cases hJ
      | i + 2, h =>
        rw [List.getElem?_cons_succ, List.getElem?_cons_succ] at h
        refine List.mem_cons_of_mem _ ?_
        rw [vmv_cat, if_pos (show (Value.long x).category = 2 from rfl)]
        have := ih (k + 2) i v h hJ
        rw [show k + (i + 2) = k + 2 + i by omega]
        exact this
    | double x =>
      have hl : layL (.double x :: r) = .double x :: Jk :: layL r := rfl
      rw [hl] at h
      match i, h with
      | 0, h => simp at h; subst h; exact List.mem_cons_self
      | 1, h => simp at h; subst h; cases hJ
      | i + 2, h =>
        rw [List.getElem?_cons_succ, List.getElem?_cons_succ] at h
        refine List.mem_cons_of_mem _ ?_
        rw [vmv_cat, if_pos (show (Value.double x).category = 2 from rfl)]
        have := ih (k + 2) i v h hJ
        rw [show k + (i + 2) = k + 2 + i by omega]
        exact this
    | int x => exact one rfl rfl
    | float x => exact one rfl rfl
    | null => exact one rfl rfl
    | ref x => exact one rfl rfl
    | retAddr x => exact one rfl rfl
theorem LR.entry {b bs nL : Nat} {as : List Value} (hn : (layL as).length ≤ nL) : LR b bs nL (entL nL as) ((lg_sl (as.map (vmv b bs)) ++ List.replicate (nL - (lg_sl (as.map (vmv b bs))).length) Slot.unset).toArray) := by
  refine LR.weak (lv_entry (as.map (vmv b bs)) (n := nL) (by rw [layL_len]; exact hn)) (by unfold entL; rw [List.length_append, List.length_replicate]; omega) fun i v hv hJ => ?_
  unfold entL at hv
  by_cases hi : i < (layL as).length
  · rw [List.getElem?_append_left hi] at hv
    have := layL_at b bs as 0 i v hv hJ
    rwa [Nat.zero_add] at this
  · rw [List.getElem?_append_right (by omega)] at hv
    have := List.getElem?_replicate (n := nL - (layL as).length) (a := Jk) (i := i - (layL as).length)
    rw [hv] at this
    split at this
    · cases this; cases hJ
    · cases this
