/-! the machine does what the abstract one says: jumps, calls, returns; a block -/
def PreA (G : PG) (D : va_G) (tys : List (ClassId × FieldType)) (b bs : Nat) (sc : Nat × (Nat → Int32)) (as : List Value) (h : AH) : Array Value → State → Prop := va_Pc (as.map (vmv b bs)) (fun U => U.heap.size = b + h.1 ∧ va_P D G.cl (wld b bs (cAt tys) h) U.heap ∧ KS G D tys U ∧ va_X bs sc.1 sc.2 U U.heap)
/-- the contract of a method, of one run of the abstract machine -/
def MetA (G : PG) (D : va_G) (tys : List (ClassId × FieldType)) (b bs : Nat) (sc : Nat × (Nat → Int32)) (l : Launch) (c : Nat) (as : List Value) (h : AH) (r : Option Value) (h' : AH) (d : Nat) : Prop :=
  Met l (G.M c).1 (.code (G.M c).1 (G.M c).2.1 (G.M c).2.2.1 (G.M c).2.2.2.1 :: TS G) ({ frames := d, cells := h'.1 - h.1, slots := h'.2.1 - h.2.1, locals := 40 * d }) (PreA G D tys b bs sc as h) (Post D G.cl b bs (cAt tys) r h') (h'.1 - h.1) (h'.2.1 - h.2.1) (fun q => b ≤ q)
/-- the words of nests keep as the tables warm -/
def XwOk (G : PG) : Prop := ∀ w ∈ G.xw, ∀ u U : State, u.WarmedH U.vm → va_Nw w u → va_Nw w U
def MOk (G : PG) : Prop := ∀ mi, mi < G.nM → (∃ q, okC G mi q = true) ∧ okM G mi = true
theorem KS.moved {G : PG} {D : va_G} {tys : List (ClassId × FieldType)} {u U : State} (hx : XwOk G) (hW : u.WarmedH U.vm) (h : KS G D tys u) : KS G D tys U := ⟨va_K.moved hW.alike h.1, fun w hw => hx w hw u U hW (h.2.1 w hw), fun q hq => va_Nc.moved hW.alike (h.2.2 q hq)⟩
theorem PreA.blind {G : PG} {D : va_G} {tys : List (ClassId × FieldType)} {b bs : Nat} {sc : Nat × (Nat → Int32)} (hx : XwOk G) (as : List Value) (h : AH) : FrameBlind (PreA G D tys b bs sc as h) := by
  intro a U g mk q
  obtain ⟨q1, q2, q3, q4, q5⟩ := q
  exact ⟨q1, q2, q3, KS.moved (u := U) (U := U.calling g mk a) hx (State.WarmedH.refl U) q4, va_X.moved (u := U) (U := U.calling g mk a) (Vm.Alike.refl U.vm) q5⟩
theorem retK_inv {k : Nat} {o : Option Res} {r : List Value} {F : List Value → AH → Option Res} {x : Res} (hx : retK k o r F = some x) : ∃ v h', o = some (v, h') ∧ F (v.toList ++ r) h' = some x := by
  unfold retK at hx
  split at hx
  · unfold cV at hx
    split at hx
    · exact ⟨_, _, rfl, hx⟩
    · cases hx
  · unfold cI at hx
    split at hx
    · exact ⟨_, _, rfl, hx⟩
    · cases hx
  · unfold cL at hx
    split at hx
    · exact ⟨_, _, rfl, hx⟩
    · cases hx
  · unfold cR at hx
    split at hx
    · exact ⟨_, _, rfl, hx⟩
    · cases hx
theorem popN_spec : ∀ (n : Nat) (acc st as r : List Value), popN n acc st = some (as, r) → ∃ l, l.length = n ∧ as = l ++ acc ∧ st = l.reverse ++ r := by
  intro n
  induction n with
  | zero => intro acc st as r h; cases h; exact ⟨[], rfl, rfl, rfl⟩
  | succ n ih =>
    intro acc st as r h
    cases st with
    | nil => cases h
    | cons v st =>
      obtain ⟨l, h1, h2, h3⟩ := ih _ _ _ _ h
      exact ⟨l ++ [v], by simp [h1], by simp [h2], by simp [h3]⟩
theorem popN_at {n : Nat} {st as r : List Value} (h : popN n [] st = some (as, r)) : as.length = n ∧ st = as.reverse ++ r := by
  obtain ⟨l, h1, h2, h3⟩ := popN_spec n [] st as r h
  rw [List.append_nil] at h2
  subst h2
  exact ⟨h1, h3⟩
theorem catS_map (b bs : Nat) (r : List Value) : ((r.map (vmv b bs)).map fun v => v.category).sum = catS r := by
  unfold catS
  rw [List.map_map]
  congr 1
  apply List.map_congr_left
  intro v _
  exact vmv_cat b bs v
theorem toL_map (b bs : Nat) (v : Option Value) (r : List Value) : (v.map (vmv b bs)).toList ++ r.map (vmv b bs) = (v.toList ++ r).map (vmv b bs) := by
  cases v <;> simp
theorem good_TS {G : PG} {w : Cond} (h : w ∈ TS G) : goodWord w = true := (List.mem_filter.mp h).2
theorem goodIn_TS {G : PG} {w : Cond} (hw : w ∈ TS G) : GoodIn (TS G) (w :: TS G) := by
  intro v hv
  have hm : v ∈ TS G := by
    rcases List.mem_cons.mp hv with rfl | h
    · exact hw
    · exact h
  exact ⟨hm, good_of_word (good_TS hm)⟩
theorem tsw_spec {x : Int} {L : List (Nat × Nat × Nat)} {K : Nat → Nat → Option Res} {a m : Nat} {z : Res} (h : swk x L K a m = some z) : (∃ q ∈ L, x = (q.1 : Int) ∧ K q.2.1 q.2.2 = some z) ∨ ((∀ q ∈ L, ¬ x = (q.1 : Int)) ∧ K a m = some z) := by
  induction L with
  | nil => exact Or.inr ⟨fun _ h => absurd h List.not_mem_nil, h⟩
  | cons q r ih =>
    obtain ⟨k, b1, m1⟩ := q
    unfold swk at h
    split at h
    · next e => exact Or.inl ⟨_, List.mem_cons_self, e, h⟩
    · next e =>
      rcases ih h with ⟨q, h1, h2⟩ | ⟨h1, h2⟩
      · exact Or.inl ⟨q, List.mem_cons_of_mem _ h1, h2⟩
      · refine Or.inr ⟨fun q hq => ?_, h2⟩
        rcases List.mem_cons.mp hq with rfl | hq
        · exact e
        · exact h1 q hq
section Lst
variable {G : PG} {D : va_G} {tys : List (ClassId × FieldType)} {b bs : Nat} {sc : Nat × (Nat → Int32)} {mi : Nat} {h0 : AH}
variable {p : Program} {l : Launch} {e : Env} {R : Room} {s : State} {m : MethodId} {args : Array Value} {below : List Frame} {meth : Method} {c : Code} {H : Heap} {locs : List Loc} {cells slots : Nat} {Q : State → Prop}
/-- the method's end, as its caller wants it -/
def RetOk (G : PG) (D : va_G) (tys : List (ClassId × FieldType)) (b bs : Nat) (mi : Nat) (h0 : AH) (p : Program) (l : Launch) (e : Env) (R : Room) (s : State) (m : MethodId) (args : Array Value) (below : List Frame) (meth : Method) (c : Code) (Q : State → Prop) (x : Res) : Prop :=
  (∀ (H : Heap) (locs : List Loc) (cells slots pc : Nat) (lr : Array Slot) (v : Int32) (ty : FieldType), x.1 = some (.int v) → (G.M mi).2.2.2.1 = some ty → narrow ty (.int v) = .int v → decode (G.M mi).2.1 pc = .ok (.ireturn, 1) → SR G D tys b bs s h0 x.2 H locs cells slots → W p l e R s m args below meth c H locs cells slots Q (F0 m pc lr [.int v])) ∧
  (∀ (H : Heap) (locs : List Loc) (cells slots pc : Nat) (lr : Array Slot) (v : Int64), x.1 = some (.long v) → (G.M mi).2.2.2.1 = some .long → decode (G.M mi).2.1 pc = .ok (.lreturn, 1) → SR G D tys b bs s h0 x.2 H locs cells slots → W p l e R s m args below meth c H locs cells slots Q (F0 m pc lr [.long v])) ∧
  (∀ (H : Heap) (locs : List Loc) (cells slots pc : Nat) (lr : Array Slot) (v : Nat) (n : String), x.1 = some (.ref v) → (G.M mi).2.2.2.1 = some (.object n) → decode (G.M mi).2.1 pc = .ok (.areturn, 1) → SR G D tys b bs s h0 x.2 H locs cells slots → W p l e R s m args below meth c H locs cells slots Q (F0 m pc lr [.ref (b + v)])) ∧
  (∀ (H : Heap) (locs : List Loc) (cells slots pc : Nat) (lr : Array Slot), x.1 = none → (G.M mi).2.2.2.1 = none → decode (G.M mi).2.1 pc = .ok (.return_, 1) → SR G D tys b bs s h0 x.2 H locs cells slots → W p l e R s m args below meth c H locs cells slots Q (F0 m pc lr []))
/-- behind a call -/
theorem SR.called {h h' : AH} {H1 : Heap} {locs1 : List Loc} (hR : SR G D tys b bs s h0 h H locs cells slots) (hg : Gr h h') (hP : va_P D G.cl (wld b bs (cAt tys) h') H1) (hS : va_S (fun q => b ≤ q) s.heap H1 locs1) : SR G D tys b bs s h0 h' H1 locs1 (cells + (h'.1 - h.1)) (slots + (h'.2.1 - h.2.1)) := by
  obtain ⟨-, -, h3, h4, h5, h6⟩ := hR
  have g1 := hg.1
  have g2 := hg.2
  exact ⟨hP, hS, by omega, by omega, Nat.le_trans h5 g1, Nat.le_trans h6 g2⟩
/-- what the callee may take for granted -/
theorem SR.pre {h : AH} (hF : FC G D tys b bs sc mi p s m args meth c h0) (hx : XwOk G) (hR : SR G D tys b bs s h0 h H locs cells slots) (hu : H.size ≤ s.heap.size + cells) (as : List Value) : ∀ U : State, U.heap = H → s.WarmedH U.vm → PreA G D tys b bs sc as h (as.map (vmv b bs)).toArray U := by
  obtain ⟨-, -, -, -, -, -, -, -, hK, hX, hbs, hsz⟩ := hF
  intro U hU hW
  refine ⟨rfl, ?_, ?_, KS.moved hx hW hK, ?_⟩
  · rw [hU]; exact hR.size hsz hu
  · rw [hU]; exact hR.1
  · rw [hU]
    exact va_X.moved hW.alike (hX.kept (hR.2.1.2.1 bs (by omega) (by show ¬ b ≤ bs; omega)))
end Lst
