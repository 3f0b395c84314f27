/-! the abstract heap only grows -/
def Gr (h h' : AH) : Prop := h.1 ≤ h'.1 ∧ h.2.1 ≤ h'.2.1
theorem Gr.rf {h : AH} : Gr h h := ⟨Nat.le_refl _, Nat.le_refl _⟩
theorem Gr.tr {a b c : AH} (h1 : Gr a b) (h2 : Gr b c) : Gr a c := ⟨Nat.le_trans h1.1 h2.1, Nat.le_trans h1.2 h2.2⟩
theorem Gr.set {h : AH} {p : Nat} {c : va_E} : Gr h (hset h p c) := ⟨Nat.le_refl _, Nat.le_refl _⟩
theorem Gr.push {h : AH} {c : va_E} {n : Nat} : Gr h (hpush h c n) := ⟨Nat.le_succ _, Nat.le_add_right _ _⟩
theorem pV_set {h h' : AH} {p ci k : Nat} {v : Value} (e : pV h p ci k v = some h') : ∃ fs, hcell h p = some (.inr (ci, fs)) ∧ k < fs.length ∧ h' = hset h p (.inr (ci, fs.set k v)) := by
  unfold pV at e
  split at e
  · next c fs hc =>
    split at e
    · next hk =>
      obtain ⟨rfl, hk⟩ := hk
      cases e
      exact ⟨fs, hc, hk, rfl⟩
    · cases e
  · cases e
theorem sI_set {h h' : AH} {p : Nat} {i x : Int32} (e : sI h p i x = some h') : ∃ n f, hcell h p = some (.inl (0, n, .inl f)) ∧ vp_in i n ∧ h' = hset h p (.inl (0, n, .inl (upd f i.toNatClampNeg x))) := by
  unfold sI at e
  split at e
  · next t n f hc =>
    split at e
    · next ht =>
      subst ht
      split at e
      · cases e
      · next hi => cases e; exact ⟨n, f, hc, hi, rfl⟩
    · cases e
  · cases e
theorem aI_get {h : AH} {p : Nat} {i x : Int32} (e : aI h p i = some x) : ∃ n f, hcell h p = some (.inl (0, n, .inl f)) ∧ vp_in i n ∧ x = f i.toNatClampNeg := by
  unfold aI at e
  split at e
  · next t n f hc =>
    split at e
    · next ht =>
      subst ht
      split at e
      · cases e
      · next hi => cases e; exact ⟨n, f, hc, hi, rfl⟩
    · cases e
  · cases e
theorem aR_get {h : AH} {p t : Nat} {i : Int32} {x : Nat} (e : aR h p t i = some x) : ∃ n f, hcell h p = some (.inl (t, n, .inr (.inr (.inr (.inr f))))) ∧ vp_in i n ∧ f i.toNatClampNeg = some x := by
  unfold aR at e
  split at e
  · next t' n f hc =>
    split at e
    · next ht =>
      subst ht
      split at e
      · cases e
      · next hi => exact ⟨n, f, hc, hi, e⟩
    · cases e
  · cases e
theorem sR_set {h h' : AH} {p q : Nat} {i : Int32} (e : sR h p i q = some h') : ∃ t n f, hcell h p = some (.inl (t, n, .inr (.inr (.inr (.inr f))))) ∧ vp_in i n ∧ h' = hset h p (.inl (t, n, .inr (.inr (.inr (.inr (va_up f i.toNatClampNeg (some q))))))) := by
  unfold sR at e
  split at e
  · next t n f hc =>
    split at e
    · cases e
    · next hi => cases e; exact ⟨t, n, f, hc, hi, rfl⟩
  · cases e
theorem gI_get {h : AH} {p ci k : Nat} {x : Int32} (e : gI h p ci k = some x) : ∃ fs, hcell h p = some (.inr (ci, fs)) ∧ fs[k]? = some (.int x) := by
  unfold gI at e
  split at e
  · next c fs hc =>
    split at e
    · next ht =>
      subst ht
      split at e
      · next y hk => cases e; exact ⟨fs, hc, hk⟩
      · cases e
    · cases e
  · cases e
theorem gR_get {h : AH} {p ci k : Nat} {x : Nat} (e : gR h p ci k = some x) : ∃ fs, hcell h p = some (.inr (ci, fs)) ∧ fs[k]? = some (.ref x) := by
  unfold gR at e
  split at e
  · next c fs hc =>
    split at e
    · next ht =>
      subst ht
      split at e
      · next y hk => cases e; exact ⟨fs, hc, hk⟩
      · cases e
    · cases e
  · cases e
theorem cpA_set {h h' : AH} {s d : Nat} {sp dp n : Int32} (e : cpA h s sp d dp n = some h') : ∃ n0 f n1 g, hcell h s = some (.inl (0, n0, .inl f)) ∧ hcell h d = some (.inl (0, n1, .inl g)) ∧ ¬ sp < 0 ∧ ¬ dp < 0 ∧ ¬ n < 0 ∧ sp.toNatClampNeg + n.toNatClampNeg ≤ n0 ∧ dp.toNatClampNeg + n.toNatClampNeg ≤ n1 ∧ h' = hset h d (.inl (0, n1, .inl (va_cpy f g sp.toNatClampNeg dp.toNatClampNeg n.toNatClampNeg))) := by
  unfold cpA at e
  split at e
  · next t0 n0 f hs =>
    split at e
    · next t1 n1 g hd =>
      split at e
      · next hk =>
        obtain ⟨rfl, rfl, a1, a2, a3, a4, a5⟩ := hk
        cases e
        exact ⟨n0, f, n1, g, hs, hd, a1, a2, a3, a4, a5, rfl⟩
      · cases e
    · cases e
  · cases e
theorem clsOf_get {h : AH} {p c : Nat} (e : clsOf h p = some c) : ∃ fs, hcell h p = some (.inr (c, fs)) := by
  unfold clsOf at e
  split at e
  · next c fs hc => cases e; exact ⟨fs, hc⟩
  · cases e
theorem pV_gr {h h' : AH} {p ci k : Nat} {v : Value} (e : pV h p ci k v = some h') : Gr h h' := by
  obtain ⟨fs, -, -, rfl⟩ := pV_set e
  exact Gr.set
theorem sI_gr {h h' : AH} {p : Nat} {i x : Int32} (e : sI h p i x = some h') : Gr h h' := by
  obtain ⟨n, f, -, -, rfl⟩ := sI_set e
  exact Gr.set
theorem sR_gr {h h' : AH} {p q : Nat} {i : Int32} (e : sR h p i q = some h') : Gr h h' := by
  obtain ⟨t, n, f, -, -, rfl⟩ := sR_set e
  exact Gr.set
theorem cpA_gr {h h' : AH} {s d : Nat} {sp dp n : Int32} (e : cpA h s sp d dp n = some h') : Gr h h' := by
  obtain ⟨n0, f, n1, g, -, -, -, -, -, -, -, rfl⟩ := cpA_set e
  exact Gr.set
theorem oB_inv {α : Type} {o : Option α} {F : α → Option Res} {x : Res} (hx : oB o F = some x) : ∃ a, o = some a ∧ F a = some x := by
  cases o with
  | none => cases hx
  | some a => exact ⟨a, rfl, hx⟩
theorem vdis_inv {L : List (Nat × Nat × Nat)} {c : Option Nat} {F : Nat → Nat → Option Res} {x : Res} (hx : vdis L c F = some x) : ∃ ci q, c = some ci ∧ look L ci = some q ∧ F q.1 q.2 = some x := by
  induction L with
  | nil => cases hx
  | cons q r ih =>
    unfold vdis at hx
    split at hx
    · next e => exact ⟨q.1, q.2, e, by unfold look; rw [if_pos rfl], hx⟩
    · next e =>
      obtain ⟨ci, q', h1, h2, h3⟩ := ih hx
      refine ⟨ci, q', h1, ?_, h3⟩
      unfold look
      rw [if_neg (fun e' => e (by rw [h1, e']))]
      exact h2
theorem intr_gr {o : Nat} {st : List Value} {h : AH} {F : List Value → AH → Option Res} {x : Res} (hF : ∀ st h1, F st h1 = some x → Gr h1 x.2) (hx : intr o st h F = some x) : Gr h x.2 := by
  unfold intr at hx
  split at hx
  all_goals (repeat' split at hx)
  all_goals first
    | (cases hx; done)
    | exact hF _ _ hx
    | (obtain ⟨h', hc, hx⟩ := oB_inv hx; exact (cpA_gr hc).tr (hF _ _ hx))
theorem retK_gr {k : Nat} {o : Option Res} {r : List Value} {F : List Value → AH → Option Res} {x : Res} {h : AH} (ho : ∀ y, o = some y → Gr h y.2) (hF : ∀ st h1, F st h1 = some x → Gr h1 x.2) (hx : retK k o r F = some x) : Gr h x.2 := by
  unfold retK at hx
  split at hx
  · unfold cV at hx
    split at hx
    · exact (ho _ rfl).tr (hF _ _ hx)
    · cases hx
  · unfold cI at hx
    split at hx
    · exact (ho _ rfl).tr (hF _ _ hx)
    · cases hx
  · unfold cL at hx
    split at hx
    · exact (ho _ rfl).tr (hF _ _ hx)
    · cases hx
  · unfold cR at hx
    split at hx
    · exact (ho _ rfl).tr (hF _ _ hx)
    · cases hx
theorem icc_gr {c : Jvm.ClassFile.Cond} {x y : Int32} {A B : Option Res} {z : Res} {P : Prop} (hA : A = some z → P) (hB : B = some z → P) (h : icc c x y A B = some z) : P := by
  revert h
  unfold icc
  cases c <;> dsimp only <;> split <;> (first | exact hA | exact hB)
theorem swk_gr {x : Int} {L : List (Nat × Nat × Nat)} {K : Nat → Nat → Option Res} {a b : Nat} {z : Res} {P : Prop} (hK : ∀ p q, K p q = some z → P) (h : swk x L K a b = some z) : P := by
  induction L with
  | nil => exact hK _ _ h
  | cons q r ih =>
    obtain ⟨k, b1, m⟩ := q
    revert h
    unfold swk
    split
    · exact hK _ _
    · exact ih
theorem hst_gr {sc : Nat × (Nat → Int32)} {z : Bool} {i : Instr} {o : Opd} {st : List Value} {h : AH} {F : List Value → AH → Option Res} {x : Res} (hF : ∀ st h1, F st h1 = some x → Gr h1 x.2) (hx : hst sc z i o st h F = some x) : Gr h x.2 := by
  unfold hst at hx
  split at hx
  all_goals (repeat' split at hx)
  all_goals first
    | (cases hx; done)
    | exact hF _ _ hx
    | exact Gr.tr Gr.push (hF _ _ hx)
    | (obtain ⟨h', hc, hx⟩ := oB_inv hx; exact hF _ _ hx)
    | (obtain ⟨h', hc, hx⟩ := oB_inv hx; exact (pV_gr hc).tr (hF _ _ hx))
    | (obtain ⟨h', hc, hx⟩ := oB_inv hx; exact (sI_gr hc).tr (hF _ _ hx))
    | (obtain ⟨_, _, hx⟩ := oB_inv hx; obtain ⟨_, _, hx⟩ := oB_inv hx; obtain ⟨h', hc, hx⟩ := oB_inv hx; exact (sR_gr hc).tr (hF _ _ hx))
    | (obtain ⟨_, _, _, _, hx⟩ := vdis_inv hx; exact hF _ _ hx)
    | exact Gr.tr ⟨by unfold newM; dsimp only; omega, by unfold newM; dsimp only; omega⟩ (hF _ _ hx)
theorem callE_gr {C : Nat → List Value → AH → Option Res} (hC : ∀ c as h x, C c as h = some x → Gr h x.2) {c mL : Nat} {as : List Value} {h : AH} (x : Res) (hx : callE C c mL as h = some x) : Gr h x.2 := by
  revert hx
  unfold callE
  split
  · exact hC _ _ _ _
  · exact fun hx => by cases hx
theorem runL_gr {sc : Nat × (Nat → Int32)} {z : Bool} {C : Nat → List Value → AH → Option Res} {K : Nat → List Value → List Value → AH → Option Res} (hC : ∀ c as h x, C c as h = some x → Gr h x.2) (hK : ∀ b ls st h x, K b ls st h = some x → Gr h x.2) :
    ∀ (is : List Ins) (ls st : List Value) (h : AH) (x : Res), runL sc z C K is ls st h = some x → Gr h x.2 := by
  intro is
  induction is with
  | nil => intro ls st h x hx; cases hx
  | cons a is ih =>
    obtain ⟨pc, len, i, o⟩ := a
    intro ls st h x hx
    unfold runL at hx
    split at hx
    all_goals (repeat' split at hx)
    all_goals first
      | (cases hx; done)
      | exact hK _ _ _ _ _ hx
      | exact ih _ _ _ _ hx
      | exact icc_gr (hK _ _ _ _ _) (ih _ _ _ _) hx
      | exact swk_gr (fun _ _ => hK _ _ _ _ _) hx
      | exact hst_gr (fun _ _ => ih _ _ _ _) hx
      | exact retK_gr (callE_gr hC) (fun _ _ => ih _ _ _ _) hx
      | exact intr_gr (fun _ _ => ih _ _ _ _) hx
      | (obtain ⟨_, _, _, _, hx⟩ := vdis_inv hx; exact retK_gr (callE_gr hC) (fun _ _ => ih _ _ _ _) hx)
      | (obtain ⟨_, _, hx⟩ := oB_inv hx; exact retK_gr (callE_gr hC) (fun _ _ => ih _ _ _ _) hx)
      | (cases hx; exact Gr.rf)
theorem exec_gr (P : Nat → Nat → List Ins) (sc : Nat × (Nat → Int32)) : ∀ (n d m b : Nat) (ls st : List Value) (h : AH) (x : Res), exec P sc n d m b ls st h = some x → Gr h x.2 := by
  intro n
  induction n with
  | zero => intro d m b ls st h x hx; cases hx
  | succ n ih =>
    intro d m b ls st h x hx
    refine runL_gr ?_ ?_ _ _ _ _ _ hx
    · intro c as h x hx
      cases d with
      | zero => cases hx
      | succ d => exact ih _ _ _ _ _ _ _ hx
    · intro b ls st h x hx
      exact ih _ _ _ _ _ _ _ hx
