/-! the abstract machine without fuel -/
theorem retK_mono {k : Nat} {o o' : Option Res} {r : List Value} {F F' : List Value → AH → Option Res} {x : Res} (ho : ∀ y, o = some y → o' = some y) (hF : ∀ st h y, F st h = some y → F' st h = some y) (hx : retK k o r F = some x) : retK k o' r F' = some x := by
  unfold retK at hx ⊢
  split at hx
  · unfold cV at hx ⊢
    split at hx
    · rw [ho _ rfl]; exact hF _ _ _ hx
    · cases hx
  · unfold cI at hx ⊢
    split at hx
    · rw [ho _ rfl]; exact hF _ _ _ hx
    · cases hx
  · unfold cL at hx ⊢
    split at hx
    · rw [ho _ rfl]; exact hF _ _ _ hx
    · cases hx
  · next h0 h1 h2 =>
    unfold cR at hx
    split at hx
    · unfold cR
      rw [ho _ rfl]; exact hF _ _ _ hx
    · cases hx
theorem icc_mono {c : Jvm.ClassFile.Cond} {x y : Int32} {A B A' B' : Option Res} {z : Res} (hA : A = some z → A' = some z) (hB : B = some z → B' = some z) (h : icc c x y A B = some z) : icc c x y A' B' = some z := by
  revert h
  unfold icc
  cases c <;> dsimp only <;> split <;> (first | exact hA | exact hB)
theorem swk_mono {x : Int} {L : List (Nat × Nat × Nat)} {K K' : Nat → Nat → Option Res} {a b : Nat} {z : Res} (hK : ∀ p q, K p q = some z → K' p q = some z) (h : swk x L K a b = some z) : swk x L K' a b = some z := by
  induction L with
  | nil => exact hK _ _ h
  | cons q r ih =>
    obtain ⟨k, b1, m⟩ := q
    revert h
    unfold swk
    split
    · exact hK _ _
    · exact ih
theorem oB_mono {α : Type} {o : Option α} {F F' : α → Option Res} {x : Res} (hF : ∀ a, F a = some x → F' a = some x) (hx : oB o F = some x) : oB o F' = some x := by
  cases o with
  | none => cases hx
  | some a => exact hF a hx
theorem vdis_mono {L : List (Nat × Nat × Nat)} {c : Option Nat} {F F' : Nat → Nat → Option Res} {x : Res} (hF : ∀ a b, F a b = some x → F' a b = some x) (hx : vdis L c F = some x) : vdis L c F' = some x := by
  induction L with
  | nil => cases hx
  | cons q r ih =>
    revert hx
    unfold vdis
    split
    · exact hF _ _
    · exact ih
theorem intr_mono {o : Nat} {st : List Value} {h : AH} {F F' : List Value → AH → Option Res} {x : Res} (hF : ∀ st h, F st h = some x → F' st h = some x) (hx : intr o st h F = some x) : intr o st h F' = some x := by
  revert hx
  unfold intr
  split
  all_goals (repeat' split)
  all_goals (first | exact hF _ _ | exact oB_mono (fun _ => hF _ _) | exact fun hx => hx)
theorem hst_mono {sc : Nat × (Nat → Int32)} {z : Bool} {i : Instr} {o : Opd} {st : List Value} {h : AH} {F F' : List Value → AH → Option Res} {x : Res} (hF : ∀ st h, F st h = some x → F' st h = some x) (hx : hst sc z i o st h F = some x) : hst sc z i o st h F' = some x := by
  revert hx
  unfold hst
  split
  all_goals (repeat' split)
  all_goals (first | exact hF _ _ | exact oB_mono (fun _ => hF _ _) | exact vdis_mono (fun _ _ => hF _ _) | exact oB_mono (fun _ => oB_mono (fun _ => oB_mono (fun _ => hF _ _))) | exact fun hx => hx)
theorem callE_mono {C C' : Nat → List Value → AH → Option Res} (hC : ∀ c as h x, C c as h = some x → C' c as h = some x) {c mL : Nat} {as : List Value} {h : AH} (x : Res) (hx : callE C c mL as h = some x) : callE C' c mL as h = some x := by
  revert hx
  unfold callE
  split
  · exact hC _ _ _ _
  · exact fun hx => hx
theorem runL_mono {sc : Nat × (Nat → Int32)} {z : Bool} {C C' : Nat → List Value → AH → Option Res} {K K' : Nat → List Value → List Value → AH → Option Res} (hC : ∀ c as h x, C c as h = some x → C' c as h = some x) (hK : ∀ b ls st h x, K b ls st h = some x → K' b ls st h = some x) :
    ∀ (is : List Ins) (ls st : List Value) (h : AH) (x : Res), runL sc z C K is ls st h = some x → runL sc z C' K' is ls st h = some x := by
  intro is
  induction is with
  | nil => intro ls st h x hx; cases hx
  | cons a is ih =>
    obtain ⟨pc, len, i, o⟩ := a
    intro ls st h x
    unfold runL
    split
    all_goals (repeat' split)
    all_goals first
      | exact hK _ _ _ _ _
      | exact ih _ _ _ _
      | exact icc_mono (hK _ _ _ _ _) (ih _ _ _ _)
      | exact swk_mono (fun _ _ => hK _ _ _ _ _)
      | exact hst_mono (fun _ _ => ih _ _ _ _)
      | exact retK_mono (callE_mono hC) (fun _ _ _ => ih _ _ _ _)
      | exact intr_mono (fun _ _ => ih _ _ _ _)
      | exact vdis_mono (fun _ _ => retK_mono (callE_mono hC) (fun _ _ _ => ih _ _ _ _))
      | exact oB_mono (fun _ => retK_mono (callE_mono hC) (fun _ _ _ => ih _ _ _ _))
      | exact fun hx => hx
/-- from some fuel on -/
def Evt (P : Nat → Prop) : Prop := ∃ n, ∀ m, n ≤ m → P m
theorem Evt.const {P : Prop} (h : P) : Evt (fun _ => P) := ⟨0, fun _ _ => h⟩
theorem retK_cont {k : Nat} {o : Option Res} {on : Nat → Option Res} {r : List Value} {F : List Value → AH → Option Res} {Fn : Nat → List Value → AH → Option Res} {x : Res} (ho : ∀ y, o = some y → Evt fun m => on m = some y) (hF : ∀ st h y, F st h = some y → Evt fun m => Fn m st h = some y) (hx : retK k o r F = some x) : Evt fun m => retK k (on m) r (Fn m) = some x := by
  unfold retK at hx
  split at hx
  · unfold cV at hx
    split at hx
    · obtain ⟨a, ha⟩ := ho _ rfl
      obtain ⟨b, hb⟩ := hF _ _ _ hx
      exact ⟨a + b, fun m hm => by unfold retK cV; simp only; rw [ha m (by omega)]; exact hb m (by omega)⟩
    · cases hx
  · unfold cI at hx
    split at hx
    · obtain ⟨a, ha⟩ := ho _ rfl
      obtain ⟨b, hb⟩ := hF _ _ _ hx
      exact ⟨a + b, fun m hm => by unfold retK cI; simp only; rw [ha m (by omega)]; exact hb m (by omega)⟩
    · cases hx
  · unfold cL at hx
    split at hx
    · obtain ⟨a, ha⟩ := ho _ rfl
      obtain ⟨b, hb⟩ := hF _ _ _ hx
      exact ⟨a + b, fun m hm => by unfold retK cL; simp only; rw [ha m (by omega)]; exact hb m (by omega)⟩
    · cases hx
  · next h0 h1 h2 =>
    unfold cR at hx
    split at hx
    · obtain ⟨a, ha⟩ := ho _ rfl
      obtain ⟨b, hb⟩ := hF _ _ _ hx
      refine ⟨a + b, fun m hm => ?_⟩
      have e : retK k (on m) r (Fn m) = cR (on m) (fun x h => Fn m (.ref x :: r) h) := by
        unfold retK
        split
        · exact absurd rfl h0
        · exact absurd rfl h1
        · exact absurd rfl h2
        · rfl
      show retK k (on m) r (Fn m) = some x
      rw [e]
      unfold cR
      rw [ha m (by omega)]
      exact hb m (by omega)
    · cases hx
theorem icc_cont {c : Jvm.ClassFile.Cond} {x y : Int32} {A B : Option Res} {An Bn : Nat → Option Res} {z : Res} (hA : A = some z → Evt fun m => An m = some z) (hB : B = some z → Evt fun m => Bn m = some z) (h : icc c x y A B = some z) : Evt fun m => icc c x y (An m) (Bn m) = some z := by
  revert h
  unfold icc
  cases c <;> dsimp only <;> split <;> (first | exact hA | exact hB)
theorem swk_cont {x : Int} {L : List (Nat × Nat × Nat)} {K : Nat → Nat → Option Res} {Kn : Nat → Nat → Nat → Option Res} {a b : Nat} {z : Res} (hK : ∀ p q, K p q = some z → Evt fun m => Kn m p q = some z) (h : swk x L K a b = some z) : Evt fun m => swk x L (Kn m) a b = some z := by
  induction L with
  | nil => exact hK _ _ h
  | cons q r ih =>
    obtain ⟨k, b1, m⟩ := q
    revert h
    unfold swk
    split
    · exact hK _ _
    · exact ih
theorem oB_cont {α : Type} {o : Option α} {F : α → Option Res} {Fn : Nat → α → Option Res} {x : Res} (hF : ∀ a, F a = some x → Evt fun m => Fn m a = some x) (hx : oB o F = some x) : Evt fun m => oB o (Fn m) = some x := by
  cases o with
  | none => cases hx
  | some a => exact hF a hx
theorem vdis_cont {L : List (Nat × Nat × Nat)} {c : Option Nat} {F : Nat → Nat → Option Res} {Fn : Nat → Nat → Nat → Option Res} {x : Res} (hF : ∀ a b, F a b = some x → Evt fun m => Fn m a b = some x) (hx : vdis L c F = some x) : Evt fun m => vdis L c (Fn m) = some x := by
  induction L with
  | nil => cases hx
  | cons q r ih =>
    revert hx
    unfold vdis
    split
    · exact hF _ _
    · exact ih
theorem intr_cont {o : Nat} {st : List Value} {h : AH} {F : List Value → AH → Option Res} {Fn : Nat → List Value → AH → Option Res} {x : Res} (hF : ∀ st h, F st h = some x → Evt fun m => Fn m st h = some x) (hx : intr o st h F = some x) : Evt fun m => intr o st h (Fn m) = some x := by
  revert hx
  unfold intr
  split
  all_goals (repeat' split)
  all_goals (first | exact hF _ _ | exact oB_cont (fun _ => hF _ _) | exact fun hx => Evt.const hx)
theorem hst_cont {sc : Nat × (Nat → Int32)} {z : Bool} {i : Instr} {o : Opd} {st : List Value} {h : AH} {F : List Value → AH → Option Res} {Fn : Nat → List Value → AH → Option Res} {x : Res} (hF : ∀ st h, F st h = some x → Evt fun m => Fn m st h = some x) (hx : hst sc z i o st h F = some x) : Evt fun m => hst sc z i o st h (Fn m) = some x := by
  revert hx
  unfold hst
  split
  all_goals (repeat' split)
  all_goals (first | exact hF _ _ | exact oB_cont (fun _ => hF _ _) | exact vdis_cont (fun _ _ => hF _ _) | exact oB_cont (fun _ => oB_cont (fun _ => oB_cont (fun _ => hF _ _))) | exact fun hx => Evt.const hx)
theorem callE_cont {C : Nat → List Value → AH → Option Res} {Cn : Nat → Nat → List Value → AH → Option Res} (hC : ∀ c as h x, C c as h = some x → Evt fun m => Cn m c as h = some x) {c mL : Nat} {as : List Value} {h : AH} (x : Res) (hx : callE C c mL as h = some x) : Evt fun m => callE (Cn m) c mL as h = some x := by
  revert hx
  unfold callE
  split
  · exact hC _ _ _ _
  · exact fun hx => Evt.const hx
theorem runL_cont {sc : Nat × (Nat → Int32)} {z : Bool} {C : Nat → List Value → AH → Option Res} {K : Nat → List Value → List Value → AH → Option Res} {Cn : Nat → Nat → List Value → AH → Option Res} {Kn : Nat → Nat → List Value → List Value → AH → Option Res} (hC : ∀ c as h x, C c as h = some x → Evt fun m => Cn m c as h = some x) (hK : ∀ b ls st h x, K b ls st h = some x → Evt fun m => Kn m b ls st h = some x) :
    ∀ (is : List Ins) (ls st : List Value) (h : AH) (x : Res), runL sc z C K is ls st h = some x → Evt fun m => runL sc z (Cn m) (Kn m) is ls st h = some x := by
  intro is
  induction is with
  | nil => intro ls st h x hx; cases hx
  | cons a is ih =>
    obtain ⟨pc, len, i, o⟩ := a
    intro ls st h x
    unfold runL
    split
    all_goals (repeat' split)
    all_goals first
      | exact hK _ _ _ _ _
      | exact ih _ _ _ _
      | exact icc_cont (hK _ _ _ _ _) (ih _ _ _ _)
      | exact swk_cont (fun _ _ => hK _ _ _ _ _)
      | exact hst_cont (fun _ _ => ih _ _ _ _)
      | exact retK_cont (callE_cont hC) (fun _ _ _ => ih _ _ _ _)
      | exact intr_cont (fun _ _ => ih _ _ _ _)
      | exact vdis_cont (fun _ _ => retK_cont (callE_cont hC) (fun _ _ _ => ih _ _ _ _))
      | exact oB_cont (fun _ => retK_cont (callE_cont hC) (fun _ _ _ => ih _ _ _ _))
      | exact fun hx => Evt.const hx
theorem exec_mono1 (P : Nat → Nat → List Ins) (sc : Nat × (Nat → Int32)) : ∀ (n d m b : Nat) (ls st : List Value) (h : AH) (x : Res), exec P sc n d m b ls st h = some x → exec P sc (n + 1) d m b ls st h = some x := by
  intro n
  induction n with
  | zero => intro d m b ls st h x hx; cases hx
  | succ n ih =>
    intro d m b ls st h x hx
    refine runL_mono ?_ ?_ _ _ _ _ _ hx
    · intro c as h x hx
      cases d with
      | zero => cases hx
      | succ d => exact ih _ _ _ _ _ _ _ hx
    · intro b ls st h x hx
      exact ih _ _ _ _ _ _ _ hx
theorem exec_mono (P : Nat → Nat → List Ins) (sc : Nat × (Nat → Int32)) {n n' d m b : Nat} {ls st : List Value} {h : AH} {x : Res} (hn : n ≤ n') (hx : exec P sc n d m b ls st h = some x) : exec P sc n' d m b ls st h = some x := by
  induction hn with
  | refl => exact hx
  | step _ ih => exact exec_mono1 _ _ _ _ _ _ _ _ _ _ ih
/-- what the abstract machine answers, with fuel enough -/
noncomputable def Exec (P : Nat → Nat → List Ins) (sc : Nat × (Nat → Int32)) (d m b : Nat) (ls st : List Value) (h : AH) : Option Res :=
  @dite _ (∃ (x : Res) (n : Nat), exec P sc n d m b ls st h = some x) (Classical.propDecidable _) (fun e => some (Classical.choose e)) (fun _ => none)
theorem Exec_iff {P : Nat → Nat → List Ins} {sc : Nat × (Nat → Int32)} {d m b : Nat} {ls st : List Value} {h : AH} {x : Res} : Exec P sc d m b ls st h = some x ↔ ∃ n, exec P sc n d m b ls st h = some x := by
  unfold Exec
  constructor
  · intro hx
    split at hx
    · next e =>
      have := Classical.choose_spec e
      cases hx
      exact this
    · cases hx
  · rintro ⟨n, hn⟩
    have e : ∃ (x : Res) (n : Nat), exec P sc n d m b ls st h = some x := ⟨x, n, hn⟩
    rw [dif_pos e]
    obtain ⟨n', hn'⟩ := Classical.choose_spec e
    have h1 := exec_mono P sc (Nat.le_max_left n n') hn
    have h2 := exec_mono P sc (Nat.le_max_right n n') hn'
    exact h2.symm.trans h1
theorem Exec_eq (P : Nat → Nat → List Ins) (sc : Nat × (Nat → Int32)) (d m b : Nat) (ls st : List Value) (h : AH) :
    Exec P sc d m b ls st h = runL sc (decide (d ≠ 0)) (fun c as h' => match d with | 0 => none | d' + 1 => Exec P sc d' c 0 as [] h') (fun b' ls' st' h' => Exec P sc d m b' ls' st' h') (P m b) ls st h := by
  refine Option.ext fun x => ?_
  show _ = some x ↔ _ = some x
  constructor
  · intro hx
    obtain ⟨n, hn⟩ := Exec_iff.mp hx
    cases n with
    | zero => cases hn
    | succ n =>
      refine runL_mono ?_ ?_ _ _ _ _ _ hn
      · intro c as h x hx
        cases d with
        | zero => cases hx
        | succ d => exact Exec_iff.mpr ⟨n, hx⟩
      · intro b ls st h x hx
        exact Exec_iff.mpr ⟨n, hx⟩
  · intro hx
    obtain ⟨n, hn⟩ := runL_cont (Cn := fun n c as h' => match (generalizing := false) d with | 0 => none | d' + 1 => exec P sc n d' c 0 as [] h') (Kn := fun n b' ls' st' h' => exec P sc n d m b' ls' st' h') (fun c as h x hx => by
        cases d with
        | zero => cases hx
        | succ d =>
          obtain ⟨n, hn⟩ := Exec_iff.mp hx
          exact ⟨n, fun k hk => exec_mono P sc hk hn⟩) (fun b ls st h x hx => by
        obtain ⟨n, hn⟩ := Exec_iff.mp hx
        exact ⟨n, fun k hk => exec_mono P sc hk hn⟩) _ _ _ _ _ hx
    exact Exec_iff.mpr ⟨n + 1, hn n (Nat.le_refl n)⟩
/-- with a call to spare -/
theorem Exec_eqS (P : Nat → Nat → List Ins) (sc : Nat × (Nat → Int32)) (d m b : Nat) (ls st : List Value) (h : AH) :
    Exec P sc (d + 1) m b ls st h = runL sc true (fun c as h' => Exec P sc d c 0 as [] h') (fun b' ls' st' h' => Exec P sc (d + 1) m b' ls' st' h') (P m b) ls st h := Exec_eq P sc (d + 1) m b ls st h
