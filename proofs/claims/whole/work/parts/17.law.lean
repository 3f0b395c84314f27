/-! the law's frame over the abstract machine: what is left is pure -/
def h00 : AH := (0, 0, fun _ => .inr (0, []))
theorem nw_over {ty : FieldType} {u U : State} (hW : u.WarmedH U.vm) (h : va_Nw (.arrayOver ty) u) : va_Nw (.arrayOver ty) U := by
  have h1 : (Cond.arrayOver ty).before #[] (u.setVm U.vm) = true := by
    rw [Cond.arrayOver_setVmC hW.alike]
    exact h
  exact h1
theorem XwOk_GP : XwOk GP := by
  intro w hw u U hW hz
  have key : ∀ w ∈ XW, (∃ a i x h, w = Jvm.Cond.methodLinkNest a i x h) ∨ (∃ a b, w = Jvm.Cond.castable a b) ∨ ∃ t, w = Jvm.Cond.arrayOver t := by
    intro w hw
    simp only [XW, List.mem_cons, List.not_mem_nil, or_false] at hw
    rcases hw with rfl | rfl | rfl | rfl | rfl | rfl | rfl | rfl | rfl | rfl | rfl | rfl | rfl | rfl | rfl | rfl | rfl | rfl | rfl | rfl | rfl | rfl | rfl | rfl | rfl | rfl | rfl
    all_goals first
      | exact Or.inl ⟨_, _, _, _, rfl⟩
      | exact Or.inr (Or.inl ⟨_, _, rfl⟩)
      | exact Or.inr (Or.inr ⟨_, rfl⟩)
  rcases key w hw with ⟨a, i, x, h, rfl⟩ | ⟨a, b, rfl⟩ | ⟨t, rfl⟩
  · exact va_Nw.warmM hW hz
  · exact va_Nw.warmC hW hz
  · exact nw_over hW hz
theorem over_spec {t : FieldType} {a : Array Value} {s : State} (h : (Cond.arrayOver (.array t)).before a s = true) : ∃ comp c k, s.vm.findClass (FieldType.array t).toString = some comp ∧ s.vm.classes[c]? = some k ∧ k.kind = .array comp (.array t) ∧ s.vm.findClass ("[" ++ (FieldType.array t).toString) = some c := Cond.arrayOver_specA h
