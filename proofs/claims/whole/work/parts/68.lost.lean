/-! lost: one in the box stays there; boxed without some -/
theorem box_C {l : Nat} {b : Hs} (h : b 5 l = 21) : ∀ n, (iter n comeA b) 5 l = 21
  | 0 => h
  | n + 1 => by
    show (comeA n (iter n comeA b)) 5 l = 21
    have key : ∀ Y : Hs, Y 5 l = 21 → (comeA n Y) 5 l = 21 := by
      intro Y k
      unfold comeA
      split
      · next c =>
        rw [upA_ne (fun q => ?_)]
        · exact k
        · have := c.1
          rw [← q.2, k] at this
          omega
      · exact k
    exact key _ (box_C h n)
theorem tick_box1 {a : Hs} {l : Nat} (h9 : a 0 0 ≤ 9) (h : a 5 l = 21) : (tickS a) 5 l = 21 := by
  show (upA (iter (a 0 3) comeA (iter (a 0 0) (floorA (a 5)) a)) 0 2 (a 0 2 + 1)) 5 l = 21
  rw [upA_c (by omega)]
  refine box_C ?_ _
  rw [wait_G (N := a 0 0) (by omega) _ (Nat.le_refl _), h]
theorem tk_box1 {l : Nat} : ∀ n (a : Hs), a 0 0 ≤ 9 → a 5 l = 21 → (tk n a) 5 l = 21
  | 0, _, _, h => h
  | n + 1, a, h9, h => by
    show (tk n (tickS a)) 5 l = 21
    exact tk_box1 n _ (by rw [tickS_0 (by omega)]; exact h9) (tick_box1 h9 h)
theorem loop49 {N l : Nat} (hN : N ≤ 60) (sc : Nat × (Nat → Int32)) (d : Nat) : ∀ (n t : Nat) (S : Nat → Nat → Int32) (a : Hs), t + n = N → HR S 46 a → OkT (n + 1) a → l < a 0 3 → ∃ S', EX sc (d + 4) 49 2 [.ref 45, Jk, .int (nI l), .int (nI N), Jk, .int (nI t)] [] (mk S) = some (some (.int (if (tk n a) 5 l = 21 then 1 else 0)), mk S') ∧ FS S S' := by
  have fin : ∀ (S : Nat → Nat → Int32) (a : Hs), HR S 46 a → OkT 0 a → l < a 0 3 → EX sc (d + 4) 49 3 [.ref 45, Jk, .int (nI l), Jk, Jk, Jk] [] (mk S) = some (some (.int (if a 5 l = 21 then 1 else 0)), mk S) := by
    intro S a h hw hl
    obtain ⟨B, hwB⟩ := hw.wf
    have h6 := hwB.1
    have h22 := pl_22 hwB hl
    have p : S 51 l = nI (a 5 l) := pl_I h (show 1 ≤ 5 by omega) (show 5 ≤ 8 by omega) (show l < 6 by omega)
    have e21 : (nI (a 5 l) = 21) ↔ a 5 l = 21 := nI_eq (b := 21) (by omega) (by omega)
    rw [e49_3, e49_4]
    simp only [O45, oB_s, Hg isH_46, fun S => HA isH_46 S (show l < 6 by omega), p, or_true, true_or, if_true]
    by_cases c : a 5 l = 21
    · rw [if_pos (e21.mpr c), if_pos c]
    · rw [if_neg (fun q => c (e21.mp q)), if_neg c]
  intro n
  induction n with
  | zero =>
    intro t S a ht h hw hl
    refine ⟨S, ?_, FS.rf _⟩
    rw [e49_2, if_pos (nI_le (by omega) (by omega))]
    exact fin S a h (hw.le (by omega)) hl
  | succ n ih =>
    intro t S a ht h hw hl
    obtain ⟨B, hwB⟩ := hw.wf
    have h6 := hwB.1
    have h22 := pl_22 hwB hl
    have p : S 51 l = nI (a 5 l) := pl_I h (show 1 ≤ 5 by omega) (show 5 ≤ 8 by omega) (show l < 6 by omega)
    have e21 : (nI (a 5 l) = 21) ↔ a 5 l = 21 := nI_eq (b := 21) (by omega) (by omega)
    rw [e49_2, if_neg (nI_ge (by omega) (by omega))]
    simp only [O45, oB_s, Hg isH_46, fun S => HA isH_46 S (show l < 6 by omega), p, if_true]
    by_cases c : a 5 l = 21
    · rw [if_pos (e21.mpr c), fin S a h (hw.le (by omega)) hl, if_pos c, if_pos (tk_box1 (n + 1) a hwB.2.1 c)]
      exact ⟨S, rfl, FS.rf _⟩
    · rw [if_neg (fun q => c (e21.mp q))]
      obtain ⟨S1, k1, k2, k3⟩ := tickT h hw sc d
      rw [k1, cV_s, nI_1]
      obtain ⟨S2, m1, m2⟩ := ih (t + 1) S1 (tickS a) (by omega) k2 hw.tick (by rw [tickS_0 (by omega)]; exact hl)
      exact ⟨S2, m1, (k3.fs (Or.inl rfl)).tr m2⟩
