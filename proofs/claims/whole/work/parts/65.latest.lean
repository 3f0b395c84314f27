/-! latest: starts that are alike, starts that never come -/
theorem up4_c {a : Hs} {l v c : Nat} (h : c ≠ 4) : upA a 4 l v c = a c := upA_c h
theorem upA_comm {a : Hs} {c j v c' j' v' : Nat} (h : c ≠ c') : upA (upA a c j v) c' j' v' = upA (upA a c' j' v') c j v := by
  funext x y
  simp only [upA_at]
  by_cases e1 : x = c' ∧ y = j'
  · rw [if_pos e1, if_neg (fun q => h (q.1.symm.trans e1.1)), if_pos e1]
  · rw [if_neg e1]
    by_cases e2 : x = c ∧ y = j
    · rw [if_pos e2, if_pos e2]
    · rw [if_neg e2, if_neg e2, if_neg e1]
theorem ly_4 {a : Hs} {l v q : Nat} : ly (upA a 4 l v) q = ly a q := by
  unfold ly
  rw [up4_c (by omega), up4_c (by omega)]
theorem room_4 {a : Hs} {l v i q : Nat} : roomS (upA a 4 l v) i q = roomS a i q := by
  unfold roomS ldB ld
  rw [up4_c (show (1 : Nat) ≠ 4 by omega), up4_c (show (5 : Nat) ≠ 4 by omega), up4_c (show (3 : Nat) ≠ 4 by omega), up4_c (show (0 : Nat) ≠ 4 by omega)]
theorem go_4 {l v i : Nat} : ∀ k (a : Hs), goS k (upA a 4 l v) i = upA (goS k a i) 4 l v
  | 0, _ => rfl
  | k + 1, a => by
    unfold goS
    rw [room_4, up4_c (show (5 : Nat) ≠ 4 by omega)]
    by_cases c1 : a 5 i = 21
    · rw [if_pos c1, if_pos c1]
    · rw [if_neg c1, if_neg c1]
      by_cases c2 : a 5 i = 0 ∨ roomS a i (a 5 i - 1) = true
      · rw [if_pos c2, if_pos c2, upA_comm (by omega), go_4 k]
      · rw [if_neg c2, if_neg c2]
theorem fallS_4 {a : Hs} {l v i : Nat} : fallS (upA a 4 l v) i = fallS a i := by
  unfold fallS
  rw [ly_4, up4_c (show (1 : Nat) ≠ 4 by omega), up4_c (show (7 : Nat) ≠ 4 by omega), up4_c (show (5 : Nat) ≠ 4 by omega)]
theorem fall_4 {a : Hs} {l v i : Nat} : fallA (upA a 4 l v) i = upA (fallA a i) 4 l v := by
  unfold fallA
  rw [fallS_4, go_4, up4_c (show (5 : Nat) ≠ 4 by omega), up4_c (show (5 : Nat) ≠ 4 by omega), up4_c (show (6 : Nat) ≠ 4 by omega), up4_c (show (7 : Nat) ≠ 4 by omega)]
  by_cases c : (goS (fallS a i) a i) 5 i = a 5 i
  · rw [if_pos c, if_pos c, upA_comm (c := 4) (c' := 6) (by omega), upA_comm (c := 4) (c' := 7) (by omega)]
  · rw [if_neg c, if_neg c, upA_comm (by omega)]
theorem iterF_4 {lay : Nat → Nat} {f l v : Nat} {b : Hs} : ∀ n, iter n (stepF lay f) (upA b 4 l v) = upA (iter n (stepF lay f) b) 4 l v
  | 0 => rfl
  | n + 1 => by
    show stepF lay f n (iter n (stepF lay f) (upA b 4 l v)) = upA (stepF lay f n (iter n (stepF lay f) b)) 4 l v
    rw [iterF_4 n]
    have key : ∀ Y : Hs, stepF lay f n (upA Y 4 l v) = upA (stepF lay f n Y) 4 l v := by
      intro Y
      unfold stepF
      split
      · exact fall_4
      · rfl
    exact key _
theorem iterG_4 {lay : Nat → Nat} {l v : Nat} {b : Hs} : ∀ n, iter n (floorA lay) (upA b 4 l v) = upA (iter n (floorA lay) b) 4 l v
  | 0 => rfl
  | n + 1 => by
    show floorA lay n (iter n (floorA lay) (upA b 4 l v)) = upA (floorA lay n (iter n (floorA lay) b)) 4 l v
    rw [iterG_4 n, floorA_eq, floorA_eq, up4_c (show (0 : Nat) ≠ 4 by omega), iterF_4]
theorem iterC_4 {l v : Nat} {b : Hs} (h1 : b 4 l ≤ b 0 2) (h2 : v ≤ b 0 2) : ∀ n, iter n comeA (upA b 4 l v) = upA (iter n comeA b) 4 l v
  | 0 => rfl
  | n + 1 => by
    show comeA n (iter n comeA (upA b 4 l v)) = upA (comeA n (iter n comeA b)) 4 l v
    rw [iterC_4 h1 h2 n]
    have key : ∀ Y : Hs, Y 4 l ≤ Y 0 2 → v ≤ Y 0 2 → comeA n (upA Y 4 l v) = upA (comeA n Y) 4 l v := by
      intro Y k1 k2
      unfold comeA
      rw [room_4, up4_c (show (8 : Nat) ≠ 4 by omega), up4_c (show (5 : Nat) ≠ 4 by omega), up4_c (show (0 : Nat) ≠ 4 by omega), up4_c (show (2 : Nat) ≠ 4 by omega)]
      have e : (upA Y 4 l v 4 (Y 8 n) ≤ Y 0 2) ↔ (Y 4 (Y 8 n) ≤ Y 0 2) := by
        rw [upA_at]
        by_cases q : Y 8 n = l
        · rw [if_pos ⟨rfl, q⟩, q]
          exact ⟨fun _ => k1, fun _ => k2⟩
        · rw [if_neg (fun z => q z.2)]
      by_cases c : Y 5 (Y 8 n) = 20 ∧ (Y 0 4).testBit (Y 8 n) = false ∧ Y 4 (Y 8 n) ≤ Y 0 2 ∧ roomS Y (Y 8 n) (Y 2 (Y 8 n)) = true
      · rw [if_pos c, if_pos ⟨c.1, c.2.1, e.mpr c.2.2.1, c.2.2.2⟩, upA_comm (by omega)]
      · rw [if_neg c, if_neg (fun q => c ⟨q.1, q.2.1, e.mp q.2.2.1, q.2.2.2⟩)]
    refine key _ ?_ ?_
    · rw [iterC_c (by omega), iterC_c (by omega)]; exact h1
    · rw [iterC_c (by omega)]; exact h2
/-- two starts that have both passed are alike -/
theorem tick_4 {a : Hs} {l v : Nat} (h1 : a 4 l ≤ a 0 2) (h2 : v ≤ a 0 2) : tickS (upA a 4 l v) = upA (tickS a) 4 l v := by
  show upA (iter (upA a 4 l v 0 3) comeA (iter (upA a 4 l v 0 0) (floorA (upA a 4 l v 5)) (upA a 4 l v))) 0 2 (upA a 4 l v 0 2 + 1) = upA (upA (iter (a 0 3) comeA (iter (a 0 0) (floorA (a 5)) a)) 0 2 (a 0 2 + 1)) 4 l v
  rw [up4_c (show (0 : Nat) ≠ 4 by omega), up4_c (show (5 : Nat) ≠ 4 by omega), iterG_4, iterC_4, upA_comm (by omega)]
  · rw [iterG_c (by omega), iterG_c (by omega)]; exact h1
  · rw [iterG_c (by omega)]; exact h2
theorem tk_4 {l v : Nat} : ∀ n (a : Hs), a 4 l ≤ a 0 2 → v ≤ a 0 2 → tk n (upA a 4 l v) = upA (tk n a) 4 l v
  | 0, _, _, _ => rfl
  | n + 1, a, h1, h2 => by
    show tk n (tickS (upA a 4 l v)) = upA (tk n (tickS a)) 4 l v
    rw [tick_4 h1 h2]
    refine tk_4 n _ ?_ ?_
    · rw [tickS_c (c := 4) (by omega), tickS_t]; omega
    · rw [tickS_t]; omega
/-- one whose start is ahead waits on -/
theorem wait_F {lay : Nat → Nat} {f l : Nat} {b : Hs} (h : lay l ≠ f) : ∀ n, (iter n (stepF lay f) b) 5 l = b 5 l
  | 0 => rfl
  | n + 1 => by
    show (stepF lay f n (iter n (stepF lay f) b)) 5 l = b 5 l
    have key : ∀ Y : Hs, (stepF lay f n Y) 5 l = Y 5 l := by
      intro Y
      unfold stepF
      split
      · next e => exact fallA_5.1 l (fun q => h (by rw [q]; exact e))
      · rfl
    exact (key _).trans (wait_F h n)
theorem wait_G {lay : Nat → Nat} {l N : Nat} {b : Hs} (h : N ≤ lay l) : ∀ n, n ≤ N → (iter n (floorA lay) b) 5 l = b 5 l
  | 0, _ => rfl
  | n + 1, hn => by
    show (floorA lay n (iter n (floorA lay) b)) 5 l = b 5 l
    rw [floorA_eq, wait_F (by omega), wait_G h n (by omega)]
theorem wait_C {l : Nat} {b : Hs} (h : b 0 2 < b 4 l) : ∀ n, (iter n comeA b) 5 l = b 5 l
  | 0 => rfl
  | n + 1 => by
    show (comeA n (iter n comeA b)) 5 l = b 5 l
    have key : ∀ Y : Hs, Y 0 2 < Y 4 l → (comeA n Y) 5 l = Y 5 l := by
      intro Y k
      unfold comeA
      split
      · next c =>
        refine upA_ne (fun q => ?_)
        have := c.2.2.1
        rw [← q.2] at this
        omega
      · rfl
    refine (key _ ?_).trans (wait_C h n)
    rw [iterC_c (by omega), iterC_c (by omega)]; exact h
theorem tick_wait {a : Hs} {l : Nat} (h9 : a 0 0 ≤ 9) (h20 : a 5 l = 20) (h : a 0 2 < a 4 l) : (tickS a) 5 l = 20 := by
  show (upA (iter (a 0 3) comeA (iter (a 0 0) (floorA (a 5)) a)) 0 2 (a 0 2 + 1)) 5 l = 20
  rw [upA_c (by omega), wait_C, wait_G (N := a 0 0) (by omega) _ (Nat.le_refl _), h20]
  rw [iterG_c (by omega), iterG_c (by omega)]
  exact h
theorem tk_wait {l : Nat} : ∀ n (a : Hs), a 0 0 ≤ 9 → a 5 l = 20 → a 0 2 + n ≤ a 4 l → (tk n a) 5 l = 20
  | 0, _, _, h, _ => h
  | n + 1, a, h9, h20, h => by
    show (tk n (tickS a)) 5 l = 20
    refine tk_wait n _ ?_ (tick_wait h9 h20 (by omega)) ?_
    · rw [tickS_0 (by omega)]; exact h9
    · rw [tickS_c (c := 4) (by omega), tickS_t]; omega
