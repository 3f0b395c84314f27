/-! constructors: the reference; what holds at first -/
abbrev L35 : List (Nat × Nat × Nat) := [(1, 0, 0), (1, 0, 0), (1, 0, 0), (0, 0, 0), (0, 0, 0), (0, 0, 0), (0, 0, 0), (1, 0, 0), (1, 0, 0), (1, 0, 0), (1, 0, 0), (0, 0, 0), (1, 0, 0), (0, 0, 0), (0, 0, 0), (1, 0, 0), (0, 0, 0), (1, 0, 0), (0, 0, 0), (0, 0, 0), (0, 0, 0), (0, 0, 0), (0, 0, 0), (1, 0, 0), (1, 0, 0), (1, 0, 0), (0, 0, 0), (0, 0, 0), (1, 0, 0), (0, 0, 0), (0, 0, 0), (0, 0, 0), (1, 0, 0), (1, 0, 0), (1, 0, 0)]
abbrev fsM : List Value := [.ref 360, .ref 361, .ref 362, .int 0, .int 0, .int 0, .int 0, .ref 363, .ref 364, .ref 365, .ref 366, .int 0, .ref 367, .int 0, .int 0, .ref 368, .int 0, .ref 369, .int 0, .int 0, .int 0, .int 0, .int 0, .ref 370, .ref 371, .ref 372, .int 0, .int 0, .ref 373, .int (-1000000), .int 0, .int 0, .ref 374, .ref 375, .ref 376]
theorem cellG_out {f : Nat → Int32} {k : Nat} (h : 377 ≤ k) : cellG f k = dfc := by
  unfold cellG othG
  rw [if_neg (by omega), if_neg (by omega), if_neg (by omega)]
  repeat rw [if_neg (by omega)]
  rfl
theorem cut_mk : ((377, 5248, cut 377) : AH) = mk S00 := by
  unfold mk
  congr 2
  funext k
  unfold cut
  by_cases c : k < 377
  · rw [if_pos c]
  · rw [if_neg c, cellG_out (by omega)]
theorem sizes_loop (sc : Nat × (Nat → Int32)) (d : Nat) : ∀ n i, i + n = 8 → EX sc (d + 1) 133 1 [.ref 359, .int (nI i)] [] (377, 5248, va_up (va_up (cut 377) 362 (.inl (0, 8, .inl (lnF i)))) 359 (.inr (11, fsM))) = some (none, mk S00) := by
  intro n
  induction n with
  | zero =>
    intro i hi
    rw [e133_1, if_pos (show (8 : Int32) ≤ nI i from nI_le (a := 8) (by omega) (by omega)), e133_2, show i = 8 by omega, cut_back (show 362 < 377 by omega) (by rfl), cut_back (show 359 < 377 by omega) (by rfl), cut_mk]
  | succ n ih =>
    intro i hi
    rw [e133_1, if_neg (show ¬ (8 : Int32) ≤ nI i from nI_ge (b := 8) (by omega) (by omega)), gR_raw (x := 362) (fs := fsM) (by omega) (by exact vup_at _ _ _) rfl, oB_s, sI_raw (g := lnF i) (m := 8) (by omega) (by rw [vup_ne (by omega), vup_at]) (by omega) (by omega), oB_s, nI_1, lnF_s, vup_comm (show (359 : Nat) ≠ 362 by omega), vup_vup]
    exact ih (i + 1) (by omega)
theorem model_init (sc : Nat × (Nat → Int32)) : EX sc 39 133 0 [.ref 359, Jk] [] (newO (359, 3759, cut 359) 11 L35) = some (none, mk S00) := by
  have h0 : newO (359, 3759, cut 359) 11 L35 = cH 360 3794 (cut 360) 359 11 (dfl L35) := by
    show ((360, 3794, va_up (cut 359) 359 (.inr (11, dfl L35))) : AH) = (360, 3794, va_up (cut 360) 359 (.inr (11, dfl L35)))
    rw [cut_over]
  have q320 : Int32.toNatClampNeg 320 = 320 := rfl
  have q8 : Int32.toNatClampNeg 8 = 8 := rfl
  have q6 : Int32.toNatClampNeg 6 = 6 := rfl
  have q32 : Int32.toNatClampNeg 32 = 32 := rfl
  have q768 : Int32.toNatClampNeg 768 = 768 := rfl
  have q96 : Int32.toNatClampNeg 96 = 96 := rfl
  have q100 : Int32.toNatClampNeg 100 = 100 := rfl
  have q16 : Int32.toNatClampNeg 16 = 16 := rfl
  rw [h0, e133_0, q320, q8, q6, q32, q768, q96, q100, q16]
  rw [if_neg (by decide), pv_n (by omega) (by simp [dfl]), oB_s, cut_s (c := Z 320) (by rfl)]
  rw [if_neg (by decide), pv_n (by omega) (by simp [dfl]), oB_s, cut_s (c := Z 8) (by rfl)]
  rw [if_neg (by decide), pv_n (by omega) (by simp [dfl]), oB_s, cut_over]
  rw [if_neg (by decide), pv_n (by omega) (by simp [dfl]), oB_s, b0_s (c := Z 6) (by omega) (by rfl)]
  rw [if_neg (by decide), pv_n (by omega) (by simp [dfl]), oB_s, b0_s (c := Z 6) (by omega) (by rfl)]
  rw [if_neg (by decide), pv_n (by omega) (by simp [dfl]), oB_s, b0_s (c := Z 32) (by omega) (by rfl)]
  rw [if_neg (by decide), pv_n (by omega) (by simp [dfl]), oB_s, b0_s (c := Z 768) (by omega) (by rfl)]
  rw [if_neg (by decide), pv_n (by omega) (by simp [dfl]), oB_s, b0_s (c := Z 96) (by omega) (by rfl)]
  rw [if_neg (by decide), pv_n (by omega) (by simp [dfl]), oB_s, b0_s (c := Z 100) (by omega) (by rfl)]
  rw [if_neg (by decide), pv_n (by omega) (by simp [dfl]), oB_s, b0_s (c := Z 16) (by omega) (by rfl)]
  rw [if_neg (by decide), pv_n (by omega) (by simp [dfl]), oB_s, b0_s (c := Z 6) (by omega) (by rfl)]
  rw [if_neg (by decide), pv_n (by omega) (by simp [dfl]), oB_s, b0_s (c := Z 6) (by omega) (by rfl)]
  rw [if_neg (by decide), pv_n (by omega) (by simp [dfl]), oB_s, b0_s (c := Z 32) (by omega) (by rfl)]
  rw [if_neg (by decide), pv_n (by omega) (by simp [dfl]), oB_s, b0_s (c := Z 32) (by omega) (by rfl)]
  rw [pv_o (by omega) (by simp [dfl]), oB_s]
  rw [if_neg (by decide), pv_n (by omega) (by simp [dfl]), oB_s, b0_s (c := Z 6) (by omega) (by rfl)]
  rw [if_neg (by decide), pv_n (by omega) (by simp [dfl]), oB_s, b0_s (c := Z 6) (by omega) (by rfl)]
  rw [if_neg (by decide), pv_n (by omega) (by simp [dfl]), oB_s, b0_s (c := Z 6) (by omega) (by rfl)]
  have z : Z 8 = .inl (0, 8, .inl (lnF 0)) := by
    have : lnF 0 = fun _ => 0 := by funext j; exact if_neg (by omega)
    rw [this]
    rfl
  rw [z]
  exact sizes_loop sc 38 8 0 (by omega)
def X00 : Xs := mkX (fun _ => 0) (fun _ => -1) (fun _ _ => 0) 0 (fun _ => 0) 0 0 (fun _ => 0) 0 (fun _ _ => 0) (fun _ _ _ => 0) 0 (fun _ _ _ => 0)
theorem S00_k {k j : Nat} (h1 : k ≠ 2) (h2 : k ≠ 362) (h3 : k ≠ 359) : S00 k j = 0 := by rw [S00_0 h1 h2 h3]
theorem HR00 {p : Nat} (h : isH p) : HR S00 p (fun _ _ => 0) := by
  have := isH_lt h
  have h23 : 23 ≤ p := by unfold isH at h; omega
  exact ⟨h, fun j hj => S00_k (by omega) (by omega) (by omega), fun o j _ _ _ => S00_k (by omega) (by omega) (by omega), fun q _ => S00_k (by omega) (by omega) (by omega), fun q _ => S00_k (by omega) (by omega) (by omega)⟩
theorem Inv00 : Inv S00 := by
  refine ⟨X00, ?_, ?_, ?_⟩
  · exact ⟨fun r _ => Or.inl rfl, show 0 ≤ 100 by omega, show 0 ≤ 16 by omega, fun j hj => absurd (show j < 0 from hj) (by omega), Or.inr ⟨rfl, rfl, rfl, rfl, rfl⟩, show 0 ≤ 24 by omega, fun j hj => absurd (show j < 0 from hj) (by omega), fun k _ => Or.inr rfl⟩
  · refine ⟨fun r hr => ⟨?_, fun q => absurd rfl q, fun j _ => S00_k (by omega) (by omega) (by omega)⟩, rfl, rfl, ⟨rfl, fun j hj => absurd (show j < 0 from hj) (by omega)⟩, ⟨rfl, fun j hj => absurd (show j < 0 from hj) (by omega)⟩, HR00 isH_23, ⟨_, HR00 isH_34⟩, ⟨rfl, 0, by omega, rfl, fun j hj => absurd (show j < 0 from hj) (by omega)⟩, fun k hk => HR00 (by unfold isH; omega), Or.inl rfl⟩
    show (if r < 8 then (-1 : Int32) else 0) = if (-1 : Int32) = -1 then -1 else 0
    rw [if_pos hr, if_pos rfl]
  · refine ⟨fun r hr => ⟨?_, fun q => absurd rfl q, fun j _ => S00_k (by omega) (by omega) (by omega)⟩, rfl, rfl, ⟨rfl, fun j hj => absurd (show j < 0 from hj) (by omega)⟩, ⟨rfl, fun j hj => absurd (show j < 0 from hj) (by omega)⟩, rfl, ⟨rfl, rfl, fun l hl => absurd (show l < 0 from hl) (by omega)⟩, ⟨fun l hl => absurd (show l < 0 from hl) (by omega), rfl, rfl⟩, rfl, ⟨rfl, fun j hj => absurd (show j < 0 from hj) (by omega)⟩, 0, by omega, rfl, fun k hk => ⟨?_, fun q => absurd rfl q⟩⟩
    · show (if r < 8 then (-1 : Int32) else 0) = -1
      rw [if_pos hr]
    · rw [Nat.zero_testBit]
      rfl
