/-! acts are kept for undo -/
def keepX (X : Xs) : Xs := X.wnow X.nw (fun j => if j = 0 then X.nw else X.ac (j - 1)) (if X.an < 24 then X.an + 1 else 24)
theorem SameSt.rf (a : Hs) : SameSt a a := ⟨rfl, rfl, fun _ _ => ⟨rfl, rfl⟩⟩
theorem XOk_keep {X : Xs} (h : XOk X) (hg : Gd X.nw) : XOk (keepX X) := by
  obtain ⟨h1, h2, h3, h4, h5, h6, h7, h8⟩ := h
  refine ⟨h1, h2, h3, h4, Or.inl hg, ?_, fun j hj => ?_, h8⟩
  · show (if X.an < 24 then X.an + 1 else 24) ≤ 24
    split <;> omega
  · have hj' : j < (if X.an < 24 then X.an + 1 else 24) := hj
    show Gd (if j = 0 then X.nw else X.ac (j - 1)) ∧ SameSt (if j = 0 then X.nw else X.ac (j - 1)) X.nw
    by_cases e : j = 0
    · rw [if_pos e]; exact ⟨hg, SameSt.rf _⟩
    · rw [if_neg e]
      refine h7 (j - 1) ?_
      split at hj' <;> omega
theorem isH_act {x : Nat} (h : x < 24) : isH (73 + 11 * x) := by
  unfold isH
  omega
theorem isH_img {x : Nat} (h : x < 2) : isH (337 + 11 * x) := by
  unfold isH
  omega
theorem isH_23 : isH 23 := by unfold isH; omega
theorem keep_spec {S : Nat → Nat → Int32} {X : Xs} (h : CR S X) (hX : XOk X) (sc : Nat × (Nat → Int32)) (d : Nat) : ∃ S', EX sc (d + 2) 126 0 [.ref 0] [] (mk S) = some (none, mk S') ∧ CR S' (keepX X) ∧ S' 45 5 = 0 ∧ FrC S S' := by
  obtain ⟨g9, x, hx, g10, ga⟩ := h.acts
  have han := hX.2.2.2.2.2.1
  obtain ⟨T, k1, k2, k3⟩ := copyFrom_spec h.now (isH_act hx) (Or.inr (by omega)) sc d
  have t0 : T 0 = S 0 := k3 0 (by omega)
  have er : nI (x + 1) - nI (x + 1) / 24 * 24 = nI ((x + 1) % 24) := pk_rem (d := 24) (by omega) (by omega) (by omega)
  have em : (if nI (X.an + 1) < 24 then nI (X.an + 1) else 24) = nI (if X.an < 24 then X.an + 1 else 24) := by
    have e : (nI (X.an + 1) < 24) ↔ X.an + 1 < 24 := nI_ltI (b := 24) (by omega) (by omega)
    by_cases c : X.an < 24
    · rw [if_pos c]
      by_cases c2 : X.an + 1 < 24
      · rw [if_pos (e.mpr c2)]
      · rw [if_neg (fun q => c2 (e.mp q)), show X.an + 1 = 24 by omega]; rfl
    · rw [if_neg c, if_neg (fun q => by have := e.mp q; omega)]; rfl
  have hS' : ∃ S', S' = up (up (up T 0 10 (nI ((x + 1) % 24))) 0 9 (nI (if X.an < 24 then X.an + 1 else 24))) 45 5 0 := ⟨_, rfl⟩
  obtain ⟨S', hS'⟩ := hS'
  have hf : ∀ k, k ≠ 0 → k ≠ 45 → ¬ (73 + 11 * x ≤ k ∧ k ≤ 73 + 11 * x + 10) → S' k = S k := fun k a b c => by
    rw [hS', up_row_ne b, up_row_ne a, up_row_ne a]; exact k3 k c
  have hf0 : ∀ j, j ≠ 9 → j ≠ 10 → S' 0 j = S 0 j := fun j a b => by
    rw [hS', up_row_ne (by omega), up_ne (by omega), up_ne (by omega), t0]
  refine ⟨S', ?_, ?_, ?_, fun k hk => hf k (by omega) (by omega) (by omega)⟩
  · have hu : ∀ v, up T 0 10 v 0 9 = nI X.an := fun v => by rw [up_ne (by omega), t0, g9]
    rw [e126_0]
    simp only [O0, Hg (isH_act hx), oB_s, g10, aR71 S hx, if_true, k1, cV_s, t0, nI_1, er, P0, hu, em, O45, e32_0, P45]
    rw [if_neg (show ¬ (24 : Int32) = 0 by decide)]
    simp only [oB_s, hS', cV_s]
  · have an23 : ∀ j, j < X.an → (x + 23 - j) % 24 < 24 := fun j _ => Nat.mod_lt _ (by omega)
    exact ⟨h.shelf.cg (fun k h1 h2 => hf k (by omega) (by omega) (by omega)), by rw [hf0 12 (by omega) (by omega)]; exact h.st, by rw [hf0 11 (by omega) (by omega)]; exact h.fl, by rw [hf 13 (by omega) (by omega) (by omega), hf 14 (by omega) (by omega) (by omega)]; exact h.tape, by rw [hf 15 (by omega) (by omega) (by omega), hf 16 (by omega) (by omega) (by omega)]; exact h.trace, h.now.cg (fun k h1 h2 => hf k (by omega) (by omega) (by omega)), by obtain ⟨b, hb⟩ := h.draft; exact ⟨b, hb.cg (fun k h1 h2 => hf k (by omega) (by omega) (by omega))⟩, ⟨by rw [hS', up_row_ne (by omega), up_same]; rfl, (x + 1) % 24, Nat.mod_lt _ (by omega), by rw [hS', up_row_ne (by omega), up_ne (by omega), up_same], fun j hj => by
      have hj' : j < (if X.an < 24 then X.an + 1 else 24) := hj
      show HR S' (73 + 11 * (((x + 1) % 24 + 23 - j) % 24)) (if j = 0 then X.nw else X.ac (j - 1))
      by_cases e : j = 0
      · rw [if_pos e, show ((x + 1) % 24 + 23 - j) % 24 = x by omega]
        exact k2.cg (fun k a b => by rw [hS', up_row_ne (by omega), up_row_ne (by omega), up_row_ne (by omega)])
      · have hj2 : j - 1 < X.an ∧ j < 24 := by split at hj' <;> omega
        rw [if_neg e, show ((x + 1) % 24 + 23 - j) % 24 = (x + 23 - (j - 1)) % 24 by omega]
        refine (ga (j - 1) hj2.1).cg (fun k a b => hf k (by omega) ?_ ?_)
        · omega
        · omega⟩, fun k hk => (h.img k hk).cg (fun k h1 h2 => hf k (by omega) (by omega) (by omega)), Or.inl (by rw [hS', up_same])⟩
  · rw [hS', up_same]
theorem CR_now {S S' : Nat → Nat → Int32} {X : Xs} {b : Hs} (h : CR S X) (h5 : S 45 5 = 0) (hb : HR S' 23 b) (hf : Fr 23 S S') : CR S' (X.wnow b X.ac X.an) := by
  have hg : ∀ k, ¬ (23 ≤ k ∧ k ≤ 33) → S' k = S k := hf
  have an23 : ∀ x j, (x + 23 - j) % 24 < 24 := fun x j => Nat.mod_lt _ (by omega)
  exact ⟨h.shelf.cg (fun k h1 h2 => hg k (by omega)), by rw [hg 0 (by omega)]; exact h.st, by rw [hg 0 (by omega)]; exact h.fl, by rw [hg 13 (by omega), hg 14 (by omega)]; exact h.tape, by rw [hg 15 (by omega), hg 16 (by omega)]; exact h.trace, hb, by obtain ⟨b, hb⟩ := h.draft; exact ⟨b, hb.cg (fun k h1 h2 => hg k (by omega))⟩, h.acts.cg (by rw [hg 0 (by omega)]) (by rw [hg 0 (by omega)]) (fun k h1 h2 => hg k (by omega)), fun k hk => (h.img k hk).cg (fun k h1 h2 => hg k (by omega)), Or.inl (by rw [hg 45 (by omega)]; exact h5)⟩
theorem MP_now {S S' : Nat → Nat → Int32} {X : Xs} {b : Hs} (h : MP S X) (hX : XOk X) (hs : SameSt b X.nw) (hb : MRow (S' 365) b) (hf : ∀ k, k ≠ 365 → ¬ (373 ≤ k ∧ k ≤ 375) → S' k = S k) : MP S' (X.wnow b X.ac X.an) := by
  have st : MSt S' b := by
    have := h.stat.cg hX.l6 h.none (S' := S') (by rw [hf 359 (by omega) (by omega)]) (by rw [hf 359 (by omega) (by omega)]) (by rw [hf 359 (by omega) (by omega)]) (hf 363 (by omega) (by omega)) (hf 364 (by omega) (by omega))
    unfold MSt at this ⊢
    rw [hs.1, hs.2.1]
    refine ⟨this.1, this.2.1, fun l hl => ?_⟩
    rw [(hs.2.2 l (by rw [hs.2.1]; exact hl)).1, (hs.2.2 l (by rw [hs.2.1]; exact hl)).2]
    exact this.2.2 l hl
  exact ⟨by rw [hf 360 (by omega) (by omega), hf 361 (by omega) (by omega), hf 362 (by omega) (by omega)]; exact h.shelf, by rw [hf 359 (by omega) (by omega)]; exact h.st, by rw [hf 359 (by omega) (by omega)]; exact h.fl, by rw [hf 359 (by omega) (by omega), hf 368 (by omega) (by omega)]; exact h.tape, by rw [hf 359 (by omega) (by omega), hf 369 (by omega) (by omega)]; exact h.trace, by rw [hf 359 (by omega) (by omega)]; exact h.none, st, hb, by rw [hf 359 (by omega) (by omega)]; show _ = if b 0 3 = 0 then 0 else 1; rw [hs.2.1]; exact h.has, by rw [hf 359 (by omega) (by omega), hf 366 (by omega) (by omega)]; exact h.acts, by rw [hf 359 (by omega) (by omega), hf 367 (by omega) (by omega)]; exact h.img⟩
theorem A366_at {S : Nat → Nat → Int32} {j : Nat} (h : j < 768) : aI (mk S) 366 (nI j) = some (S 366 j) := aI_at A366 h (by omega)
theorem A366_st {S : Nat → Nat → Int32} {j : Nat} (h : j < 768) (x : Int32) : sI (mk S) 366 (nI j) x = some (mk (up S 366 j x)) := sI_at A366 h (by omega) x
theorem note2_eq (S : Nat → Nat → Int32) {n : Nat} (hn : n < 24) (h11 : S 359 11 = nI n) (sc : Nat × (Nat → Int32)) (d : Nat) : EX sc (d + 1) 174 3 [.ref 359, Jk] [] (mk S) = some (none, mk (up (cpR S 366 365 (32 * n) 0 32) 359 11 (nI (n + 1)))) := by
  rw [e174_3]
  have := loopN (N := 32) (fun k T => EX sc (d + 1) 174 4 [.ref 359, .int (nI k)] [] (mk T)) (fun T => some (none, mk (up T 359 11 (nI (n + 1))))) (fun k => cpR S 366 365 (32 * n) 0 k) (by
    show EX sc (d + 1) 174 4 _ _ _ = _
    rw [e174_4, e174_5, if_pos (by decide)]
    simp only [O359, P359, oB_s, cpR_ne (show 359 ≠ 366 by omega), h11, nI_1]) (fun k hk => by
    show EX sc (d + 1) 174 4 _ _ _ = EX sc (d + 1) 174 4 _ _ _
    rw [e174_4, if_neg (show ¬ (32 : Int32) ≤ nI k from nI_ge (b := 32) (by omega) (by omega))]
    have hst := cpR_step (S := S) (dst := 366) (src := 365) (b := 32 * n) (a := 0) (n := k) (Or.inl (by omega))
    rw [Nat.zero_add] at hst
    simp only [O359, oB_s, cpR_ne (show 359 ≠ 366 by omega), h11, show (32 : Int32) = nI 32 from rfl, pk_mul, nI_add, A365_at (S := cpR S 366 365 (32 * n) 0 k) (show k < 32 by omega), A366_st (S := cpR S 366 365 (32 * n) 0 k) (show 32 * n + k < 768 by omega), hst, nI_1]) 32 0 (by omega)
  rw [cpR_0] at this
  exact this
theorem note1_eq (S : Nat → Nat → Int32) (sc : Nat × (Nat → Int32)) (d : Nat) : EX sc (d + 1) 174 1 [.ref 359, .int 0] [] (mk S) = EX sc (d + 1) 174 2 [.ref 359, Jk] [] (mk (cpR S 366 366 0 32 736)) := by
  have := loopN (N := 736) (fun k T => EX sc (d + 1) 174 1 [.ref 359, .int (nI k)] [] (mk T)) (fun T => EX sc (d + 1) 174 2 [.ref 359, Jk] [] (mk T)) (fun k => cpR S 366 366 0 32 k) (by
    show EX sc (d + 1) 174 1 _ _ _ = EX sc (d + 1) 174 2 _ _ _
    rw [e174_1, if_pos (by decide)]) (fun k hk => by
    show EX sc (d + 1) 174 1 _ _ _ = EX sc (d + 1) 174 1 _ _ _
    rw [e174_1, if_neg (show ¬ (736 : Int32) ≤ nI k from nI_ge (b := 736) (by omega) (by omega))]
    have hst := cpR_step (S := S) (dst := 366) (src := 366) (b := 0) (a := 32) (n := k) (Or.inr (by omega))
    rw [Nat.zero_add] at hst
    simp only [O359, oB_s, show (32 : Int32) = nI 32 from rfl, nI_add, A366_at (S := cpR S 366 366 0 32 k) (show 32 + k < 768 by omega), A366_st (S := cpR S 366 366 0 32 k) (show k < 768 by omega), hst, nI_1]) 736 0 (by omega)
  rw [cpR_0] at this
  exact this
theorem note_spec {S : Nat → Nat → Int32} {X : Xs} (h : MP S X) (hX : XOk X) (sc : Nat × (Nat → Int32)) (d : Nat) : ∃ S', EX sc (d + 1) 174 0 [.ref 359, Jk] [] (mk S) = some (none, mk S') ∧ MP S' (keepX X) ∧ ∀ k, k ≠ 366 → k ≠ 359 → S' k = S k := by
  have han := hX.2.2.2.2.2.1
  have g := h.acts
  have hl6 := hX.l6
  by_cases c : X.an = 24
  · have hS' : ∃ S', S' = up (cpR (up (cpR S 366 366 0 32 736) 359 11 (nI 23)) 366 365 (32 * 23) 0 32) 359 11 (nI (23 + 1)) := ⟨_, rfl⟩
    obtain ⟨S', hS'⟩ := hS'
    have hf : ∀ k, k ≠ 366 → k ≠ 359 → S' k = S k := fun k a b => by
      rw [hS', up_row_ne b, cpR_ne a, up_row_ne b, cpR_ne a]
    have hg : ∀ j, j ≠ 11 → S' 359 j = S 359 j := fun j a => by
      rw [hS', up_ne (by omega), cpR_ne (by omega), up_ne (by omega), cpR_ne (by omega)]
    refine ⟨S', ?_, ?_, hf⟩
    · rw [e174_0]
      simp only [O359, oB_s, g.1]
      rw [if_pos (by rw [c]; rfl), note1_eq, e174_2]
      simp only [O359, P359, oB_s, cpR_ne (show 359 ≠ 366 by omega), g.1, c, show nI 24 - 1 = nI 23 from rfl]
      rw [note2_eq _ (show 23 < 24 by omega) (up_same _ _ _ _), ← hS']
    · exact ⟨by rw [hf 360 (by omega) (by omega), hf 361 (by omega) (by omega), hf 362 (by omega) (by omega)]; exact h.shelf, by rw [hg 3 (by omega)]; exact h.st, by rw [hg 16 (by omega)]; exact h.fl, by rw [hg 14 (by omega), hf 368 (by omega) (by omega)]; exact h.tape, by rw [hg 18 (by omega), hf 369 (by omega) (by omega)]; exact h.trace, by rw [hg 29 (by omega)]; exact h.none, h.stat.cg hX.l6 h.none (hg 4 (by omega)) (hg 5 (by omega)) (hg 29 (by omega)) (hf 363 (by omega) (by omega)) (hf 364 (by omega) (by omega)), by rw [hf 365 (by omega) (by omega)]; exact h.now, by rw [hg 6 (by omega)]; exact h.has, ⟨by rw [hS', up_same]; show nI (23 + 1) = nI (if X.an < 24 then X.an + 1 else 24); rw [if_neg (by omega)], fun j hj => by
        have hj' : j < (if X.an < 24 then X.an + 1 else 24) := hj
        show MRow (fun t => S' 366 (32 * ((if X.an < 24 then X.an + 1 else 24) - 1 - j) + t)) (if j = 0 then X.nw else X.ac (j - 1))
        rw [if_neg (show ¬ X.an < 24 by omega)] at hj' ⊢
        by_cases e : j = 0
        · rw [if_pos e]
          refine h.now.congr hl6 (fun t ht => ?_)
          show S' 366 (32 * (24 - 1 - j) + t) = S 365 t
          rw [hS', up_row_ne (by omega), cpR_at (by omega) (by omega), up_row_ne (by omega), cpR_ne (by omega), show 0 + (32 * (24 - 1 - j) + t - 32 * 23) = t by omega]
        · rw [if_neg e]
          have hz := g.2 (j - 1) (by omega)
          refine hz.congr ?_ (fun t ht => ?_)
          · rw [(hX.2.2.2.2.2.2.1 (j - 1) (by omega)).2.2.1]; exact hl6
          · show S' 366 (32 * (24 - 1 - j) + t) = S 366 (32 * (X.an - 1 - (j - 1)) + t)
            rw [hS', up_row_ne (by omega), cpR_out (by omega), up_row_ne (by omega), cpR_at (by omega) (by omega), show 32 + (32 * (24 - 1 - j) + t - 0) = 32 * (X.an - 1 - (j - 1)) + t by omega]⟩, by rw [hg 13 (by omega), hf 367 (by omega) (by omega)]; exact h.img⟩
  · have hS' : ∃ S', S' = up (cpR S 366 365 (32 * X.an) 0 32) 359 11 (nI (X.an + 1)) := ⟨_, rfl⟩
    obtain ⟨S', hS'⟩ := hS'
    have hf : ∀ k, k ≠ 366 → k ≠ 359 → S' k = S k := fun k a b => by
      rw [hS', up_row_ne b, cpR_ne a]
    have hg : ∀ j, j ≠ 11 → S' 359 j = S 359 j := fun j a => by
      rw [hS', up_ne (by omega), cpR_ne (by omega)]
    refine ⟨S', ?_, ?_, hf⟩
    · rw [e174_0]
      simp only [O359, oB_s, g.1]
      rw [if_neg (show ¬ nI X.an = 24 from fun q => c ((nI_eq (b := 24) (by omega) (by omega)).mp q)), note2_eq S (show X.an < 24 by omega) g.1, ← hS']
    · exact ⟨by rw [hf 360 (by omega) (by omega), hf 361 (by omega) (by omega), hf 362 (by omega) (by omega)]; exact h.shelf, by rw [hg 3 (by omega)]; exact h.st, by rw [hg 16 (by omega)]; exact h.fl, by rw [hg 14 (by omega), hf 368 (by omega) (by omega)]; exact h.tape, by rw [hg 18 (by omega), hf 369 (by omega) (by omega)]; exact h.trace, by rw [hg 29 (by omega)]; exact h.none, h.stat.cg hX.l6 h.none (hg 4 (by omega)) (hg 5 (by omega)) (hg 29 (by omega)) (hf 363 (by omega) (by omega)) (hf 364 (by omega) (by omega)), by rw [hf 365 (by omega) (by omega)]; exact h.now, by rw [hg 6 (by omega)]; exact h.has, ⟨by rw [hS', up_same]; show nI (X.an + 1) = nI (if X.an < 24 then X.an + 1 else 24); rw [if_pos (by omega)], fun j hj => by
        have hj' : j < (if X.an < 24 then X.an + 1 else 24) := hj
        show MRow (fun t => S' 366 (32 * ((if X.an < 24 then X.an + 1 else 24) - 1 - j) + t)) (if j = 0 then X.nw else X.ac (j - 1))
        rw [if_pos (show X.an < 24 by omega)] at hj' ⊢
        by_cases e : j = 0
        · rw [if_pos e]
          refine h.now.congr hl6 (fun t ht => ?_)
          show S' 366 (32 * (X.an + 1 - 1 - j) + t) = S 365 t
          rw [hS', up_row_ne (by omega), cpR_at (by omega) (by omega), show 0 + (32 * (X.an + 1 - 1 - j) + t - 32 * X.an) = t by omega]
        · rw [if_neg e]
          have hz := g.2 (j - 1) (by omega)
          refine hz.congr ?_ (fun t ht => ?_)
          · rw [(hX.2.2.2.2.2.2.1 (j - 1) (by omega)).2.2.1]; exact hl6
          · show S' 366 (32 * (X.an + 1 - 1 - j) + t) = S 366 (32 * (X.an - 1 - (j - 1)) + t)
            rw [hS', up_row_ne (by omega), cpR_out (by omega), show 32 * (X.an + 1 - 1 - j) + t = 32 * (X.an - 1 - (j - 1)) + t by omega]⟩, by rw [hg 13 (by omega), hf 367 (by omega) (by omega)]; exact h.img⟩
