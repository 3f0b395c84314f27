/-! poke, post, ticks, undo -/
theorem plv0 {a : Hs} (h : a 0 4 = 0) (l : Nat) : plv a l = a 5 l := by
  unfold plv
  rw [h]
  simp
theorem postAnew_spec {S : Nat → Nat → Int32} {p : Nat} {a : Hs} {B : Nat} (h : HR S p a) (hw : WFg B a) {i f : Nat} (hi : i < a 0 3) (sc : Nat × (Nat → Int32)) (d : Nat) : ∃ S', EX sc (d + 2) 16 0 [.ref p, .int (nI i), .int (nI f)] [] (mk S) = some (none, mk S') ∧ HR S' p (postA a i f) ∧ Fr p S S' := by
  have h6 := hw.1
  have hp := h.1
  obtain ⟨S1, k1, k2, k3⟩ := moveTo_spec h hw (i := i) (q := 20) hi (by omega) sc d
  have ht : S1 p 2 = nI (a 0 2) := by rw [k2.2.1 2 (by omega), upA_c (by omega)]
  rw [e16_0]
  simp only [Hg hp, if_true, show (20 : Int32) = nI 20 from rfl, k1, cV_s, oB_s, fun S x => HS hp S (show i < 6 by omega) x, up_row_ne (show p ≠ p + 2 by omega), ht]
  refine ⟨_, rfl, HR_set (v := 0) (HR_set (v := 0) (HR_set (HR_set k2 (by omega) (by omega) (by omega) (by omega)) (by omega) (by omega) (by omega) (by omega)) (by omega) (by omega) (by omega) (by omega)) (by omega) (by omega) (by omega) (by omega), fun k hk => ?_⟩
  rw [up_row_ne (by omega), up_row_ne (by omega), up_row_ne (by omega), up_row_ne (by omega)]
  exact k3 k hk
theorem goPoke_spec {S : Nat → Nat → Int32} {a : Hs} {B : Nat} (h : MS S a) (hw : WFg B a) {i : Nat} (hi : i < a 0 3) (hs : a 5 i < 20) (sc : Nat × (Nat → Int32)) (d : Nat) : ∃ S', EX sc (d + 1) 178 0 [.ref 359, .int (nI i)] [] (mk S) = some (none, mk S') ∧ MS S' (upA a 5 i (dn (a 5 i))) ∧ RC S S' := by
  have h6 := hw.1
  have hpv : plv a i = a 5 i := (plv_q hs).mpr rfl
  have e0 : (nI (a 5 i) = 0) ↔ a 5 i = 0 := nI_eq (b := 0) (by omega) (by omega)
  have hd : dn (a 5 i) ≠ 20 := by unfold dn; split <;> omega
  have key : ∃ S', EX sc (d + 1) 178 0 [.ref 359, .int (nI i)] [] (mk S) = some (none, mk S') ∧ S' = up S 373 i (nI (dn (a 5 i))) := by
    refine ⟨_, ?_, rfl⟩
    rw [e178_0]
    simp only [O359, oB_s, A373_at (S := S) (show i < 32 by omega), (h.2.1 i hi).1, hpv]
    unfold dn
    by_cases c : a 5 i = 0
    · rw [if_pos (e0.mpr c), if_pos c, e178_2, A373_st (S := S) (show i < 32 by omega), oB_s]; rfl
    · rw [if_neg (fun q => c (e0.mp q)), if_neg c, e178_1]
      simp only [O359, oB_s, A373_at (S := S) (show i < 32 by omega), (h.2.1 i hi).1, hpv]
      obtain ⟨k, hk⟩ : ∃ k, a 5 i = k + 1 := ⟨a 5 i - 1, by omega⟩
      rw [hk, nI_pred, e178_2, A373_st (S := S) (show i < 32 by omega), oB_s]; rfl
  obtain ⟨S', k1, k2⟩ := key
  refine ⟨S', k1, ?_, by rw [k2]; exact RC.up⟩
  obtain ⟨h1, h2, h3, h4⟩ := h
  rw [k2]
  refine ⟨h1.fm RC.up.fm, fun l hl => ?_, ?_, ?_⟩
  · have hl' : l < a 0 3 := hl
    obtain ⟨g1, g2, g3, g4, g5⟩ := h2 l hl'
    rw [up_ne (j' := 6 + l) (by omega), up_ne (j' := 12 + l) (by omega), up_ne (j' := 18 + l) (by omega), up_ne (j' := 24 + l) (by omega), up_at]
    refine ⟨?_, g2, g3, g4, g5⟩
    unfold plv
    have e9 : upA a 5 i (dn (a 5 i)) 5 l = if l = i then dn (a 5 i) else a 5 l := by rw [upA_at]; simp
    rw [upA_c (show (0 : Nat) ≠ 5 by omega), e9]
    by_cases e : l = i
    · simp only [e, true_and, if_true]
      rw [if_neg (fun z => hd z.2)]
    · simp only [e, and_false, if_false]
      exact g1
  · rw [up_ne (by omega)]; exact h3
  · rw [up_ne (by omega)]; exact h4
theorem goPost_spec {S : Nat → Nat → Int32} {a : Hs} (h : MS S a) (h6 : a 0 3 ≤ 6) (hv : a 0 4 = 0) {i f : Nat} (hi : i < a 0 3) (sc : Nat × (Nat → Int32)) (d : Nat) : ∃ S', EX sc (d + 1) 180 0 [.ref 359, .int (nI i), .int (nI f)] [] (mk S) = some (none, mk S') ∧ MS S' (postA a i f) ∧ RC S S' := by
  have e1 : ∀ b : Nat, ∀ x : Int32, x = nI b → x + nI i = nI (b + i) := fun b x hx => by rw [hx, nI_add]
  have hS' : ∃ S', S' = up (up (up (up (up S 373 i 20) 373 (24 + i) (nI f)) 373 (18 + i) (nI (a 0 2))) 373 (6 + i) 0) 373 (12 + i) 0 := ⟨_, rfl⟩
  obtain ⟨S', hS'⟩ := hS'
  have hr : RC S S' := fun k hk => by rw [hS', up_row_ne hk, up_row_ne hk, up_row_ne hk, up_row_ne hk, up_row_ne hk]
  refine ⟨S', ?_, ?_, hr⟩
  · have t : ∀ x, up (up S 373 i 20) 373 (24 + i) x 373 31 = nI (a 0 2) := fun x => by rw [up_ne (by omega), up_ne (by omega)]; exact h.2.2.2
    rw [e180_0]
    simp only [O359, oB_s, e1 24 24 rfl, e1 18 18 rfl, e1 6 6 rfl, e1 12 12 rfl, fun S x => A373_st (S := S) (show i < 32 by omega) x, fun S x => A373_st (S := S) (show 24 + i < 32 by omega) x, fun S x => A373_st (S := S) (show 18 + i < 32 by omega) x, fun S x => A373_st (S := S) (show 6 + i < 32 by omega) x, fun S x => A373_st (S := S) (show 12 + i < 32 by omega) x, show (31 : Int32) = nI 31 from rfl, fun S => A373_at (S := S) (show 31 < 32 by omega), t, hS']
  · obtain ⟨h1, h2, h3, h4⟩ := h
    have st : MSt S' (postA a i f) := by
      have := h1.fm hr.fm
      unfold MSt at this ⊢
      rw [postA_0, postA_c (c := 1) (by omega), postA_c (c := 3) (by omega)]
      exact this
    refine ⟨st, fun l hl => ?_, ?_, ?_⟩
    · have hl' : l < a 0 3 := by rw [postA_0] at hl; exact hl
      obtain ⟨g1, g2, g3, g4, g5⟩ := h2 l hl'
      obtain ⟨p2, p4, p5, p6, p7⟩ := postA_l (a := a) (i := i) (f := f) (l := l)
      rw [plv0 (by rw [postA_0]; exact hv), p2, p4, p5, p6, p7, hS']
      rw [plv0 hv] at g1
      simp only [up_at, true_and]
      by_cases e : l = i
      · subst e
        refine ⟨?_, ?_, ?_, ?_, ?_⟩
        · rw [if_neg (by omega), if_neg (by omega), if_neg (by omega), if_neg (by omega), if_pos rfl, if_pos rfl]; rfl
        · rw [if_neg (by omega), if_pos rfl, if_pos rfl]; rfl
        · rw [if_pos rfl, if_pos rfl]; rfl
        · rw [if_neg (by omega), if_neg (by omega), if_pos rfl, if_pos rfl]
        · rw [if_neg (by omega), if_neg (by omega), if_neg (by omega), if_pos rfl, if_pos rfl]
      · simp only [e, if_false]
        refine ⟨?_, ?_, ?_, ?_, ?_⟩
        · rw [if_neg (by omega), if_neg (by omega), if_neg (by omega), if_neg (by omega)]; exact g1
        · rw [if_neg (by omega), if_neg (by omega), if_neg (by omega), if_neg (by omega), if_neg (by omega)]; exact g2
        · rw [if_neg (by omega), if_neg (by omega), if_neg (by omega), if_neg (by omega), if_neg (by omega)]; exact g3
        · rw [if_neg (by omega), if_neg (by omega), if_neg (by omega), if_neg (by omega), if_neg (by omega)]; exact g4
        · rw [if_neg (by omega), if_neg (by omega), if_neg (by omega), if_neg (by omega), if_neg (by omega)]; exact g5
    · rw [hS', up_ne (by omega), up_ne (by omega), up_ne (by omega), up_ne (by omega), up_ne (by omega), postA_0]; exact h3
    · rw [hS', up_ne (by omega), up_ne (by omega), up_ne (by omega), up_ne (by omega), up_ne (by omega), postA_0]; exact h4
/-- the row aside is taken -/
theorem take_spec {S : Nat → Nat → Int32} {X : Xs} {b : Hs} (h : MP S X) (hX : XOk X) (hs : SameSt b X.nw) (hb : MRow (S 373) b) (sc : Nat × (Nat → Int32)) (d : Nat) : ∃ S', EX sc (d + 1) 157 0 [.ref 359, Jk] [] (mk S) = some (none, mk S') ∧ MP S' (X.wnow b X.ac X.an) ∧ MRow (S' 373) b ∧ ∀ k, k ≠ 365 → S' k = S k := by
  have h6 : b 0 3 ≤ 6 := by rw [hs.2.1]; exact hX.l6
  refine ⟨_, take_eq S sc d, MP_now h hX hs ?_ (fun k h1 h2 => cpR_ne h1), ?_, fun k hk => cpR_ne hk⟩
  · exact hb.congr h6 (fun j hj => by rw [cpR_at (by omega) (by omega)]; congr 1; omega)
  · rw [cpR_ne (by omega)]; exact hb
theorem op_poke (sc : Nat × (Nat → Int32)) (x : Int32) : St2 sc 91 [.ref 0, .int x] 179 [.ref 359, .int x] := by
  rintro S ⟨X, hX, hC, hM⟩
  have h6 := hX.l6
  have hw := hX.wf
  have h9 := hw.2.1
  by_cases c : 0 ≤ x ∧ x ≤ nI (X.nw 0 3) - 1
  · obtain ⟨i, hi, rfl⟩ := (toL (by omega)).mp c
    have hg := hX.gd (by omega)
    by_cases c2 : X.nw 5 i < 20
    · obtain ⟨S1, k1, k2, k3, k4⟩ := keep_spec hC hX sc 36
      have hX1 := XOk_keep hX hg
      have hd : dn (X.nw 5 i) < X.nw 0 0 ∨ dn (X.nw 5 i) = 20 ∨ dn (X.nw 5 i) = 21 := by
        have := (hw.2.2.2.2.2 i hi).2.2.2.2.1
        unfold dn
        split <;> omega
      have hd22 : dn (X.nw 5 i) < 22 := by omega
      have hsm : SameSt (upA X.nw 5 i (dn (X.nw 5 i))) X.nw := SameSt.up (by omega) (by omega) (by omega)
      have hg2 : Gd (upA X.nw 5 i (dn (X.nw 5 i))) := Gd_move hg hd
      have hn : HR S1 23 X.nw := k2.now
      obtain ⟨S2, q1, q2, q3⟩ := moveTo_spec hn hw hi hd22 sc 37
      refine stp (X := X) (X' := (keepX X).wnow (upA X.nw 5 i (dn (X.nw 5 i))) (keepX X).ac (keepX X).an) (r := nI (dn (X.nw 5 i))) hX (XOk_now hX1 hg2 hsm) hM ⟨S2, ?_, CR_now k2 k3 q2 q3, k4.tr (q3.c isH_23)⟩ (fun T hM1 => ?_)
      · rw [e91_0]
        simp only [O0, if_true, isLetterC hC, cI_s, ii_0]
        rw [if_pos c, e91_1]
        simp only [O0, oB_s, Hg isH_23, if_true, isInShaft_eq hC.now hw hi, cI_s, ii_0]
        rw [if_pos c2, e91_2]
        have hp : S2 28 i = nI (dn (X.nw 5 i)) := by
          have := q2.2.2.1 5 i (by omega) (by omega) (by omega)
          rw [upA_same] at this
          exact this
        simp only [O0, oB_s, if_true, k1, cV_s, Hg isH_23, fun S => HA isH_23 S (show i < 6 by omega), pl_I hn (show 1 ≤ 5 by omega) (show 5 ≤ 8 by omega) (show i < 6 by omega), below_eq S1 (show X.nw 5 i < 1000 by omega), cI_s, q1, hp]
      · obtain ⟨T1, a1, a2, a3⟩ := aside_spec hM1.stat hM1.now h6 sc 37
        have hM2 := hM1.fn hX a3.fm.fn
        obtain ⟨T2, b1, b2, b3⟩ := note_spec hM2 hX sc 37
        have ms2 : MS T2 X.nw := ⟨b2.stat, by rw [b3 373 (by omega) (by omega)]; exact a2.2⟩
        obtain ⟨T3, d1, d2, d3⟩ := goPoke_spec ms2 hw hi c2 sc 37
        have hM3 := b2.fn hX1 d3.fm.fn
        obtain ⟨T4, f1, f2, f3, f4⟩ := take_spec hM3 hX1 hsm d2.2 sc 37
        refine ⟨T4, ?_, f2, fun k hk => ?_⟩
        · rw [e179_0]
          simp only [O359, if_true, isLetterM hM1.stat, cI_s, ii_0]
          rw [if_pos c, e179_1]
          simp only [O359, if_true, a1, cV_s, isShaft_eq a2 hw hi, cI_s, ii_0]
          rw [if_pos c2, e179_2]
          have hp := (f2.now.1 i hi).1
          have hpv : plv (upA X.nw 5 i (dn (X.nw 5 i))) i = dn (X.nw 5 i) := by rw [plv0 (by rw [upA_c (by omega)]; exact hX.nv), upA_same]
          have hp2 : T4 365 i = nI (dn (X.nw 5 i)) := by rw [← hpv]; exact hp
          simp only [O359, if_true, b1, d1, f1, cV_s, oB_s, A365_at (S := T4) (show i < 32 by omega), hp2]
        · rw [f4 k (by omega), d3 k (by omega), b3 k (by omega) (by omega), a3 k (by omega)]
    · refine stp (X := X) (X' := X) (r := -1000002) hX hX hM ⟨S, ?_, hC, FrC.rf _⟩ (fun T hM1 => ?_)
      · rw [e91_0]
        simp only [O0, if_true, isLetterC hC, cI_s, ii_0]
        rw [if_pos c, e91_1]
        simp only [O0, oB_s, Hg isH_23, if_true, isInShaft_eq hC.now hw hi, cI_s, ii_0]
        rw [if_neg c2]
      · obtain ⟨T1, a1, a2, a3⟩ := aside_spec hM1.stat hM1.now h6 sc 37
        refine ⟨T1, ?_, hM1.fn hX a3.fm.fn, a3.fm.m⟩
        rw [e179_0]
        simp only [O359, if_true, isLetterM hM1.stat, cI_s, ii_0]
        rw [if_pos c, e179_1]
        simp only [O359, if_true, a1, cV_s, isShaft_eq a2 hw hi, cI_s, ii_0]
        rw [if_neg c2]
  · refine ⟨-1000001, S, S, ?_, ?_, X, hX, hC, hM⟩
    · rw [e91_0]
      simp only [O0, if_true, isLetterC hC, cI_s, ii_0]
      rw [if_neg c]
    · rw [e179_0]
      simp only [O359, if_true, isLetterM hM.stat, cI_s, ii_0]
      rw [if_neg c]
theorem Same_post (a : Hs) (i f : Nat) : SameSt (postA a i f) a := ⟨by rw [postA_0], by rw [postA_0], fun l _ => ⟨by rw [postA_c (by omega)], by rw [postA_c (by omega)]⟩⟩
theorem op_post (sc : Nat × (Nat → Int32)) (x y : Int32) : St2 sc 92 [.ref 0, .int x, .int y] 181 [.ref 359, .int x, .int y] := by
  rintro S ⟨X, hX, hC, hM⟩
  have h6 := hX.l6
  have hw := hX.wf
  have h9 := hw.2.1
  by_cases c : 0 ≤ x ∧ x ≤ nI (X.nw 0 3) - 1
  · by_cases cf : 0 ≤ y ∧ y ≤ nI (X.nw 0 0) - 1
    · obtain ⟨i, hi, rfl⟩ := (toL (by omega)).mp c
      obtain ⟨f, hf, rfl⟩ := (toL (by omega)).mp cf
      have hg := hX.gd (by omega)
      have e21 : (nI (X.nw 5 i) = 21) ↔ X.nw 5 i = 21 := nI_eq (b := 21) (by have := pl_22 hw hi; omega) (by omega)
      by_cases c2 : X.nw 5 i = 21
      · obtain ⟨S1, k1, k2, k3, k4⟩ := keep_spec hC hX sc 36
        have hX1 := XOk_keep hX hg
        have hsm := Same_post X.nw i f
        have hg2 : Gd (postA X.nw i f) := Gd_post hg hi hf
        have hn : HR S1 23 X.nw := k2.now
        obtain ⟨S2, q1, q2, q3⟩ := postAnew_spec hn hw (f := f) hi sc 36
        refine stp (X := X) (X' := (keepX X).wnow (postA X.nw i f) (keepX X).ac (keepX X).an) (r := nI (ly (postA X.nw i f) 20)) hX (XOk_now hX1 hg2 hsm) hM ⟨S2, ?_, CR_now k2 k3 q2 q3, k4.tr (q3.c isH_23)⟩ (fun T hM1 => ?_)
        · rw [e92_0]
          simp only [O0, if_true, isLetterC hC, isFloorC hC, cI_s, ii_0]
          rw [if_pos c, if_pos cf, e92_2]
          simp only [O0, oB_s, Hg isH_23, fun S => HA isH_23 S (show i < 6 by omega), pl_I hC.now (show 1 ≤ 5 by omega) (show 5 ≤ 8 by omega) (show i < 6 by omega)]
          rw [if_pos (e21.mpr c2), e92_3]
          simp only [O0, oB_s, if_true, k1, cV_s, Hg isH_23, q1, show (20 : Int32) = nI 20 from rfl, fun S => HA2 isH_23 S (show 20 < 22 by omega), q2.2.2.2.1 20 (by omega)]
        · obtain ⟨T2, b1, b2, b3⟩ := note_spec hM1 hX sc 37
          obtain ⟨T1, a1, a2, a3⟩ := aside_spec b2.stat b2.now h6 sc 37
          have hM2 := b2.fn hX1 a3.fm.fn
          obtain ⟨T3, d1, d2, d3⟩ := goPost_spec a2 h6 hX.nv (f := f) hi sc 37
          have hM3 := hM2.fn hX1 d3.fm.fn
          obtain ⟨T4, f1, f2, f3, f4⟩ := take_spec hM3 hX1 hsm d2.2 sc 37
          have hms : MS T4 (postA X.nw i f) := ⟨f2.stat, f3⟩
          refine ⟨T4, ?_, f2, fun k hk => ?_⟩
          · have hw2 := hg2.1
            have hwt := waiting_spec hms hw2 (by rw [postA_0]; exact hX.nv) sc 37
            have hp1 : plv X.nw i = X.nw 5 i := plv0 hX.nv i
            have hp2 : T 365 i = nI (X.nw 5 i) := by rw [← hp1]; exact (hM1.now.1 i hi).1
            rw [e181_0]
            simp only [O359, if_true, isLetterM hM1.stat, isFloorM hM1.stat, cI_s, ii_0]
            rw [if_pos c, if_pos cf, e181_2]
            simp only [O359, oB_s, A365_at (S := T) (show i < 32 by omega), hp2]
            rw [if_pos (e21.mpr c2), e181_3]
            simp only [O359, if_true, b1, a1, d1, f1, cV_s, hwt, cI_s]
          · rw [f4 k (by omega), d3 k (by omega), a3 k (by omega), b3 k (by omega) (by omega)]
      · refine ⟨-1000002, S, S, ?_, ?_, X, hX, hC, hM⟩
        · rw [e92_0]
          simp only [O0, if_true, isLetterC hC, isFloorC hC, cI_s, ii_0]
          rw [if_pos c, if_pos cf, e92_2]
          simp only [O0, oB_s, Hg isH_23, fun S => HA isH_23 S (show i < 6 by omega), pl_I hC.now (show 1 ≤ 5 by omega) (show 5 ≤ 8 by omega) (show i < 6 by omega)]
          rw [if_neg (fun q => c2 (e21.mp q))]
        · have hp1 : plv X.nw i = X.nw 5 i := plv0 hX.nv i
          have hp2 : S 365 i = nI (X.nw 5 i) := by rw [← hp1]; exact (hM.now.1 i hi).1
          rw [e181_0]
          simp only [O359, if_true, isLetterM hM.stat, isFloorM hM.stat, cI_s, ii_0]
          rw [if_pos c, if_pos cf, e181_2]
          simp only [O359, oB_s, A365_at (S := S) (show i < 32 by omega), hp2]
          rw [if_neg (fun q => c2 (e21.mp q))]
    · refine ⟨-1000001, S, S, ?_, ?_, X, hX, hC, hM⟩
      · rw [e92_0]
        simp only [O0, if_true, isLetterC hC, isFloorC hC, cI_s, ii_0]
        rw [if_pos c, if_neg cf, e92_1]
      · rw [e181_0]
        simp only [O359, if_true, isLetterM hM.stat, isFloorM hM.stat, cI_s, ii_0]
        rw [if_pos c, if_neg cf, e181_1]
  · refine ⟨-1000001, S, S, ?_, ?_, X, hX, hC, hM⟩
    · rw [e92_0]
      simp only [O0, if_true, isLetterC hC, isFloorC hC, cI_s, ii_0]
      rw [if_neg c, e92_1]
    · rw [e181_0]
      simp only [O359, if_true, isLetterM hM.stat, isFloorM hM.stat, cI_s, ii_0]
      rw [if_neg c, e181_1]
