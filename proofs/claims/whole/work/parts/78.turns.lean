/-! byTurns: what comes of it, and the class -/
def leafV (m : Nat) (a : Hs) : Nat := bitN 6 (ly (tk m a) 21)
def pkA (a : Hs) (i : Nat) : Hs := upA a 5 i (dn (a 5 i))
def mxV (g : Nat → Nat) (p : Nat → Bool) (b : Nat) : Nat → Nat
  | 0 => b
  | n + 1 => if p n = true then max (mxV g p b n) (g n) else mxV g p b n
def vT (m : Nat) : Nat → Nat → Hs → Nat
  | 0, _, a => leafV m a
  | k + 1, t, a => if t % 2 = 1 then (if 2 < a 0 1 then min (vT m k (t + 1) a) (vT m k (t + 1) (upA a 0 1 (a 0 1 - 1))) else vT m k (t + 1) a) else mxV (fun i => vT m k (t + 1) (pkA a i)) (fun i => decide (a 5 i < 20)) (vT m k (t + 1) a) (a 0 3)
theorem mxV_le {g : Nat → Nat} {p : Nat → Bool} {b B : Nat} (hb : b ≤ B) (hg : ∀ i, g i ≤ B) : ∀ n, mxV g p b n ≤ B
  | 0 => hb
  | n + 1 => by
    unfold mxV
    have := mxV_le (p := p) hb hg n
    have := hg n
    split <;> omega
theorem mxV_mono {g : Nat → Nat} {p : Nat → Bool} {b n : Nat} : ∀ m, mxV g p b n ≤ mxV g p b (n + m)
  | 0 => Nat.le_refl _
  | m + 1 => by
    show _ ≤ (if p (n + m) = true then max (mxV g p b (n + m)) (g (n + m)) else mxV g p b (n + m))
    have := mxV_mono (g := g) (p := p) (b := b) (n := n) m
    split <;> omega
theorem leafV_le (m : Nat) (a : Hs) : leafV m a ≤ 6 := bitN_le 6 _
theorem vT_le {m : Nat} : ∀ k t a, vT m k t a ≤ 6
  | 0, _, a => leafV_le m a
  | k + 1, t, a => by
    unfold vT
    have h1 := vT_le (m := m) k (t + 1) a
    split
    · split
      · omega
      · exact h1
    · exact mxV_le h1 (fun i => vT_le k (t + 1) (pkA a i)) _
def Rc (lo hi : Int) (r V : Nat) : Prop := (r = V) ∨ ((V : Int) ≤ lo ∧ (r : Int) ≤ lo) ∨ (hi ≤ (V : Int) ∧ hi ≤ (r : Int))
theorem OkT_move {n i q : Nat} {a : Hs} (h : OkT n a) (hq : q < a 0 0 ∨ q = 20 ∨ q = 21) : OkT n (upA a 5 i q) := by
  obtain ⟨B, w, h2, h3, h4⟩ := h
  refine ⟨B, ⟨w.1, w.2.1, w.2.2.1, w.2.2.2.1, w.2.2.2.2.1, fun j hj => ?_⟩, h2, h3, h4⟩
  obtain ⟨q1, q2, q3, q4, q5, q6, q7, q8⟩ := w.2.2.2.2.2 j hj
  refine ⟨q1, q2, q3, q4, ?_, q6, q7, q8⟩
  rw [upA_at, upA_c (show (0 : Nat) ≠ 5 by omega)]
  split
  · exact hq
  · exact q5
theorem dn_ok {B i : Nat} {a : Hs} (hw : WFg B a) (hi : i < a 0 3) (h20 : a 5 i < 20) : dn (a 5 i) < a 0 0 ∨ dn (a 5 i) = 20 ∨ dn (a 5 i) = 21 := by
  have := (hw.2.2.2.2.2 i hi).2.2.2.2.1
  unfold dn
  split <;> omega
theorem play_leaf {S : Nat → Nat → Int32} {a : Hs} {m : Nat} (h : HR S 57 a) (hw : OkT m a) (hm : m ≤ 20) {n t : Nat} (hnt : n ≤ t) (ht : t ≤ 10) (lo hi : Int32) (sc : Nat × (Nat → Int32)) (d : Nat) : ∃ S', EX sc (d + 5) 43 0 [.ref 45, .int (nI n), .int (nI t), .int (nI m), .int lo, .int hi, Jk, Jk, Jk] [] (mk S) = some (some (.int (nI (leafV m a))), mk S') ∧ HR S' 57 a ∧ FS S S' := by
  obtain ⟨S1, k1, k2, k3⟩ := copyFrom_spec h isH_46 (Or.inl (by omega)) sc (d + 3)
  obtain ⟨S2, m1, m2, m3⟩ := pass_eq k2 hw (by omega) sc d
  obtain ⟨x, hx⟩ := ptk_eq m a hw
  rw [hx] at m2
  have h6 : (upA (tk m a) 0 2 x) 0 3 ≤ 6 := by rw [upA_ne (by omega), tk_0 (by omega)]; exact hw.l6
  have b1 := lettersBoxed_eq m2 h6 sc (d + 2)
  rw [ly_t] at b1
  have f2 : Fr 46 S S2 := fun k hk => (m3 k hk).trans (k3 k hk)
  refine ⟨S2, ?_, h.fr f2 (Or.inl (by omega)), f2.fs (Or.inl rfl)⟩
  rw [e43_0, if_neg (nI_nlt (by omega) (by omega))]
  simp only [O45, oB_s, Hg isH_46, if_true, k1, cV_s, m1, b1, cI_s]
  rfl
theorem i_le {r : Nat} {x : Int32} (hr : r ≤ 1000) : (nI r ≤ x) ↔ ((r : Int) ≤ x.toInt) := by
  rw [Int32.le_iff_toInt_le, nI_toInt (by omega)]
theorem i_ge {r : Nat} {x : Int32} (hr : r ≤ 1000) : (x ≤ nI r) ↔ (x.toInt ≤ (r : Int)) := by
  rw [Int32.le_iff_toInt_le, nI_toInt (by omega)]
theorem i_lt {r : Nat} {x : Int32} (hr : r ≤ 1000) : (x < nI r) ↔ (x.toInt < (r : Int)) := by
  rw [Int32.lt_iff_toInt_lt, nI_toInt (by omega)]
theorem i_gt {r : Nat} {x : Int32} (hr : r ≤ 1000) : (nI r < x) ↔ ((r : Int) < x.toInt) := by
  rw [Int32.lt_iff_toInt_lt, nI_toInt (by omega)]
theorem play_spec {m : Nat} (hm : m ≤ 20) (n : Nat) (hn : n ≤ 4) (sc : Nat × (Nat → Int32)) (d : Nat) : ∀ (k t : Nat), t + k = n → ∀ (S : Nat → Nat → Int32) (a : Hs) (lo hi : Int32), HR S 57 a → OkT m a → lo.toInt < hi.toInt → ∃ S' r, EX sc (d + k + 5) 43 0 [.ref 45, .int (nI n), .int (nI t), .int (nI m), .int lo, .int hi, Jk, Jk, Jk] [] (mk S) = some (some (.int (nI r)), mk S') ∧ Rc lo.toInt hi.toInt r (vT m k t a) ∧ r ≤ 6 ∧ HR S' 57 a ∧ FS S S' := by
  intro k
  induction k with
  | zero =>
    intro t ht S a lo hi h hw hlh
    obtain ⟨S1, k1, k2, k3⟩ := play_leaf h hw hm (n := n) (t := t) (by omega) (by omega) lo hi sc d
    exact ⟨S1, leafV m a, k1, Or.inl rfl, leafV_le m a, k2, k3⟩
  | succ k ih =>
    intro t ht S a lo hi h hw hlh
    have h6 := hw.l6
    obtain ⟨B, hB⟩ := hw.wf
    have hwd := hB.2.2.1
    obtain ⟨S1, r1, k1, k2, k3, k4, k5⟩ := ih (t + 1) (by omega) S a lo hi h hw hlh
    have e2 : nI t - nI t / 2 * 2 = nI (t % 2) := pk_rem (d := 2) (by omega) (by omega) (by omega)
    have e3 : (nI (t % 2) = 1) ↔ t % 2 = 1 := nI_eq (b := 1) (by omega) (by omega)
    rw [show d + (k + 1) + 5 = (d + k + 5) + 1 by omega, e43_0, if_pos ((nI_ltI (by omega) (by omega)).mpr (by omega)), e43_1]
    simp only [O45, if_true, nI_1, k1, cI_s, show ((2 : Int32) = 0) = False from eq_false (by decide), if_false, e2]
    by_cases c1 : t % 2 = 1
    · have hv : vT m (k + 1) t a = if 2 < a 0 1 then min (vT m k (t + 1) a) (vT m k (t + 1) (upA a 0 1 (a 0 1 - 1))) else vT m k (t + 1) a := by
        show (if t % 2 = 1 then _ else _) = _
        rw [if_pos c1]
      have hw1 : S1 57 1 = nI (a 0 1) := k4.2.1 1 (by omega)
      rw [hv, if_pos (e3.mpr c1)]
      simp only [O45, oB_s, Hg isH_57, hw1]
      by_cases c2 : 2 < a 0 1
      · rw [if_pos c2, if_neg (show ¬ nI (a 0 1) ≤ 2 from nI_ge (a := 2) c2 (by omega))]
        by_cases c3 : (r1 : Int) ≤ lo.toInt
        · rw [if_pos ((i_le (by omega)).mpr c3), e43_2]
          refine ⟨S1, r1, rfl, ?_, k3, k4, k5⟩
          unfold Rc at k2 ⊢
          omega
        · rw [if_neg (fun q => c3 ((i_le (by omega)).mp q))]
          obtain ⟨hi', hhi⟩ : ∃ hi', hi' = if nI r1 < hi then nI r1 else hi := ⟨_, rfl⟩
          have hhi2 : hi'.toInt = min (r1 : Int) hi.toInt := by
            rw [hhi]
            by_cases q : (r1 : Int) < hi.toInt
            · rw [if_pos ((i_gt (by omega)).mpr q), nI_toInt (by omega)]; omega
            · rw [if_neg (fun z => q ((i_gt (by omega)).mp z))]; omega
          have g1 : HR (up S1 57 1 (nI (a 0 1 - 1))) 57 (upA a 0 1 (a 0 1 - 1)) := HR_sc k4 (by omega)
          obtain ⟨S2, r2, m1, m2, m3, m4, m5⟩ := ih (t + 1) (by omega) (up S1 57 1 (nI (a 0 1 - 1))) (upA a 0 1 (a 0 1 - 1)) lo hi' g1 (OkT_wide hw (by omega)) (by omega)
          have q1 : nI (a 0 1) - 1 = nI (a 0 1 - 1) := pk_sub (b := 1) (by omega)
          have hw2 : S2 57 1 = nI (a 0 1 - 1) := by rw [m4.2.1 1 (by omega), upA_same]
          have g2 : HR (up S2 57 1 (nI (a 0 1))) 57 a := by
            have := HR_sc m4 (j := 1) (v := a 0 1) (by omega)
            rw [upA_upA, upA_self] at this
            exact this
          refine ⟨up S2 57 1 (nI (a 0 1)), min r2 r1, ?_, ?_, by omega, g2, ((k5.tr (Fr.fs (p := 57) (fun q hq => up_row_ne (by omega)) (Or.inr rfl))).tr m5).tr (Fr.fs (p := 57) (fun q hq => up_row_ne (by omega)) (Or.inr rfl))⟩
          · simp only [Hp isH_57, oB_s, q1, O45, if_true, ← hhi, m1, cI_s, Hg isH_57, hw2]
            rw [nI_1, show a 0 1 - 1 + 1 = a 0 1 by omega, e43_2]
            by_cases q : r2 < r1
            · rw [if_pos ((nI_ltI (by omega) (by omega)).mpr q), Nat.min_eq_left (by omega)]
            · rw [if_neg (nI_nlt (by omega) (by omega)), Nat.min_eq_right (by omega)]
          · unfold Rc at k2 m2 ⊢
            omega
      · rw [if_neg c2, if_pos (show nI (a 0 1) ≤ 2 from nI_le (b := 2) (by omega) (by omega)), e43_2]
        exact ⟨S1, r1, rfl, k2, k3, k4, k5⟩
    · have hv : vT m (k + 1) t a = mxV (fun i => vT m k (t + 1) (pkA a i)) (fun i => decide (a 5 i < 20)) (vT m k (t + 1) a) (a 0 3) := by
        show (if t % 2 = 1 then _ else _) = _
        rw [if_neg c1]
      have loop : ∀ q i S best, i + q = a 0 3 → HR S 57 a → Rc lo.toInt hi.toInt best (mxV (fun i => vT m k (t + 1) (pkA a i)) (fun i => decide (a 5 i < 20)) (vT m k (t + 1) a) i) → best ≤ 6 → ∃ S' r, EX sc (d + k + 5 + 1) 43 4 [.ref 45, .int (nI n), .int (nI t), .int (nI m), .int lo, .int hi, .int (nI best), .int (nI i), Jk] [] (mk S) = some (some (.int (nI r)), mk S') ∧ Rc lo.toInt hi.toInt r (mxV (fun i => vT m k (t + 1) (pkA a i)) (fun i => decide (a 5 i < 20)) (vT m k (t + 1) a) (a 0 3)) ∧ r ≤ 6 ∧ HR S' 57 a ∧ FS S S' := by
        intro q
        induction q with
        | zero =>
          intro i S best hiq h hR hb
          refine ⟨S, best, ?_, ?_, hb, h, FS.rf _⟩
          · rw [e43_4]
            simp only [O45, oB_s, Hg isH_57, h.2.1 3 (by omega)]
            rw [if_pos (nI_le (by omega) (by omega)), e43_6]
          · rw [show i = a 0 3 by omega] at hR
            exact hR
        | succ q ihq =>
          intro i S best hiq h hR hb
          have hi3 : i < a 0 3 := by omega
          have hmono := mxV_mono (g := fun i => vT m k (t + 1) (pkA a i)) (p := fun i => decide (a 5 i < 20)) (b := vT m k (t + 1) a) (n := i) (q + 1)
          rw [hiq] at hmono
          rw [e43_4]
          simp only [O45, oB_s, Hg isH_57, h.2.1 3 (by omega)]
          rw [if_neg (nI_ge (by omega) (by omega))]
          by_cases c2 : hi.toInt ≤ (best : Int)
          · refine ⟨S, best, ?_, ?_, hb, h, FS.rf _⟩
            · rw [if_pos ((i_ge (by omega)).mpr c2), e43_6]
            · unfold Rc at hR ⊢
              omega
          · rw [if_neg (fun z => c2 ((i_ge (by omega)).mp z))]
            have hst : mxV (fun i => vT m k (t + 1) (pkA a i)) (fun i => decide (a 5 i < 20)) (vT m k (t + 1) a) (i + 1) = if decide (a 5 i < 20) = true then max (mxV (fun i => vT m k (t + 1) (pkA a i)) (fun i => decide (a 5 i < 20)) (vT m k (t + 1) a) i) (vT m k (t + 1) (pkA a i)) else mxV (fun i => vT m k (t + 1) (pkA a i)) (fun i => decide (a 5 i < 20)) (vT m k (t + 1) a) i := rfl
            simp only [if_true, isInShaft_eq h hB hi3, cI_s, ii_0]
            by_cases c3 : a 5 i < 20
            · rw [if_pos (decide_eq_true c3)] at hst
              have hp : S 62 i = nI (a 5 i) := pl_I h (show 1 ≤ 5 by omega) (show 5 ≤ 8 by omega) (show i < 6 by omega)
              have hd := dn_ok hB hi3 c3
              have h9 := hB.2.1
              obtain ⟨S1, k1, k2, k3⟩ := moveTo_spec h hB hi3 (q := dn (a 5 i)) (by omega) sc (d + k + 4)
              obtain ⟨lo', hlo⟩ : ∃ lo', lo' = if lo < nI best then nI best else lo := ⟨_, rfl⟩
              have hlo2 : lo'.toInt = max (best : Int) lo.toInt := by
                rw [hlo]
                by_cases z : lo.toInt < (best : Int)
                · rw [if_pos ((i_lt (by omega)).mpr z), nI_toInt (by omega)]; omega
                · rw [if_neg (fun w => z ((i_lt (by omega)).mp w))]; omega
              have hok2 : OkT m (pkA a i) := OkT_move hw hd
              obtain ⟨S2, r2, m1, m2, m3, m4, m5⟩ := ih (t + 1) (by omega) S1 (pkA a i) lo' hi k2 hok2 (by omega)
              obtain ⟨B2, hB2⟩ := hok2.wf
              obtain ⟨S3, n1, n2, n3⟩ := moveTo_spec m4 hB2 (i := i) (q := a 5 i) (by show i < (upA a 5 i _) 0 3; rw [upA_c (by omega)]; exact hi3) (by omega) sc (d + k + 4)
              have n2' : HR S3 57 a := by
                unfold pkA at n2
                rw [upA_upA, upA_self] at n2
                exact n2
              obtain ⟨S4, r4, p1, p2, p3, p4, p5⟩ := ihq (i + 1) S3 (max r2 best) (by omega) n2' (by
                rw [hst]
                unfold Rc at hR m2 ⊢
                omega) (by omega)
              refine ⟨S4, r4, ?_, p2, p3, p4, (((k3.fs (Or.inr rfl)).tr m5).tr (n3.fs (Or.inr rfl))).tr p5⟩
              rw [if_pos c3]
              simp only [O45, oB_s, Hg isH_57, fun S => HA isH_57 S (show i < 6 by omega), hp, below_eq S (show a 5 i < 1000 by omega), cI_s, if_true, k1, cV_s, nI_1, ← hlo, m1, n1]
              rw [e43_5, nI_1]
              have e : (if nI best < nI r2 then nI r2 else nI best) = nI (max r2 best) := by
                by_cases z : best < r2
                · rw [if_pos ((nI_ltI (by omega) (by omega)).mpr z), Nat.max_eq_left (by omega)]
                · rw [if_neg (nI_nlt (by omega) (by omega)), Nat.max_eq_right (by omega)]
              rw [e]
              exact p1
            · rw [if_neg (by simp [c3])] at hst
              rw [if_neg c3, e43_5, nI_1]
              exact ihq (i + 1) S best (by omega) h (by rw [hst]; exact hR) hb
      obtain ⟨S2, r2, m1, m2, m3, m4, m5⟩ := loop (a 0 3) 0 S1 r1 (by omega) k4 k2 k3
      refine ⟨S2, r2, ?_, by rw [hv]; exact m2, m3, m4, k5.tr m5⟩
      rw [if_neg (fun q => c1 (e3.mp q)), e43_3]
      exact m1
theorem turns_C {S : Nat → Nat → Int32} {a : Hs} {n m : Nat} (h : HR S 23 a) (hw : OkT m a) (hm : m ≤ 20) (hn : n ≤ 4) (sc : Nat × (Nat → Int32)) : ∃ S', EX sc 38 42 0 [.ref 45, .ref 23, .int (nI n), .int (nI m)] [] (mk S) = some (some (.int (nI (vT m n 0 a))), mk S') ∧ FS S S' := by
  obtain ⟨S1, k1, k2, k3⟩ := copyFrom_spec h isH_57 (Or.inr (by omega)) sc 36
  have e := play_spec hm n hn sc (32 - n) n 0 (by omega) S1 a (-1) 7 k2 hw (by decide)
  rw [show 32 - n + n + 5 = 37 by omega] at e
  obtain ⟨S2, r, m1, m2, m3, m4, m5⟩ := e
  have hv := vT_le (m := m) n 0 a
  have hr : r = vT m n 0 a := by
    unfold Rc at m2
    rw [show Int32.toInt (-1) = -1 from rfl, show Int32.toInt 7 = 7 from rfl] at m2
    omega
  rw [hr] at m1
  refine ⟨S2, ?_, (k3.fs (Or.inr rfl)).tr m5⟩
  rw [e42_0]
  simp only [O45, oB_s, Hg isH_57, if_true, k1, cV_s]
  rw [show (0 : Int32) = nI 0 from rfl]
  simp only [m1, cI_s]
