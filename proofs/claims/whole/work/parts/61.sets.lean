/-! sets -/
theorem nI_or (x y : Nat) : nI x ||| nI y = nI (x ||| y) := by
  apply Int32.toBitVec_inj.mp
  show BitVec.ofNat 32 x ||| BitVec.ofNat 32 y = BitVec.ofNat 32 (x ||| y)
  rw [BitVec.ofNat_or]
def stF (a : Hs) (v O : Nat) : Nat → Nat × Nat × Nat
  | 0 => (0, O, 0)
  | n + 1 => if n &&& (63 ^^^ O) = 0 ∧ sumN (thkB a n) (a 0 3) = v then ((stF a v O n).1 + 1, (stF a v O n).2.1 &&& n, (stF a v O n).2.2 ||| n) else stF a v O n
theorem stF_le (a : Hs) (v O : Nat) : ∀ n, (stF a v O n).1 ≤ n
  | 0 => by unfold stF; omega
  | n + 1 => by
    have := stF_le a v O n
    unfold stF
    split
    · show (stF a v O n).1 + 1 ≤ n + 1
      omega
    · omega
theorem sub_and : ∀ o, o < 64 → ∀ s, s < 64 → s &&& (63 ^^^ o) = 0 → o &&& s = s := by decide +kernel
theorem stF_0 {a : Hs} {v O : Nat} : ∀ n, (stF a v O n).1 = 0 → (stF a v O n).2.1 = O
  | 0, _ => rfl
  | n + 1, h => by
    unfold stF at h ⊢
    split
    · next c => rw [if_pos c] at h; exact absurd h (Nat.succ_ne_zero _)
    · next c => rw [if_neg c] at h; exact stF_0 n h
theorem thk_le {a : Hs} {B : Nat} (hw : WFg B a) (x : Nat) : sumN (thkB a x) (a 0 3) ≤ 600 := by
  have h := sumN_le (f := thkB a x) (B := 100) (a 0 3) (fun i hi => by
    have := (hw.2.2.2.2.2 i hi).2.2.1
    unfold thkB
    split <;> omega)
  have h6 := hw.1
  have : a 0 3 * 100 ≤ 6 * 100 := Nat.mul_le_mul_right 100 h6
  omega
theorem setsC_loop {S : Nat → Nat → Int32} {X : Xs} (hC : CR S X) (hX : XOk X) {v : Nat} (hv : v ≤ 54) (w : Int32) (sc : Nat × (Nat → Int32)) (d : Nat) : ∀ n s, s + n = outB X.nw + 1 → EX sc (d + 2) 127 1 [.ref 0, .int (nI v), .int w, .int (nI (outB X.nw)), .int (nI (stF X.nw v (outB X.nw) s).1), .int (nI (stF X.nw v (outB X.nw) s).2.1), .int (nI (stF X.nw v (outB X.nw) s).2.2), .int (nI s)] [] (mk S) = EX sc (d + 2) 127 3 [Jk, Jk, .int w, Jk, .int (nI (stF X.nw v (outB X.nw) (outB X.nw + 1)).1), .int (nI (stF X.nw v (outB X.nw) (outB X.nw + 1)).2.1), .int (nI (stF X.nw v (outB X.nw) (outB X.nw + 1)).2.2), Jk] [] (mk S) := by
  have h6 := hX.l6
  have hO := outB_lt h6
  intro n
  induction n with
  | zero =>
    intro s hs
    rw [e127_1, if_pos (nI_lt (by omega) (by omega)), show s = outB X.nw + 1 by omega]
  | succ n ih =>
    intro s hs
    have hn := ih (s + 1) (by omega)
    have hs64 : s < 64 := by omega
    have hlt : s &&& (63 ^^^ outB X.nw) < 64 := Nat.lt_of_le_of_lt Nat.and_le_left hs64
    have e0 : (nI (s &&& (63 ^^^ outB X.nw)) = 0) ↔ s &&& (63 ^^^ outB X.nw) = 0 := nI_eq (b := 0) (by omega) (by omega)
    have hth := thk_le hX.wf s
    have e1 : (nI (sumN (thkB X.nw s) (X.nw 0 3)) = nI v) ↔ sumN (thkB X.nw s) (X.nw 0 3) = v := nI_eq (by omega) (by omega)
    rw [e127_1, if_neg (nI_nlt (by omega) (by omega)), andn_I s hs64 _ hO]
    simp only [O0, oB_s, Hg isH_23, if_true, thickTogether_eq hC.now h6 hs64, cI_s, e127_2, nI_1, nI_and, nI_or]
    unfold stF at hn
    by_cases c1 : s &&& (63 ^^^ outB X.nw) = 0
    · rw [if_pos (e0.mpr c1)]
      by_cases c2 : sumN (thkB X.nw s) (X.nw 0 3) = v
      · rw [if_pos (e1.mpr c2)]
        rw [if_pos (show s &&& (63 ^^^ outB X.nw) = 0 ∧ sumN (thkB X.nw s) (X.nw 0 3) = v from ⟨c1, c2⟩)] at hn
        exact hn
      · rw [if_neg (fun q => c2 (e1.mp q))]
        rw [if_neg (show ¬ (s &&& (63 ^^^ outB X.nw) = 0 ∧ sumN (thkB X.nw s) (X.nw 0 3) = v) from fun q => c2 q.2)] at hn
        exact hn
    · rw [if_neg (fun q => c1 (e0.mp q))]
      rw [if_neg (show ¬ (s &&& (63 ^^^ outB X.nw) = 0 ∧ sumN (thkB X.nw s) (X.nw 0 3) = v) from fun q => c1 q.1)] at hn
      exact hn
theorem has_I : ∀ b, b < 64 → ∀ i, i < 6 → (((nI b >>> (nI i &&& 31)) &&& 1 = 1) ↔ b.testBit i = true) := by decide +kernel
theorem has_eq (S : Nat → Nat → Int32) {b i : Nat} (hb : b < 64) (hi : i < 6) (sc : Nat × (Nat → Int32)) (d : Nat) : EX sc (d + 1) 135 0 [.int (nI b), .int (nI i)] [] (mk S) = some (some (.int (if b.testBit i = true then 1 else 0)), mk S) := by
  rw [e135_0, e135_1]
  simp only [or_true, true_or, if_true, has_I b hb i hi]
  by_cases c : b.testBit i = true
  · rw [if_pos c, if_pos c]
  · rw [if_neg c, if_neg c]
theorem setsM_sum {S : Nat → Nat → Int32} {X : Xs} (h : MP S X) (hX : XOk X) {s : Nat} (hs : s < 64) (a1 a2 a3 a4 a5 a6 : Int32) (sc : Nat × (Nat → Int32)) (d : Nat) : EX sc (d + 2) 195 5 [.ref 359, .int a1, .int a2, .int a3, .int a4, .int a5, .int a6, .int (nI s), .int 0, .int 0] [] (mk S) = EX sc (d + 2) 195 8 [.ref 359, .int a1, .int a2, .int a3, .int a4, .int a5, .int a6, .int (nI s), .int (nI (sumN (thkB X.nw s) (X.nw 0 3))), Jk] [] (mk S) := by
  have h6 := hX.l6
  have loop : ∀ n i, i + n = X.nw 0 3 → EX sc (d + 2) 195 5 [.ref 359, .int a1, .int a2, .int a3, .int a4, .int a5, .int a6, .int (nI s), .int (nI (sumN (thkB X.nw s) i)), .int (nI i)] [] (mk S) = EX sc (d + 2) 195 8 [.ref 359, .int a1, .int a2, .int a3, .int a4, .int a5, .int a6, .int (nI s), .int (nI (sumN (thkB X.nw s) (X.nw 0 3))), Jk] [] (mk S) := by
    intro n
    induction n with
    | zero =>
      intro i hi
      rw [e195_5]
      simp only [O359, oB_s, h.stat.2.1]
      rw [if_pos (nI_le (by omega) (by omega)), show i = X.nw 0 3 by omega]
    | succ n ih =>
      intro i hi
      have hn := ih (i + 1) (by omega)
      have f := (mfacts h hX (show i < X.nw 0 3 by omega)).2.1
      rw [e195_5]
      simp only [O359, oB_s, h.stat.2.1, has_eq S hs (show i < 6 by omega), cI_s, ii_0, A364_i (show i < 6 by omega), f, e195_6, e195_7, show (0 : Int32) = nI 0 from rfl, nI_add, nI_1]
      rw [if_neg (nI_ge (by omega) (by omega))]
      have hs1 : sumN (thkB X.nw s) (i + 1) = sumN (thkB X.nw s) i + (if s.testBit i = true then X.nw 3 i else 0) := rfl
      rw [hs1] at hn
      by_cases c : s.testBit i = true
      · rw [if_pos c]
        rw [if_pos c] at hn
        exact hn
      · rw [if_neg c]
        rw [if_neg c] at hn
        exact hn
  exact loop (X.nw 0 3) 0 (by omega)
def eachM (p : Nat × Nat × Nat) : Int32 := if p.1 = 0 then -1 else nI p.2.1
theorem m1_and (s : Nat) : (-1 : Int32) &&& nI s = nI s := by
  apply Int32.toBitVec_inj.mp
  show (-1 : Int32).toBitVec &&& BitVec.ofNat 32 s = BitVec.ofNat 32 s
  rw [show (-1 : Int32).toBitVec = BitVec.allOnes 32 from by decide, BitVec.allOnes_and]
theorem setsM_loop {S : Nat → Nat → Int32} {X : Xs} (h : MP S X) (hX : XOk X) {v : Nat} (hv : v ≤ 54) (w : Int32) (sc : Nat × (Nat → Int32)) (d : Nat) : ∀ n s, s + n = outB X.nw + 1 → EX sc (d + 2) 195 4 [.ref 359, .int (nI v), .int w, .int (nI (outB X.nw)), .int (nI (stF X.nw v (outB X.nw) s).1), .int (eachM (stF X.nw v (outB X.nw) s)), .int (nI (stF X.nw v (outB X.nw) s).2.2), .int (nI s), Jk, Jk] [] (mk S) = EX sc (d + 2) 195 10 [Jk, Jk, .int w, Jk, .int (nI (stF X.nw v (outB X.nw) (outB X.nw + 1)).1), .int (eachM (stF X.nw v (outB X.nw) (outB X.nw + 1))), .int (nI (stF X.nw v (outB X.nw) (outB X.nw + 1)).2.2), Jk, Jk, Jk] [] (mk S) := by
  have h6 := hX.l6
  have hO := outB_lt h6
  intro n
  induction n with
  | zero =>
    intro s hs
    rw [e195_4, if_pos (nI_lt (by omega) (by omega)), show s = outB X.nw + 1 by omega]
  | succ n ih =>
    intro s hs
    have hn := ih (s + 1) (by omega)
    have hs64 : s < 64 := by omega
    have hlt : s &&& (63 ^^^ outB X.nw) < 64 := Nat.lt_of_le_of_lt Nat.and_le_left hs64
    have e0 : (nI (s &&& (63 ^^^ outB X.nw)) = 0) ↔ s &&& (63 ^^^ outB X.nw) = 0 := nI_eq (b := 0) (by omega) (by omega)
    have hth := thk_le hX.wf s
    have e1 : (nI (sumN (thkB X.nw s) (X.nw 0 3)) = nI v) ↔ sumN (thkB X.nw s) (X.nw 0 3) = v := nI_eq (by omega) (by omega)
    rw [e195_4, if_neg (nI_nlt (by omega) (by omega)), setsM_sum h hX hs64, e195_8, andn_I s hs64 _ hO, e195_9, e195_9, nI_1, nI_1, nI_or]
    unfold stF at hn
    by_cases c1 : s &&& (63 ^^^ outB X.nw) = 0
    · rw [if_pos (e0.mpr c1)]
      by_cases c2 : sumN (thkB X.nw s) (X.nw 0 3) = v
      · rw [if_pos (e1.mpr c2)]
        rw [if_pos (show s &&& (63 ^^^ outB X.nw) = 0 ∧ sumN (thkB X.nw s) (X.nw 0 3) = v from ⟨c1, c2⟩)] at hn
        have he : eachM (stF X.nw v (outB X.nw) s) &&& nI s = eachM ((stF X.nw v (outB X.nw) s).1 + 1, (stF X.nw v (outB X.nw) s).2.1 &&& s, (stF X.nw v (outB X.nw) s).2.2 ||| s) := by
          unfold eachM
          rw [if_neg (show ¬ ((stF X.nw v (outB X.nw) s).1 + 1, (stF X.nw v (outB X.nw) s).2.1 &&& s, (stF X.nw v (outB X.nw) s).2.2 ||| s).1 = 0 from Nat.succ_ne_zero _)]
          show _ = nI ((stF X.nw v (outB X.nw) s).2.1 &&& s)
          by_cases z : (stF X.nw v (outB X.nw) s).1 = 0
          · rw [if_pos z, m1_and, stF_0 s z, sub_and _ hO _ hs64 c1]
          · rw [if_neg z, nI_and]
        rw [he]
        exact hn
      · rw [if_neg (fun q => c2 (e1.mp q))]
        rw [if_neg (show ¬ (s &&& (63 ^^^ outB X.nw) = 0 ∧ sumN (thkB X.nw s) (X.nw 0 3) = v) from fun q => c2 q.2)] at hn
        exact hn
    · rw [if_neg (fun q => c1 (e0.mp q))]
      rw [if_neg (show ¬ (s &&& (63 ^^^ outB X.nw) = 0 ∧ sumN (thkB X.nw s) (X.nw 0 3) = v) from fun q => c1 q.1)] at hn
      exact hn
theorem op_sets (sc : Nat × (Nat → Int32)) (x y : Int32) : St2 sc 104 [.ref 0, .int x, .int y] 195 [.ref 359, .int x, .int y, Jk, Jk, Jk, Jk, Jk, Jk, Jk] := by
  rintro S ⟨X, hX, hC, hM⟩
  have h6 := hX.l6
  have hw := hX.wf
  have hinx := fun S => inL sc x 0 54 0 54 S 37 rfl rfl
  have hiny := fun S => inL sc y 0 2 0 2 S 37 rfl rfl
  by_cases c0 : X.nw 0 3 = 0
  · refine ⟨-1000002, S, S, ?_, ?_, X, hX, hC, hM⟩
    · rw [e104_0]
      simp only [O0, if_true, hasNoC hC hX, cI_s, ii_0]
      rw [if_pos c0]
    · rw [e195_0]
      simp only [O359, oB_s]
      rw [if_pos ((hasM hM).mpr c0)]
  · by_cases c1 : 0 ≤ x ∧ x ≤ 54
    · by_cases c2 : 0 ≤ y ∧ y ≤ 2
      · obtain ⟨v, hv, rfl⟩ := toN (N := 54) (by omega) c1
        obtain ⟨w, hw1, rfl⟩ := toN (N := 2) (by omega) c2
        obtain ⟨p, hp⟩ : ∃ p, p = stF X.nw v (outB X.nw) (outB X.nw + 1) := ⟨_, rfl⟩
        have hO := outB_lt h6
        have hle := stF_le X.nw v (outB X.nw) (outB X.nw + 1)
        rw [← hp] at hle
        have ez : (nI p.1 = 0) ↔ p.1 = 0 := nI_eq (b := 0) (by omega) (by omega)
        refine stq (r := if w = 0 then nI p.1 else if w = 2 then nI p.2.2 else if p.1 = 0 then 0 else nI p.2.1) hX hC hM ⟨S, ?_, FS.rf _⟩ (fun T hM1 => ?_)
        · have hl := setsC_loop hC hX hv (nI w) sc 36 (outB X.nw + 1) 0 (by omega)
          rw [e104_0]
          simp only [O0, if_true, hasNoC hC hX, cI_s, ii_0]
          rw [if_neg c0, e104_1, within_eq, cI_s, ii_0, if_pos c1, within_eq, cI_s, ii_0, if_pos c2, e104_3]
          simp only [O0, if_true, e127_0, oB_s, Hg isH_23, lettersOutside_eq hC.now h6, cI_s, show (0 : Int32) = nI 0 from rfl]
          have hl' : EX sc 38 127 1 [.ref 0, .int (nI v), .int (nI w), .int (nI (outB X.nw)), .int (nI 0), .int (nI (outB X.nw)), .int (nI 0), .int (nI 0)] [] (mk S) = EX sc 38 127 3 [Jk, Jk, .int (nI w), Jk, .int (nI p.1), .int (nI p.2.1), .int (nI p.2.2), Jk] [] (mk S) := by
            rw [hp]
            exact hl
          rw [hl', e127_3, e127_4, e127_5, e127_6]
          match w, hw1 with
          | 0, _ => rw [if_pos (show nI 0 = 0 from rfl), cI_s]; rfl
          | 1, _ =>
            rw [if_neg (by decide), if_neg (by decide)]
            show cI (if nI p.1 = 0 then _ else _) _ = some (some (Value.int (if p.1 = 0 then 0 else nI p.2.1)), mk S)
            by_cases z : p.1 = 0
            · rw [if_pos (ez.mpr z), if_pos z, cI_s]
            · rw [if_neg (fun q => z (ez.mp q)), if_neg z, cI_s]
          | 2, _ => rw [if_neg (by decide), if_pos (by decide), cI_s]; rfl
        · obtain ⟨T1, a1, a2, a3⟩ := aside_spec hM1.stat hM1.now h6 sc 37
          have hM2 := hM1.fn hX a3.fm.fn
          have hl := setsM_loop hM2 hX hv (nI w) sc 37 (outB X.nw + 1) 0 (by omega)
          refine ⟨T1, ?_, a3.fm.fn⟩
          rw [e195_0]
          simp only [O359, oB_s]
          rw [if_neg (fun q => c0 ((hasM hM1).mp q)), e195_1, hinx, cI_s, ii_0, if_pos c1, hiny, cI_s, ii_0, if_pos c2, e195_3]
          simp only [O359, if_true, a1, cV_s, everyone_eq a2.1 h6, boxed_spec a2 hw, cI_s, andn_I _ (two63 h6) _ (ly_lt h6 21), show (0 : Int32) = nI 0 from rfl]
          have hl' : EX sc 39 195 4 [.ref 359, .int (nI v), .int (nI w), .int (nI ((2 ^ X.nw 0 3 - 1) &&& (63 ^^^ ly X.nw 21))), .int (nI 0), .int (-1), .int (nI 0), .int (nI 0), Jk, Jk] [] (mk T1) = EX sc 39 195 10 [Jk, Jk, .int (nI w), Jk, .int (nI p.1), .int (eachM p), .int (nI p.2.2), Jk, Jk, Jk] [] (mk T1) := by
            rw [hp]
            exact hl
          rw [hl', e195_10, e195_11, e195_12, e195_13]
          match w, hw1 with
          | 0, _ => rw [if_pos rfl]; rfl
          | 1, _ =>
            rw [if_neg (by decide), if_neg (by decide)]
            show (if nI p.1 = 0 then _ else _) = some (some (Value.int (if p.1 = 0 then 0 else nI p.2.1)), mk T1)
            unfold eachM
            by_cases z : p.1 = 0
            · rw [if_pos (ez.mpr z), if_pos z]
            · rw [if_neg (fun q => z (ez.mp q)), if_neg z, if_neg z]
          | 2, _ => rw [if_neg (by decide), if_pos (by decide)]; rfl
      · refine ⟨-1000001, S, S, ?_, ?_, X, hX, hC, hM⟩
        · rw [e104_0]
          simp only [O0, if_true, hasNoC hC hX, cI_s, ii_0]
          rw [if_neg c0, e104_1, within_eq, cI_s, ii_0, if_pos c1, within_eq, cI_s, ii_0, if_neg c2, e104_2]
        · rw [e195_0]
          simp only [O359, oB_s]
          rw [if_neg (fun q => c0 ((hasM hM).mp q)), e195_1, hinx, cI_s, ii_0, if_pos c1, hiny, cI_s, ii_0, if_neg c2, e195_2]
    · refine ⟨-1000001, S, S, ?_, ?_, X, hX, hC, hM⟩
      · rw [e104_0]
        simp only [O0, if_true, hasNoC hC hX, cI_s, ii_0]
        rw [if_neg c0, e104_1, within_eq, cI_s, ii_0, if_neg c1, e104_2]
      · rw [e195_0]
        simp only [O359, oB_s]
        rw [if_neg (fun q => c0 ((hasM hM).mp q)), e195_1, hinx, cI_s, ii_0, if_neg c1, e195_2]
