/-! what is asked of the house that is -/
theorem stq {sc : Nat × (Nat → Int32)} {cm mm : Nat} {cl ml : List Value} {S : Nat → Nat → Int32} {X : Xs} {r : Int32} (hX : XOk X) (hC : CR S X) (hM : MP S X) (c : ∃ S1, EX sc 39 cm 0 cl [] (mk S) = some (some (.int r), mk S1) ∧ FS S S1) (m : ∀ S1, MP S1 X → ∃ S2, EX sc 39 mm 0 ml [] (mk S1) = some (some (.int r), mk S2) ∧ FN S1 S2) : ∃ r S1 S2, EX sc 39 cm 0 cl [] (mk S) = some (some (.int r), mk S1) ∧ EX sc 39 mm 0 ml [] (mk S1) = some (some (.int r), mk S2) ∧ Inv S2 := by
  obtain ⟨S1, c1, c2⟩ := c
  exact stp hX hX hM ⟨S1, c1, hC.fs c2, c2.c⟩ (fun S1 h1 => by
    obtain ⟨S2, m1, m2⟩ := m S1 h1
    exact ⟨S2, m1, h1.fn hX m2, m2.m⟩)
theorem nI_and (x y : Nat) : nI x &&& nI y = nI (x &&& y) := by
  apply Int32.toBitVec_inj.mp
  show BitVec.ofNat 32 x &&& BitVec.ofNat 32 y = BitVec.ofNat 32 (x &&& y)
  rw [BitVec.ofNat_and]
theorem bitN_clr : ∀ n x, x < 2 ^ n → x ≠ 0 → bitN n (x &&& (x - 1)) + 1 = bitN n x
  | 0, x, h, h0 => by omega
  | n + 1, x, h, h0 => by
    unfold bitN
    rw [Nat.and_div_two]
    by_cases c : x % 2 = 1
    · have e1 : (x - 1) / 2 = x / 2 := by omega
      have e2 : (x &&& (x - 1)) % 2 = 0 := by
        have := Nat.and_mod_two_eq_one (a := x) (b := x - 1)
        omega
      rw [e1, e2, Nat.and_self]
      omega
    · have e1 : (x - 1) / 2 = x / 2 - 1 := by omega
      have e2 : (x &&& (x - 1)) % 2 = 0 := by
        have := Nat.and_mod_two_eq_one (a := x) (b := x - 1)
        omega
      have ih := bitN_clr n (x / 2) (by rw [Nat.pow_succ] at h; omega) (by omega)
      rw [e1, e2, ← ih]
      omega
theorem ones_spec (S : Nat → Nat → Int32) {n : Nat} (hn : n ≤ 30) (sc : Nat × (Nat → Int32)) (d : Nat) : ∀ (m x k : Nat), bitN n x = m → x < 2 ^ n → EX sc (d + 1) 136 1 [Jk, .int (nI k), .int (nI x)] [] (mk S) = some (some (.int (nI (k + m))), mk S) := by
  have hp : 2 ^ n ≤ 2 ^ 30 := Nat.pow_le_pow_right (by omega) hn
  intro m
  induction m with
  | zero =>
    intro x k hm hx
    have h0 : x = 0 := by
      by_cases c : x = 0
      · exact c
      · have := bitN_clr n x hx c
        omega
    rw [e136_1, if_pos (by rw [h0]; rfl), e136_2]
    rfl
  | succ m ih =>
    intro x k hm hx
    have h0 : x ≠ 0 := by
      intro c
      rw [c] at hm
      have z : ∀ n, bitN n 0 = 0 := fun n => by
        induction n with
        | zero => rfl
        | succ n ih => unfold bitN; rw [Nat.zero_div, ih]
      rw [z] at hm
      omega
    obtain ⟨y, hy⟩ : ∃ y, x = y + 1 := ⟨x - 1, by omega⟩
    have e1 : nI x - 1 = nI (x - 1) := by rw [hy, nI_pred]; rfl
    have := bitN_clr n x hx h0
    rw [e136_1, if_neg (nI_ne0 (by omega) (by omega)), e1, nI_and, nI_1, ih (x &&& (x - 1)) (k + 1) (by omega) (Nat.lt_of_le_of_lt Nat.and_le_left hx), show k + 1 + m = k + (m + 1) by omega]
theorem ones_eq (S : Nat → Nat → Int32) {n x : Nat} (hn : n ≤ 30) (hx : x < 2 ^ n) (sc : Nat × (Nat → Int32)) (d : Nat) : EX sc (d + 1) 136 0 [.int (nI x), Jk, Jk] [] (mk S) = some (some (.int (nI (bitN n x))), mk S) := by
  rw [e136_0, show (0 : Int32) = nI 0 from rfl, ones_spec S hn sc d _ x 0 rfl hx, Nat.zero_add]
theorem XOk.l64 {X : Xs} (h : XOk X) (q : Nat) : ly X.nw q < 2 ^ 6 := ly_lt h.l6 q
theorem op_stand (sc : Nat × (Nat → Int32)) (x : Int32) : St2 sc 95 [.ref 0, .int x] 184 [.ref 359, .int x] := by
  rintro S ⟨X, hX, hC, hM⟩
  have h6 := hX.l6
  have hw := hX.wf
  by_cases c0 : X.nw 0 3 = 0
  · refine ⟨-1000002, S, S, ?_, ?_, X, hX, hC, hM⟩
    · rw [e95_0]
      simp only [O0, if_true, hasNoC hC hX, cI_s, ii_0]
      rw [if_pos c0]
    · rw [e184_0]
      simp only [O359, oB_s]
      rw [if_pos ((hasM hM).mpr c0)]
  · have cc : ∀ r : Int32, EX sc 39 95 1 [.ref 0, .int x] [] (mk S) = some (some (.int r), mk S) → (∀ T, MP T X → MS T X.nw → (if Int32.toInt x = (0 : Nat) then EX sc 39 184 2 [.ref 359, Jk] [] (mk T) else if Int32.toInt x = (1 : Nat) then EX sc 39 184 3 [.ref 359, Jk] [] (mk T) else if Int32.toInt x = (2 : Nat) then EX sc 39 184 4 [.ref 359, Jk] [] (mk T) else if Int32.toInt x = (3 : Nat) then EX sc 39 184 5 [.ref 359, Jk] [] (mk T) else if Int32.toInt x = (4 : Nat) then EX sc 39 184 6 [.ref 359, Jk] [] (mk T) else EX sc 39 184 7 [Jk, Jk] [] (mk T)) = some (some (.int r), mk T)) → ∃ r S1 S2, EX sc 39 95 0 [.ref 0, .int x] [] (mk S) = some (some (.int r), mk S1) ∧ EX sc 39 184 0 [.ref 359, .int x] [] (mk S1) = some (some (.int r), mk S2) ∧ Inv S2 := by
      intro r h1 h2
      refine stq (r := r) hX hC hM ⟨S, ?_, FS.rf _⟩ (fun T hM1 => ?_)
      · rw [e95_0]
        simp only [O0, if_true, hasNoC hC hX, cI_s, ii_0]
        rw [if_neg c0]
        exact h1
      · obtain ⟨T1, a1, a2, a3⟩ := aside_spec hM1.stat hM1.now h6 sc 37
        refine ⟨T1, ?_, a3.fm.fn⟩
        rw [e184_0]
        simp only [O359, oB_s]
        rw [if_neg (fun q => c0 ((hasM hM1).mp q)), e184_1]
        simp only [O359, if_true, a1, cV_s]
        exact h2 T1 (hM1.fn hX a3.fm.fn) a2
    by_cases d0 : Int32.toInt x = (0 : Nat)
    · refine cc (nI (X.nw 0 0)) ?_ (fun T hM1 ms => ?_)
      · rw [e95_1, if_pos d0, e95_2]
        simp only [O0, oB_s, Hg isH_23, hC.now.2.1 0 (by omega)]
      · rw [if_pos d0, e184_2]
        simp only [O359, oB_s, ms.1.1]
    · by_cases d1 : Int32.toInt x = (1 : Nat)
      · refine cc (nI (X.nw 0 1)) ?_ (fun T hM1 ms => ?_)
        · rw [e95_1, if_neg d0, if_pos d1, e95_3]
          simp only [O0, oB_s, Hg isH_23, hC.now.2.1 1 (by omega)]
        · have h30 : T 365 30 = nI (X.nw 0 1) := hM1.now.2.1
          rw [if_neg d0, if_pos d1, e184_3]
          simp only [O359, oB_s, show (30 : Int32) = nI 30 from rfl, A365_at (S := T) (show 30 < 32 by omega), h30]
      · by_cases d2 : Int32.toInt x = (2 : Nat)
        · refine cc (nI (ly X.nw 20)) ?_ (fun T hM1 ms => ?_)
          · rw [e95_1, if_neg d0, if_neg d1, if_pos d2, e95_4]
            simp only [O0, oB_s, Hg isH_23, show (20 : Int32) = nI 20 from rfl, fun S => HA2 isH_23 S (show 20 < 22 by omega), hC.now.2.2.2.1 20 (by omega)]
          · rw [if_neg d0, if_neg d1, if_pos d2, e184_4]
            simp only [O359, if_true, waiting_spec ms hw hX.nv, cI_s]
        · by_cases d3 : Int32.toInt x = (3 : Nat)
          · refine cc (nI (shfB X.nw)) ?_ (fun T hM1 ms => ?_)
            · rw [e95_1, if_neg d0, if_neg d1, if_neg d2, if_pos d3, e95_5]
              simp only [O0, oB_s, Hg isH_23, if_true, lettersInShaft_eq hC.now h6 sc 35, cI_s]
            · have ea : ((2 ^ X.nw 0 3 - 1) &&& (63 ^^^ ly X.nw 20)) < 64 := Nat.lt_of_le_of_lt Nat.and_le_left (two63 h6)
              rw [if_neg d0, if_neg d1, if_neg d2, if_pos d3, e184_5]
              simp only [O359, if_true, everyone_eq ms.1 h6, waiting_spec ms hw hX.nv, boxed_spec ms hw, cI_s, andn_I _ (two63 h6) _ (ly_lt h6 20), andn_I _ ea _ (ly_lt h6 21)]
              unfold shfB outB
              rw [Nat.and_assoc, Nat.and_comm (63 ^^^ ly X.nw 20), ← Nat.and_assoc]
          · by_cases d4 : Int32.toInt x = (4 : Nat)
            · refine cc (nI (ly X.nw 21)) ?_ (fun T hM1 ms => ?_)
              · rw [e95_1, if_neg d0, if_neg d1, if_neg d2, if_neg d3, if_pos d4, e95_6]
                simp only [O0, oB_s, Hg isH_23, show (21 : Int32) = nI 21 from rfl, fun S => HA2 isH_23 S (show 21 < 22 by omega), hC.now.2.2.2.1 21 (by omega)]
              · rw [if_neg d0, if_neg d1, if_neg d2, if_neg d3, if_pos d4, e184_6]
                simp only [O359, if_true, boxed_spec ms hw, cI_s]
            · refine cc (-1000001) ?_ (fun T hM1 ms => ?_)
              · rw [e95_1, if_neg d0, if_neg d1, if_neg d2, if_neg d3, if_neg d4, e95_7]
              · rw [if_neg d0, if_neg d1, if_neg d2, if_neg d3, if_neg d4, e184_7]
/-- how many rows there are -/
def cntR (X : Xs) : Nat → Nat
  | 0 => 0
  | n + 1 => cntR X n + if X.sz n = -1 then 0 else 1
theorem rowsThere_eq {S : Nat → Nat → Int32} {X : Xs} (hX : XOk X) (hC : CR S X) (sc : Nat × (Nat → Int32)) (d : Nat) : EX sc (d + 2) 75 0 [.ref 1, Jk, Jk] [] (mk S) = some (some (.int (nI (cntR X 8))), mk S) := by
  have loop : ∀ n i, i + n = 8 → EX sc (d + 2) 75 1 [.ref 1, .int (nI (cntR X i)), .int (nI i)] [] (mk S) = some (some (.int (nI (cntR X 8))), mk S) := by
    intro n
    induction n with
    | zero =>
      intro i hi
      rw [e75_1, e75_3, if_pos (show (8 : Int32) ≤ nI i from nI_le (a := 8) (by omega) (by omega)), show i = 8 by omega]
    | succ n ih =>
      intro i hi
      have hn := ih (i + 1) (by omega)
      unfold cntR at hn
      rw [e75_1, if_neg (show ¬ (8 : Int32) ≤ nI i from nI_ge (b := 8) (by omega) (by omega))]
      simp only [O1, if_true, isMissing_eq hX hC (show i < 8 by omega), cI_s, ii_0, e75_2, nI_1]
      by_cases c : X.sz i = -1
      · rw [if_pos c]
        rw [if_pos c, Nat.add_zero] at hn
        exact hn
      · rw [if_neg c]
        rw [if_neg c] at hn
        exact hn
  rw [e75_0]
  exact loop 8 0 (by omega)
theorem rowsM_eq {S : Nat → Nat → Int32} {X : Xs} (hX : XOk X) (hM : MP S X) (sc : Nat × (Nat → Int32)) (d : Nat) : EX sc (d + 1) 225 1 [.ref 359, Jk, Jk, Jk] [] (mk S) = some (some (.int (nI (cntR X 8))), mk S) := by
  have loop : ∀ n i, i + n = 8 → EX sc (d + 1) 225 2 [.ref 359, Jk, .int (nI (cntR X i)), .int (nI i)] [] (mk S) = some (some (.int (nI (cntR X 8))), mk S) := by
    intro n
    induction n with
    | zero =>
      intro i hi
      rw [e225_2, e225_5, if_pos (show (8 : Int32) ≤ nI i from nI_le (a := 8) (by omega) (by omega)), show i = 8 by omega]
    | succ n ih =>
      intro i hi
      have hn := ih (i + 1) (by omega)
      unfold cntR at hn
      rw [e225_2, if_neg (show ¬ (8 : Int32) ≤ nI i from nI_ge (b := 8) (by omega) (by omega))]
      simp only [O359, oB_s, aI_at (S := S) A362 (show i < 8 by omega) (by omega), (hM.shelf i (by omega)).1, e225_3, e225_4, show (0 : Int32) = nI 0 from rfl, show (1 : Int32) = nI 1 from rfl, nI_add]
      by_cases c : X.sz i = -1
      · rw [if_neg (show ¬ nI 0 ≤ X.sz i from fun q => (sz_neg hX (by omega)).mp q c)]
        rw [if_pos c] at hn
        exact hn
      · rw [if_pos (show nI 0 ≤ X.sz i from (sz_neg hX (by omega)).mpr c)]
        rw [if_neg c] at hn
        exact hn
  rw [e225_1]
  exact loop 8 0 (by omega)
theorem op_count (sc : Nat × (Nat → Int32)) (x : Int32) : St2 sc 116 [.ref 0, .int x] 225 [.ref 359, .int x, Jk, Jk] := by
  rintro S ⟨X, hX, hC, hM⟩
  have h6 := hX.l6
  have hw := hX.wf
  have cc : ∀ r : Int32, EX sc 39 116 0 [.ref 0, .int x] [] (mk S) = some (some (.int r), mk S) → (∀ T, MP T X → MS T X.nw → (if Int32.toInt x = (0 : Nat) then EX sc 39 225 1 [.ref 359, Jk, Jk, Jk] [] (mk T) else if Int32.toInt x = (1 : Nat) then EX sc 39 225 6 [.ref 359, Jk, Jk, Jk] [] (mk T) else if Int32.toInt x = (2 : Nat) then EX sc 39 225 7 [.ref 359, Jk, Jk, Jk] [] (mk T) else if Int32.toInt x = (3 : Nat) then EX sc 39 225 8 [.ref 359, Jk, Jk, Jk] [] (mk T) else if Int32.toInt x = (4 : Nat) then EX sc 39 225 9 [.ref 359, Jk, Jk, Jk] [] (mk T) else if Int32.toInt x = (5 : Nat) then EX sc 39 225 10 [.ref 359, Jk, Jk, Jk] [] (mk T) else if Int32.toInt x = (6 : Nat) then EX sc 39 225 11 [.ref 359, Jk, Jk, Jk] [] (mk T) else if Int32.toInt x = (7 : Nat) then EX sc 39 225 12 [.ref 359, Jk, Jk, Jk] [] (mk T) else EX sc 39 225 13 [Jk, Jk, Jk, Jk] [] (mk T)) = some (some (.int r), mk T)) → ∃ r S1 S2, EX sc 39 116 0 [.ref 0, .int x] [] (mk S) = some (some (.int r), mk S1) ∧ EX sc 39 225 0 [.ref 359, .int x, Jk, Jk] [] (mk S1) = some (some (.int r), mk S2) ∧ Inv S2 := by
    intro r h1 h2
    refine stq (r := r) hX hC hM ⟨S, h1, FS.rf _⟩ (fun T hM1 => ?_)
    obtain ⟨T1, a1, a2, a3⟩ := aside_spec hM1.stat hM1.now h6 sc 37
    refine ⟨T1, ?_, a3.fm.fn⟩
    rw [e225_0]
    simp only [O359, if_true, a1, cV_s]
    exact h2 T1 (hM1.fn hX a3.fm.fn) a2
  by_cases d0 : Int32.toInt x = (0 : Nat)
  · refine cc (nI (cntR X 8)) ?_ (fun T hM1 ms => ?_)
    · rw [e116_0, if_pos d0, e116_1]
      simp only [O0, O1, oB_s, if_true, rowsThere_eq hX hC sc 36, cI_s]
    · rw [if_pos d0]
      exact rowsM_eq hX hM1 sc 38
  · by_cases d1 : Int32.toInt x = (1 : Nat)
    · refine cc (nI (X.nw 0 3)) ?_ (fun T hM1 ms => ?_)
      · rw [e116_0, if_neg d0, if_pos d1, e116_2]
        simp only [O0, oB_s, Hg isH_23, hC.now.2.1 3 (by omega)]
      · rw [if_neg d0, if_pos d1, e225_6]
        simp only [O359, oB_s, ms.1.2.1]
    · by_cases d2 : Int32.toInt x = (2 : Nat)
      · refine cc (nI (X.nw 0 0)) ?_ (fun T hM1 ms => ?_)
        · rw [e116_0, if_neg d0, if_neg d1, if_pos d2, e116_3]
          simp only [O0, oB_s, Hg isH_23, hC.now.2.1 0 (by omega)]
        · rw [if_neg d0, if_neg d1, if_pos d2, e225_7]
          simp only [O359, oB_s, ms.1.1]
      · by_cases d3 : Int32.toInt x = (3 : Nat)
        · refine cc (nI (X.nw 0 2)) ?_ (fun T hM1 ms => ?_)
          · rw [e116_0, if_neg d0, if_neg d1, if_neg d2, if_pos d3, e116_4]
            simp only [O0, oB_s, Hg isH_23, hC.now.2.1 2 (by omega)]
          · rw [if_neg d0, if_neg d1, if_neg d2, if_pos d3, e225_8]
            have h31 : T 365 31 = nI (X.nw 0 2) := hM1.now.2.2
            simp only [O359, oB_s, show (31 : Int32) = nI 31 from rfl, A365_at (S := T) (show 31 < 32 by omega), h31]
        · by_cases d4 : Int32.toInt x = (4 : Nat)
          · refine cc (nI (bitN 6 (ly X.nw 21))) ?_ (fun T hM1 ms => ?_)
            · rw [e116_0, if_neg d0, if_neg d1, if_neg d2, if_neg d3, if_pos d4, e116_5]
              simp only [O0, oB_s, Hg isH_23, if_true, lettersBoxed_eq hC.now h6, cI_s]
            · rw [if_neg d0, if_neg d1, if_neg d2, if_neg d3, if_pos d4, e225_9]
              simp only [O359, if_true, boxed_spec ms hw, cI_s, ones_eq T (show 6 ≤ 30 by omega) (hX.l64 21) sc 37]
          · by_cases d5 : Int32.toInt x = (5 : Nat)
            · refine cc (nI (sumN (X.nw 6) (X.nw 0 3))) ?_ (fun T hM1 ms => ?_)
              · rw [e116_0, if_neg d0, if_neg d1, if_neg d2, if_neg d3, if_neg d4, if_pos d5, e116_6]
                simp only [O0, oB_s, Hg isH_23, if_true, stuckTogether_eq hC.now h6, cI_s]
              · rw [if_neg d0, if_neg d1, if_neg d2, if_neg d3, if_neg d4, if_pos d5, e225_10]
                simp only [O359, if_true, stuckAll_eq ms h6, cI_s]
            · by_cases d6 : Int32.toInt x = (6 : Nat)
              · refine cc (nI X.an) ?_ (fun T hM1 ms => ?_)
                · rw [e116_0, if_neg d0, if_neg d1, if_neg d2, if_neg d3, if_neg d4, if_neg d5, if_pos d6, e116_7]
                  simp only [O0, oB_s, hC.acts.1]
                · rw [if_neg d0, if_neg d1, if_neg d2, if_neg d3, if_neg d4, if_neg d5, if_pos d6, e225_11]
                  simp only [O359, oB_s, hM1.acts.1]
              · by_cases d7 : Int32.toInt x = (7 : Nat)
                · refine cc (nI X.tl) ?_ (fun T hM1 ms => ?_)
                  · rw [e116_0, if_neg d0, if_neg d1, if_neg d2, if_neg d3, if_neg d4, if_neg d5, if_neg d6, if_pos d7, e116_8]
                    simp only [O0, O13, oB_s, hC.tape.1]
                  · rw [if_neg d0, if_neg d1, if_neg d2, if_neg d3, if_neg d4, if_neg d5, if_neg d6, if_pos d7, e225_12]
                    simp only [O359, oB_s, hM1.tape.1]
                · refine cc (-1000001) ?_ (fun T hM1 ms => ?_)
                  · rw [e116_0, if_neg d0, if_neg d1, if_neg d2, if_neg d3, if_neg d4, if_neg d5, if_neg d6, if_neg d7, e116_9]
                  · rw [if_neg d0, if_neg d1, if_neg d2, if_neg d3, if_neg d4, if_neg d5, if_neg d6, if_neg d7, e225_13]
