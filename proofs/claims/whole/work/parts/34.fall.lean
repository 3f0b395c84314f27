/-! the class's House: room, falling -/
theorem pl_I {S : Nat → Nat → Int32} {p : Nat} {a : Hs} (h : HR S p a) {o i : Nat} (h1 : 1 ≤ o) (h2 : o ≤ 8) (hi : i < 6) : S (p + o) i = nI (a o i) := h.2.2.1 o i h1 h2 hi
theorem below_eq (S : Nat → Nat → Int32) {q : Nat} (hq : q < 1000) (sc : Nat × (Nat → Int32)) (d : Nat) : EX sc (d + 1) 18 0 [.int (nI q)] [] (mk S) = some (some (.int (nI (dn q))), mk S) := by
  rw [e18_0, e18_1]
  by_cases h : q = 0
  · subst h
    rw [if_pos (by rfl)]
    rfl
  · rw [if_neg (nI_ne0 (by omega) (by omega))]
    unfold dn
    rw [if_neg h]
    obtain ⟨k, rfl⟩ : ∃ k, q = k + 1 := ⟨q - 1, by omega⟩
    rw [nI_pred]
    rfl
theorem bt1 {A B : Option Res} : (if (1 : Int32) = 0 ∨ (1 : Int32) = 1 then A else B) = A := if_pos (Or.inr rfl)
theorem bt0 {A B : Option Res} : (if (0 : Int32) = 0 ∨ (0 : Int32) = 1 then A else B) = A := if_pos (Or.inl rfl)
theorem ldB_ne {a : Hs} {q i : Nat} (h : a 5 i ≠ q) : ldB a q i = ld a q := by
  unfold ldB
  rw [if_neg h, Nat.sub_zero]
/-- room at the box always, elsewhere by what lies there -/
theorem hasRoom_eq {S : Nat → Nat → Int32} {p : Nat} {a : Hs} {B : Nat} (h : HR S p a) (hw : WFg B a) {i q : Nat} (hi : i < a 0 3) (hq : q < 22) (hne : a 5 i ≠ q) (sc : Nat × (Nat → Int32)) (d : Nat) : EX sc (d + 1) 14 0 [.ref p, .int (nI i), .int (nI q)] [] (mk S) = some (some (.int (if q = 21 ∨ roomS a i q = true then 1 else 0)), mk S) := by
  have hp := h.1
  have hi6 : i < 6 := by have := hw.1; omega
  obtain ⟨w1, w2, w3, w4, w5, w6, w7, w8⟩ := hw.2.2.2.2.2 i hi
  have hld := ld_lt hw q
  have hwd := hw.2.2.1
  rw [e14_0, e14_1, e14_2, bt1, bt0]
  have e21 : (nI q = 21) ↔ q = 21 := by rw [show (21 : Int32) = nI 21 from rfl]; exact nI_eq (by omega) (by omega)
  by_cases hq21 : q = 21
  · rw [if_pos (e21.mpr hq21), if_pos (Or.inl hq21)]
  · rw [if_neg (fun e => hq21 (e21.mp e))]
    simp only [Hg hp, oB_s, fun S => HA hp S hi6, fun S => HA2 hp S hq, pl_I h (show 1 ≤ 1 by omega) (show 1 ≤ 8 by omega) hi6, pl_I h (show 1 ≤ 3 by omega) (show 3 ≤ 8 by omega) hi6, h.2.2.2.2 q hq, h.2.1 1 (by omega), nI_add]
    have e2 : (nI (a 1 i) = 2) ↔ a 1 i = 2 := by rw [show (2 : Int32) = nI 2 from rfl]; exact nI_eq (by omega) (by omega)
    by_cases hk : a 1 i = 2
    · rw [if_pos (e2.mpr hk), if_pos (Or.inr (by unfold roomS; simp [hk]))]
    · rw [if_neg (fun e => hk (e2.mp e))]
      have e3 : (nI (a 0 1) < nI (ld a q + a 3 i)) ↔ a 0 1 < ld a q + a 3 i := nI_ltI (by omega) (by omega)
      by_cases hr : ld a q + a 3 i ≤ a 0 1
      · rw [if_neg (fun e => by have := e3.mp e; omega), if_pos (Or.inr (by unfold roomS; rw [ldB_ne hne]; simp [hr]))]
      · rw [if_pos (e3.mpr (by omega)), if_neg]
        rintro (e | e)
        · exact hq21 e
        · unfold roomS at e
          rw [ldB_ne hne] at e
          simp [hk, hr] at e
theorem clr_0 {b i : Nat} (hb : b < 64) (hi : i < 6) : (nI b &&& ((1 <<< (nI i &&& 31)) ^^^ (-1)) = 0) ↔ clrB b i = 0 := by
  rw [clr_I b hb i hi, show (0 : Int32) = nI 0 from rfl]
  have := clr_64 (i := i) hb
  exact nI_eq (by omega) (by omega)
theorem toInt_nI {n : Nat} (h : n < 2 ^ 31) (k : Nat) : ((nI n).toInt = (k : Int)) ↔ n = k := by
  rw [nI_toInt h]
  omega
theorem floorsToFall_eq {S : Nat → Nat → Int32} {p : Nat} {a : Hs} {B : Nat} (h : HR S p a) (hw : WFg B a) (hB : B ≤ 1000000) {i : Nat} (hi : i < a 0 3) (sc : Nat × (Nat → Int32)) (d : Nat) : EX sc (d + 1) 13 0 [.ref p, .int (nI i), Jk] [] (mk S) = some (some (.int (nI (fallS a i))), mk S) := by
  have hp := h.1
  have hi6 : i < 6 := by have := hw.1; omega
  obtain ⟨w1, w2, w3, w4, w5, w6, w7, w8⟩ := hw.2.2.2.2.2 i hi
  have hpl := pl_22 hw hi
  have main : ∀ s0 : Int32, (s0 = 0 ↔ clrB (ly a (a 5 i)) i = 0) → EX sc (d + 1) 13 2 [.ref p, .int (nI i), Jk] [.int s0] (mk S) = some (some (.int (nI (fallS a i))), mk S) := by
    intro s0 hs
    rw [e13_2, e13_3, e13_4, e13_5, e13_6, e13_7]
    simp only [Hg hp, oB_s, fun S => HA hp S hi6, pl_I h (show 1 ≤ 1 by omega) (show 1 ≤ 8 by omega) hi6, pl_I h (show 1 ≤ 7 by omega) (show 7 ≤ 8 by omega) hi6, toInt_nI (show a 1 i < 2 ^ 31 by omega)]
    unfold fallS
    by_cases k3 : a 1 i = 3
    · rw [if_pos k3, if_neg (show ¬ a 1 i = 5 by omega), if_neg (show ¬ a 1 i = 4 by omega), if_pos k3]
      by_cases hc : clrB (ly a (a 5 i)) i = 0
      · rw [if_pos (hs.mpr hc), if_pos hc]; rfl
      · rw [if_neg (fun e => hc (hs.mp e)), if_neg hc]; rfl
    · rw [if_neg k3]
      by_cases k4 : a 1 i = 4
      · rw [if_pos k4, if_neg (show ¬ a 1 i = 5 by omega), if_pos k4]; rfl
      · rw [if_neg k4]
        by_cases k5 : a 1 i = 5
        · rw [if_pos k5, if_pos k5]
          have e1 : (1 : Int32) + nI (a 7 i) = nI (1 + a 7 i) := by rw [show (1 : Int32) = nI 1 from rfl, nI_add]
          have e2 : (nI (1 + a 7 i) < 4) ↔ 1 + a 7 i < 4 := by rw [show (4 : Int32) = nI 4 from rfl]; exact nI_ltI (by omega) (by omega)
          rw [e1]
          by_cases hr : 1 + a 7 i < 4
          · rw [if_pos (e2.mpr hr), if_pos hr]
          · rw [if_neg (fun e => hr (e2.mp e)), if_neg hr]; rfl
        · rw [if_neg k5, if_neg k5, if_neg k4, if_neg k3]; rfl
  rw [e13_0, e13_1]
  simp only [Hg hp, oB_s, fun S => HA hp S hi6, pl_I h (show 1 ≤ 5 by omega) (show 5 ≤ 8 by omega) hi6, fun S => HA2 hp S hpl, h.2.2.2.1 _ hpl]
  by_cases hc : clrB (ly a (a 5 i)) i = 0
  · rw [if_pos ((clr_0 (ly_lt hw.1 _) hi6).mpr hc)]
    exact main 0 ⟨fun _ => hc, fun _ => rfl⟩
  · rw [if_neg (fun e => hc ((clr_0 (ly_lt hw.1 _) hi6).mp e))]
    exact main 1 ⟨fun e => absurd e (by decide), fun e => absurd e hc⟩
/-- a write to one row of numbers of the house -/
theorem HR_set {S : Nat → Nat → Int32} {p : Nat} {a : Hs} (h : HR S p a) {o i v : Nat} (h1 : 1 ≤ o) (h2 : o ≤ 8) (h3 : o ≠ 3) (h5 : o ≠ 5) : HR (up S (p + o) i (nI v)) p (upA a o i v) := by
  obtain ⟨hp, g0, g1, g2, g3⟩ := h
  refine ⟨hp, fun j hj => ?_, fun o' j ho1 ho2 hj => ?_, fun q hq => ?_, fun q hq => ?_⟩
  · rw [up_row_ne (by omega), g0 j hj, upA_c (by omega)]
  · rw [up_at, upA_at]
    by_cases e : o' = o ∧ j = i
    · rw [if_pos (by omega), if_pos e]
    · rw [if_neg (by omega), if_neg e]; exact g1 o' j ho1 ho2 hj
  · rw [up_row_ne (by omega), g2 q hq]
    unfold ly
    rw [upA_c (by omega), upA_c (by omega)]
  · rw [up_row_ne (by omega), g3 q hq]
    unfold ld
    rw [upA_c (by omega), upA_c (by omega), upA_c (by omega)]
theorem dn_ne {q : Nat} (h : q ≠ 21) : q ≠ dn q := by
  unfold dn
  split <;> omega
theorem dn_22 {q : Nat} (h : q < 22) : dn q < 22 := by
  unfold dn
  split <;> omega
theorem go_iff {a : Hs} {i : Nat} (hF : a 5 i ≠ 21) (hF2 : a 5 i < 22): (dn (a 5 i) = 21 ∨ roomS a i (dn (a 5 i)) = true) ↔ (a 5 i = 0 ∨ roomS a i (a 5 i - 1) = true) := by
  unfold dn
  by_cases h : a 5 i = 0
  · simp [h]
  · rw [if_neg h]
    constructor
    · rintro (e | e)
      · omega
      · exact Or.inr e
    · rintro (e | e)
      · exact absurd e h
      · exact Or.inr e
theorem letFall_spec {S : Nat → Nat → Int32} {p : Nat} {a : Hs} {B : Nat} (h : HR S p a) (hw : WFg B a) (hB : B ≤ 1000000) {i : Nat} (hi : i < a 0 3) (hF : a 5 i < a 0 0) (sc : Nat × (Nat → Int32)) (d : Nat) : ∃ S', EX sc (d + 2) 12 0 [.ref p, .int (nI i), Jk, Jk, Jk] [] (mk S) = some (none, mk S') ∧ HR S' p (fallA a i) ∧ Fr p S S' := by
  have hi6 : i < 6 := by have := hw.1; omega
  have hp := h.1
  have hpl := pl_22 hw hi
  have h9 := hw.2.1
  -- the loop
  have loop : ∀ (n s : Nat) (S1 : Nat → Nat → Int32) (b : Hs), s + n = fallS a i → HR S1 p b → WFg B b → b 0 3 = a 0 3 → (b 5 i < b 0 0 ∨ b 5 i = 21) → ∃ S2, EX sc (d + 2) 12 1 [.ref p, .int (nI i), .int (nI (a 5 i)), .int (nI (fallS a i)), .int (nI s)] [] (mk S1) = EX sc (d + 2) 12 2 [.ref p, .int (nI i), .int (nI (a 5 i)), Jk, Jk] [] (mk S2) ∧ HR S2 p (goS n b i) ∧ Fr p S1 S2 := by
    have hfs : fallS a i ≤ 4 := by unfold fallS; (repeat' split) <;> omega
    intro n
    induction n with
    | zero =>
      intro s S1 b hs h1 hw1 hL hb
      refine ⟨S1, ?_, h1, Fr.rf _ _⟩
      rw [e12_1, if_pos (by rw [show s = fallS a i by omega]; exact nI_le (by omega) (by omega))]
    | succ n ih =>
      intro s S1 b hs h1 hw1 hL hb
      have hbi : i < b 0 3 := by omega
      have hb22 := pl_22 hw1 hbi
      have e21 : (nI (b 5 i) = 21) ↔ b 5 i = 21 := by rw [show (21 : Int32) = nI 21 from rfl]; exact nI_eq (by omega) (by omega)
      rw [e12_1, if_neg (nI_ge (by omega) (by omega))]
      simp only [Hg hp, oB_s, fun S => HA hp S hi6, pl_I h1 (show 1 ≤ 5 by omega) (show 5 ≤ 8 by omega) hi6]
      unfold goS
      by_cases c21 : b 5 i = 21
      · rw [if_pos (e21.mpr c21), if_pos c21]
        exact ⟨S1, rfl, h1, Fr.rf _ _⟩
      · rw [if_neg (fun e => c21 (e21.mp e)), if_neg c21]
        simp only [below_eq S1 (show b 5 i < 1000 by omega) sc d, cI_s, Hg hp, if_true, hasRoom_eq h1 hw1 hbi (dn_22 hb22) (dn_ne c21) sc d]
        by_cases hr : b 5 i = 0 ∨ roomS b i (b 5 i - 1) = true
        · rw [if_pos ((go_iff c21 hb22).mpr hr), if_pos hr]
          obtain ⟨S3, hm1, hm2, hm3⟩ := moveTo_spec h1 hw1 hbi (dn_22 hb22) sc d
          simp only [oB_s, fun S => HA hp S hi6, pl_I h1 (show 1 ≤ 5 by omega) (show 5 ≤ 8 by omega) hi6, below_eq S1 (show b 5 i < 1000 by omega) sc d, cI_s, Hg hp, if_true, hm1, cV_s, nI_1]
          rw [if_neg (show ¬ (1 : Int32) = 0 by decide)]
          have hb2 : (upA b 5 i (dn (b 5 i))) 5 i < b 0 0 ∨ (upA b 5 i (dn (b 5 i))) 5 i = 21 := by
            rw [upA_same]
            unfold dn
            split
            · exact Or.inr rfl
            · rcases hb with hb | hb
              · exact Or.inl (by omega)
              · exact absurd hb c21
          obtain ⟨S4, k1, k2, k3⟩ := ih (s + 1) S3 _ (by omega) hm2 (WF_mv hw1 (by rw [upA_same] at hb2; rcases hb2 with q | q; exact Or.inl q; exact Or.inr (Or.inr q))) hL hb2
          exact ⟨S4, k1, k2, hm3.tr k3⟩
        · rw [if_neg (fun e => hr ((go_iff c21 hb22).mp e)), if_neg hr]
          rw [if_pos rfl]
          exact ⟨S1, rfl, h1, Fr.rf _ _⟩
  obtain ⟨S2, l1, l2, l3⟩ := loop (fallS a i) 0 S a (by omega) h hw rfl (Or.inl hF)
  obtain ⟨q, gq, -⟩ := goS_spec i (fallS a i) a
  have hgw := WF_go hw hF (fallS a i)
  have hg3 : (goS (fallS a i) a i) 0 3 = a 0 3 := by rw [gq, upA_c (by omega)]
  have hg6 : (goS (fallS a i) a i) 6 = a 6 := by rw [gq, upA_c (by omega)]
  have hg7 : (goS (fallS a i) a i) 7 = a 7 := by rw [gq, upA_c (by omega)]
  have hq22 : (goS (fallS a i) a i) 5 i < 22 := pl_22 hgw (by omega)
  have hst := (hw.2.2.2.2.2 i hi).2.2.2.2.2.1
  have hrn := (hw.2.2.2.2.2 i hi).2.2.2.2.2.2.1
  rw [e12_0]
  simp only [Hg hp, oB_s, fun S => HA hp S hi6, pl_I h (show 1 ≤ 5 by omega) (show 5 ≤ 8 by omega) hi6, if_true, floorsToFall_eq h hw hB hi sc d, cI_s]
  rw [show (0 : Int32) = nI 0 from rfl, l1, e12_2, e12_3]
  have e5 : (nI ((goS (fallS a i) a i) 5 i) = nI (a 5 i)) ↔ (goS (fallS a i) a i) 5 i = a 5 i := nI_eq (by omega) (by omega)
  simp only [Hg hp, oB_s, fun S => HA hp S hi6, fun S x => HS hp S hi6 x, pl_I l2 (show 1 ≤ 5 by omega) (show 5 ≤ 8 by omega) hi6, pl_I l2 (show 1 ≤ 6 by omega) (show 6 ≤ 8 by omega) hi6, pl_I l2 (show 1 ≤ 7 by omega) (show 7 ≤ 8 by omega) hi6, hg6, hg7, nI_1]
  unfold fallA
  by_cases hsame : (goS (fallS a i) a i) 5 i = a 5 i
  · rw [if_pos (e5.mpr hsame), if_pos hsame]
    have hga : goS (fallS a i) a i = a := by
      rw [gq] at hsame ⊢
      rw [upA_same] at hsame
      rw [hsame, upA_self]
    rw [hga] at l2
    have e6 : (if nI (a 6 i + 1) < 999 then nI (a 6 i + 1) else 999) = nI (if a 6 i + 1 < 999 then a 6 i + 1 else 999) := by
      have : (nI (a 6 i + 1) < 999) ↔ a 6 i + 1 < 999 := by rw [show (999 : Int32) = nI 999 from rfl]; exact nI_ltI (by omega) (by omega)
      by_cases c : a 6 i + 1 < 999
      · rw [if_pos (this.mpr c), if_pos c]
      · rw [if_neg (fun e => c (this.mp e)), if_neg c]; rfl
    rw [e6, show (0 : Int32) = nI 0 from rfl]
    exact ⟨_, rfl, HR_set (HR_set l2 (by omega) (by omega) (by omega) (by omega)) (by omega) (by omega) (by omega) (by omega), l3.tr ((Fr.up (by omega)).tr (Fr.up (by omega)))⟩
  · rw [if_neg (fun e => hsame (e5.mp e)), if_neg hsame]
    exact ⟨_, rfl, HR_set l2 (by omega) (by omega) (by omega) (by omega), l3.tr (Fr.up (by omega))⟩
