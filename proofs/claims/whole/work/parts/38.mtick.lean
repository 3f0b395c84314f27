/-! the reference: a tick -/
theorem goFall_spec {S : Nat → Nat → Int32} {a : Hs} {B : Nat} (h : MR S a) (hw : WFg B a) (hB : B ≤ 1000000) {i : Nat} (hi : i < a 0 3) (hF : a 5 i < a 0 0) (sc : Nat × (Nat → Int32)) (d : Nat) : ∃ S', EX sc (d + 4) 164 0 [.ref 359, .int (nI i), Jk, Jk] [] (mk S) = some (none, mk S') ∧ MR S' (fallA a i) ∧ S' = va_up S 373 (S' 373) := by
  have h6 := hw.1
  have h9 := hw.2.1
  have hfs : fallS a i ≤ 4 := by unfold fallS; (repeat' split) <;> omega
  have hpi : plv a i = a 5 i := (plv_q (by omega)).mpr rfl
  have loop : ∀ (n : Nat) (S1 : Nat → Nat → Int32) (b : Hs), n ≤ 4 → MR S1 b → WFg B b → b 0 3 = a 0 3 → (b 5 i < b 0 0 ∨ b 5 i = 21) → ∃ S2, EX sc (d + 4) 164 1 [.ref 359, .int (nI i), .int (nI (a 5 i)), .int (nI n)] [] (mk S1) = EX sc (d + 4) 164 5 [.ref 359, .int (nI i), .int (nI (a 5 i)), Jk] [] (mk S2) ∧ MR S2 (goS n b i) ∧ S2 = va_up S1 373 (S2 373) := by
    intro n
    induction n with
    | zero =>
      intro S1 b _ h1 hw1 hL hb
      refine ⟨S1, ?_, h1, (vup_id S1 373).symm⟩
      rw [e164_1, if_pos (by decide)]
    | succ n ih =>
      intro S1 b hn4 h1 hw1 hL hb
      have hbi : i < b 0 3 := by omega
      have hb9 := hw1.2.1
      have hb22 := pl_22 hw1 hbi
      have hpb : plv b i = b 5 i := by
        unfold plv
        rw [if_neg (fun q => by omega)]
      have e21 : (nI (b 5 i) = 21) ↔ b 5 i = 21 := by rw [show (21 : Int32) = nI 21 from rfl]; exact nI_eq (by omega) (by omega)
      have e0 : (nI (b 5 i) = 0) ↔ b 5 i = 0 := by rw [show (0 : Int32) = nI 0 from rfl]; exact nI_eq (by omega) (by omega)
      have next : ∀ S3, MR S3 (upA b 5 i (dn (b 5 i))) → S3 = va_up S1 373 (S3 373) → b 5 i ≠ 21 → ∃ S2, EX sc (d + 4) 164 4 [.ref 359, .int (nI i), .int (nI (a 5 i)), .int (nI (n + 1))] [] (mk S3) = EX sc (d + 4) 164 5 [.ref 359, .int (nI i), .int (nI (a 5 i)), Jk] [] (mk S2) ∧ MR S2 (goS n (upA b 5 i (dn (b 5 i))) i) ∧ S2 = va_up S1 373 (S2 373) := by
        intro S3 h3 hf3 c21
        rw [e164_4, pk_m1]
        have hb2 : (upA b 5 i (dn (b 5 i))) 5 i < b 0 0 ∨ (upA b 5 i (dn (b 5 i))) 5 i = 21 := by
          rw [upA_same]
          unfold dn
          split
          · exact Or.inr rfl
          · rcases hb with hb | hb
            · exact Or.inl (by omega)
            · exact absurd hb c21
        obtain ⟨S2, k1, k2, k3⟩ := ih S3 _ (by omega) h3 (WF_mv hw1 (by rw [upA_same] at hb2; rcases hb2 with q | q; exact Or.inl q; exact Or.inr (Or.inr q))) hL hb2
        refine ⟨S2, k1, k2, ?_⟩
        rw [hf3] at k3
        rw [k3, vup_vup]
        rfl
      rw [e164_1, if_neg (nI_nle (by omega) (by omega))]
      simp only [O359, oB_s, A373_at (S := S1) (show i < 32 by omega), (h1.2.1.1 i hbi).1, hpb]
      unfold goS
      by_cases c21 : b 5 i = 21
      · rw [if_pos (e21.mpr c21), if_pos c21]
        exact ⟨S1, rfl, h1, (vup_id S1 373).symm⟩
      · rw [if_neg (fun q => c21 (e21.mp q)), if_neg c21]
        by_cases c0 : b 5 i = 0
        · rw [if_pos (e0.mpr c0), if_pos (Or.inl c0)]
          have hdn : dn (b 5 i) = 21 := by unfold dn; rw [if_pos c0]
          rw [A373_st (S := S1) (show i < 32 by omega), oB_s]
          refine next _ ?_ ?_ c21
          · rw [hdn]; exact MR_pl (q := 21) h1 (by omega) hbi (by omega)
          · unfold up; rw [vup_at]
        · rw [if_neg (fun q => c0 (e0.mp q)), e164_2]
          have hdn : dn (b 5 i) = b 5 i - 1 := by unfold dn; rw [if_neg c0]
          have hm1 : nI (b 5 i) - 1 = nI (b 5 i - 1) := by
            obtain ⟨k, hk⟩ : ∃ k, b 5 i = k + 1 := ⟨b 5 i - 1, by omega⟩
            rw [hk, nI_pred]; rfl
          simp only [O359, oB_s, if_true, A373_at (S := S1) (show i < 32 by omega), (h1.2.1.1 i hbi).1, hpb, hm1, mRoom_eq h1.q hw1 (show b 5 i - 1 < 20 by omega) hbi sc d, cI_s, A373_st (S := S1) (show i < 32 by omega)]
          by_cases hr : roomS b i (b 5 i - 1) = true
          · rw [if_pos hr, if_neg (show ¬ (1 : Int32) = 0 by decide), if_pos (Or.inr hr)]
            refine next _ ?_ ?_ c21
            · rw [hdn]; exact MR_pl h1 (by omega) hbi (by omega)
            · unfold up; rw [vup_at]
          · rw [if_neg hr, if_pos rfl, if_neg (fun q => q.elim c0 hr), e164_3, e164_4, e164_1]
            rw [if_pos (by decide)]
            exact ⟨S1, rfl, h1, (vup_id S1 373).symm⟩
  obtain ⟨S2, l1, l2, l3⟩ := loop (fallS a i) S a hfs h hw rfl (Or.inl hF)
  obtain ⟨q, gq, hqd⟩ := goS_spec i (fallS a i) a
  have hgw := WF_go hw hF (fallS a i)
  have hg3 : (goS (fallS a i) a i) 0 3 = a 0 3 := by rw [gq, upA_c (by omega)]
  have hg6 : (goS (fallS a i) a i) 6 = a 6 := by rw [gq, upA_c (by omega)]
  have hg7 : (goS (fallS a i) a i) 7 = a 7 := by rw [gq, upA_c (by omega)]
  have hq22 : (goS (fallS a i) a i) 5 i < 22 := pl_22 hgw (by omega)
  have hst := (hw.2.2.2.2.2 i hi).2.2.2.2.2.1
  have hrn := (hw.2.2.2.2.2 i hi).2.2.2.2.2.2.1
  have hqs : (goS (fallS a i) a i) 5 i ≠ 20 := by
    rw [gq, upA_same]
    rcases hqd with q1 | ⟨-, q1 | q1⟩ <;> omega
  have hpg : plv (goS (fallS a i) a i) i = (goS (fallS a i) a i) 5 i := by
    unfold plv
    rw [if_neg (fun q => hqs q.2)]
  have e6i : (6 : Int32) + nI i = nI (6 + i) := by rw [show (6 : Int32) = nI 6 from rfl, nI_add]
  have e12 : (12 : Int32) + nI i = nI (12 + i) := by rw [show (12 : Int32) = nI 12 from rfl, nI_add]
  obtain ⟨r1, r2, r3, r4, r5⟩ := l2.2.1.1 i (by omega)
  rw [hpg] at r1
  rw [hg6] at r2
  rw [hg7] at r3
  have e5 : (nI ((goS (fallS a i) a i) 5 i) = nI (a 5 i)) ↔ (goS (fallS a i) a i) 5 i = a 5 i := nI_eq (by omega) (by omega)
  rw [e164_0]
  simp only [O359, oB_s, if_true, A373_at (S := S) (show i < 32 by omega), (h.2.1.1 i hi).1, hpi, fallOf_eq h.q hw hB hi (by omega) sc (d + 1), cI_s, l1]
  rw [e164_5]
  simp only [O359, oB_s, A373_at (S := S2) (show i < 32 by omega), r1, e6i, e12, A373_at (S := S2) (show 6 + i < 32 by omega), r2]
  rw [e164_6, e164_7, e164_7, e164_8]
  simp only [O359, oB_s, e12, fun S x => A373_st (S := S) (show 6 + i < 32 by omega) x, fun S x => A373_st (S := S) (show 12 + i < 32 by omega) x, A373_at (S := S2) (show 12 + i < 32 by omega), r3, nI_1]
  unfold fallA
  by_cases hsame : (goS (fallS a i) a i) 5 i = a 5 i
  · rw [if_pos (e5.mpr hsame), if_pos hsame]
    have hga : goS (fallS a i) a i = a := by
      rw [gq] at hsame ⊢
      rw [upA_same] at hsame
      rw [hsame, upA_self]
    rw [hga] at l2
    have e999 : ((999 : Int32) ≤ nI (a 6 i)) ↔ 999 ≤ a 6 i := by rw [show (999 : Int32) = nI 999 from rfl]; exact nI_leI (by omega) (by omega)
    have fin : ∀ v, MR (up (up S2 373 (6 + i) (nI v)) 373 (12 + i) 0) (upA (upA a 6 i v) 7 i 0) ∧ up (up S2 373 (6 + i) (nI v)) 373 (12 + i) 0 = va_up S 373 (up (up S2 373 (6 + i) (nI v)) 373 (12 + i) 0 373) := by
      intro v
      refine ⟨MR_7 (v := 0) (MR_6 l2 h6 hi) h6 hi, ?_⟩
      unfold up
      rw [vup_at, vup_vup, l3, vup_vup]
      simp [va_up]
    by_cases c9 : 999 ≤ a 6 i
    · rw [if_pos (e999.mpr c9), show nI (a 6 i) + 0 = nI (a 6 i) from by rw [show (0 : Int32) = nI 0 from rfl, nI_add]; rfl]
      have hv : (if a 6 i + 1 < 999 then a 6 i + 1 else 999) = a 6 i := by rw [if_neg (by omega)]; omega
      rw [hv]
      exact ⟨_, rfl, (fin _).1, (fin _).2⟩
    · rw [if_neg (fun q => c9 (e999.mp q))]
      have hv : (if a 6 i + 1 < 999 then a 6 i + 1 else 999) = a 6 i + 1 := by split <;> omega
      rw [hv]
      exact ⟨_, rfl, (fin _).1, (fin _).2⟩
  · rw [if_neg (fun q => hsame (e5.mp q)), if_neg hsame]
    refine ⟨_, rfl, MR_7 l2 (by omega) (by omega), ?_⟩
    unfold up
    rw [vup_at, l3, vup_vup]
