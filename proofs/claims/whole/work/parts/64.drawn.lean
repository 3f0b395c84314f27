/-! drawn: the reference, the call -/
theorem drM_loop {N : Nat} (hN : N ≤ 60) (w : Int32) (sc : Nat × (Nat → Int32)) (d : Nat) : ∀ (n t : Nat) (S : Nat → Nat → Int32) (a : Hs) (x : Nat) (c : Int32), t + n = N → MS S a → DrOk (n + 1) a → x < 2147483648 → ∃ S', EX sc (d + 7) 208 4 [.ref 359, .int (nI N), Jk, .int w, .long (lN x), Jk, .int c, .int (nI t), Jk, Jk] [] (mk S) = EX sc (d + 7) 208 7 [.ref 359, Jk, Jk, .int w, Jk, Jk, .int (drN n a x c).2, Jk, Jk, Jk] [] (mk S') ∧ MS S' (drN n a x c).1 ∧ FM S S' := by
  intro n
  induction n with
  | zero =>
    intro t S a x c ht h hd hx
    refine ⟨S, ?_, h, FM.rf _⟩
    rw [e208_4, if_pos (nI_le (by omega) (by omega))]
    rfl
  | succ n ih =>
    intro t S a x c ht h hd hx
    obtain ⟨hok, hrk, hnv, hL, hF⟩ := id hd
    obtain ⟨B, hw⟩ := hok.wf
    have h6 := hw.1
    have h9 := hw.2.1
    have hx2 := drX_lt x
    obtain ⟨⟨bok, brk, bnv, bL, bF⟩, bL2, bF2⟩ := hd.b (drX x)
    obtain ⟨Bb, hwb⟩ := bok.wf
    have hl : drX x % a 0 3 < a 0 3 := Nat.mod_lt _ hL
    have hl6 : drX x % a 0 3 < 6 := by omega
    have p5 : S 373 (drX x % a 0 3) = nI (a 5 (drX x % a 0 3)) := by
      have := (h.2.1 _ hl).1
      rw [plv0 hnv] at this
      exact this
    have h22 := pl_22 hw hl
    have e21 : (nI (a 5 (drX x % a 0 3)) = 21) ↔ a 5 (drX x % a 0 3) = 21 := nI_eq (b := 21) (by omega) (by omega)
    have e4 : (lg_cmp (lN (drX x) - lN (drX x) / 4 * 4) 0 = 0) ↔ drX x % 4 = 0 := by
      rw [lg_cmp_eq, show (4 : Int64) = lN 4 from rfl, pk_lRem (by omega) (by omega) (by omega)]
      exact pk_lEQ (b := 0) (by omega) (by omega)
    have e19 : Int64.toInt32 (lN (drX x) - lN (drX x) / 19 * 19) + 2 = nI (drX x % 19 + 2) := by
      rw [show (19 : Int64) = lN 19 from rfl, pk_lRem (by omega) (by omega) (by omega), lN_i]
      exact nI_add _ 2
    have nz : ∀ m, 0 < m → m < 1000 → ¬ Int32.toInt64 (nI m) = 0 := fun m h1 h2 q => by
      rw [nI_l (by omega)] at q
      have := (pk_lEQ (a := m) (b := 0) (by omega) (by omega)).mp q
      omega
    have next : ∀ S1, MS S1 (drB a (drX x)) → FM S S1 → ∃ S', EX sc (d + 7) 208 6 [.ref 359, .int (nI N), Jk, .int w, .long (lN (drX x)), Jk, .int c, .int (nI t), Jk, Jk] [] (mk S1) = EX sc (d + 7) 208 7 [.ref 359, Jk, Jk, .int w, Jk, Jk, .int (drN (n + 1) a x c).2, Jk, Jk, Jk] [] (mk S') ∧ MS S' (drN (n + 1) a x c).1 ∧ FM S S' := by
      intro S1 hb hfs
      have hb6 := bok.l6
      obtain ⟨S2, k1, k2, k3⟩ := goTicks_spec (N := 1) hb brk (bok.le (by omega)) (by omega) sc d
      have k2' : MS S2 (tickS (drB a (drX x))) := k2.ms
      obtain ⟨Bt, hwt⟩ := bok.tick.wf
      obtain ⟨S3, m1, m2, m3⟩ := ih (t + 1) S2 (tickS (drB a (drX x))) (drX x) (c + (nI (bitN 6 (ly (tickS (drB a (drX x))) 21)) - nI (bitN 6 (ly (drB a (drX x)) 21)))) (by omega) k2' (DrOk.t ⟨bok, brk, bnv, bL, bF⟩) (by omega)
      refine ⟨S3, ?_, m2, (hfs.tr k3).tr m3⟩
      have l1 : ly (drB a (drX x)) 21 < 2 ^ 6 := ly_lt hb6 21
      have l2 : ly (tickS (drB a (drX x))) 21 < 2 ^ 6 := ly_lt hwt.1 21
      rw [e208_6]
      simp only [O359, if_true, boxed_spec hb hwb, cI_s, ones_eq S1 (show 6 ≤ 30 by omega) l1 sc (d + 5), show (1 : Int32) = nI 1 from rfl, k1, cV_s, boxed_spec k2' hwt, ones_eq S2 (show 6 ≤ 30 by omega) l2 sc (d + 5), nI_add]
      exact m1
    have cb : drB a (drX x) = if a 5 (drX x % a 0 3) = 21 then postA a (drX x % a 0 3) (drX x % a 0 0) else if drX x % 4 = 0 then upA a 0 1 (drX x % 19 + 2) else a := rfl
    rw [e208_4, if_neg (nI_ge (by omega) (by omega)), drX_I hx]
    simp only [O359, oB_s, h.1.2.1, h.1.1, lrem_I (show drX x < 2147483648 by omega) hL (show a 0 3 < 1000 by omega), lrem_I (show drX x < 2147483648 by omega) hF (show a 0 0 < 1000 by omega), A373_at (S := S) (show drX x % a 0 3 < 32 by omega), p5, if_true]
    rw [if_neg (by decide), if_neg (nz _ hL (by omega))]
    by_cases c1 : a 5 (drX x % a 0 3) = 21
    · rw [if_pos (e21.mpr c1), if_neg (nz _ hF (by omega))]
      obtain ⟨S1, k1, k2, k3⟩ := goPost_spec h h6 hnv (f := drX x % a 0 0) hl sc (d + 5)
      rw [k1, cV_s]
      exact next S1 (by rw [cb, if_pos c1]; exact k2) k3.fm
    · rw [if_neg (fun q => c1 (e21.mp q)), e208_5, if_neg (by decide)]
      by_cases c2 : drX x % 4 = 0
      · rw [if_pos (e4.mpr c2)]
        simp only [O359, oB_s, e19, show (30 : Int32) = nI 30 from rfl, A373_st (S := S) (show 30 < 32 by omega)]
        rw [if_neg (by decide)]
        exact next _ (by rw [cb, if_neg c1, if_pos c2]; exact MS_wide h h6 _) RC.up.fm
      · rw [if_neg (fun q => c2 (e4.mp q))]
        exact next S (by rw [cb, if_neg c1, if_neg c2]; exact h) (FM.rf _)
theorem op_drawn (sc : Nat × (Nat → Int32)) (x y z : Int32) : St2 sc 109 [.ref 0, .int x, .int y, .int z] 208 [.ref 359, .int x, .int y, .int z, Jk, Jk, Jk, Jk, Jk, Jk] := by
  rintro S ⟨X, hX, hC, hM⟩
  have h6 := hX.l6
  have hiny := fun S => inL sc y 1 999999 1 999999 S 37 rfl rfl
  have hinz := fun S => inL sc z 0 1 0 1 S 37 rfl rfl
  by_cases c0 : X.nw 0 3 = 0
  · refine ⟨-1000002, S, S, ?_, ?_, X, hX, hC, hM⟩
    · rw [e109_0]
      simp only [O0, if_true, hasNoC hC hX, cI_s, ii_0]
      rw [if_pos c0]
    · rw [e208_0]
      simp only [O359, oB_s]
      rw [if_pos ((hasM hM).mpr c0)]
  · by_cases hc : (0 ≤ x ∧ x ≤ 60) ∧ (1 ≤ y ∧ y ≤ 999999) ∧ (0 ≤ z ∧ z ≤ 1)
    · obtain ⟨c1, c2, c3⟩ := hc
      obtain ⟨n, hn, rfl⟩ := toN (N := 60) (by omega) c1
      obtain ⟨s, hs1, hs2, rfl⟩ := toN2 (l := 1) (N := 999999) (by omega) (by omega) c2
      obtain ⟨w, hw, rfl⟩ := toN (N := 1) (by omega) c3
      have hg := hX.gd c0
      have dok : DrOk (n + 1) X.nw := ⟨hX.okT (by omega), hX.rk, hX.nv, by omega, by have := hg.2.2.2.2.2.1; omega⟩
      have hs64 : Int32.toInt64 (nI s) = lN s := nI_l (by omega)
      have hw0 : (nI w = 0) ↔ w = 0 := nI_eq (b := 0) (by omega) (by omega)
      obtain ⟨S1, k1, k2, k3⟩ := copyFrom_spec hC.now isH_46 (Or.inr (by omega)) sc 36
      obtain ⟨S2, m1, m2, m3, m4⟩ := drC_loop hn (nI w) sc 34 n 0 S1 X.nw s 0 (by omega) k2 dok (by omega)
      obtain ⟨D, hD⟩ : ∃ D, D = drN n X.nw s 0 := ⟨_, rfl⟩
      rw [← hD] at m1 m2 m3
      have d6 : D.1 0 3 ≤ 6 := by rw [m3]; exact h6
      refine stq (r := if w = 0 then D.2 else nI (sumN (D.1 6) (D.1 0 3))) hX hC hM ⟨S2, ?_, (k3.fs (Or.inl rfl)).tr m4⟩ (fun T hM1 => ?_)
      · have m1' : EX sc 38 52 1 [.ref 45, Jk, .int (nI n), Jk, .int (nI w), .long (lN s), Jk, .int 0, .int 0, Jk, Jk] [] (mk S1) = EX sc 38 52 4 [.ref 45, Jk, Jk, Jk, .int (nI w), Jk, Jk, .int D.2, Jk, Jk, Jk] [] (mk S2) := m1
        rw [e109_0]
        simp only [O0, if_true, hasNoC hC hX, cI_s, ii_0]
        rw [if_neg c0, e109_1, within_eq, cI_s, ii_0, if_pos c1, within_eq, cI_s, ii_0, if_pos c2, within_eq, cI_s, ii_0, if_pos c3, e109_3]
        simp only [O0, O45, oB_s, if_true, e52_0, Hg isH_46, k1, cV_s, hs64, m1', e52_4, e52_5, stuckTogether_eq m2 d6 sc 36, cI_s]
        by_cases w0 : w = 0
        · rw [if_pos (hw0.mpr w0), if_pos w0, cI_s]
        · rw [if_neg (fun q => w0 (hw0.mp q)), if_neg w0, cI_s]
      · obtain ⟨T1, a1, a2, a3⟩ := aside_spec hM1.stat hM1.now h6 sc 37
        obtain ⟨T2, b1, b2, b3⟩ := drM_loop hn (nI w) sc 32 n 0 T1 X.nw s 0 (by omega) a2 dok (by omega)
        rw [← hD] at b1 b2
        have b1' : EX sc 39 208 4 [.ref 359, .int (nI n), Jk, .int (nI w), .long (lN s), Jk, .int 0, .int 0, Jk, Jk] [] (mk T1) = EX sc 39 208 7 [.ref 359, Jk, Jk, .int (nI w), Jk, Jk, .int D.2, Jk, Jk, Jk] [] (mk T2) := b1
        refine ⟨T2, ?_, a3.fm.fn.tr b3.fn⟩
        rw [e208_0]
        simp only [O359, oB_s]
        rw [if_neg (fun q => c0 ((hasM hM1).mp q)), e208_1, isAheadM, cI_s, ii_0, if_pos c1, hiny, cI_s, ii_0, if_pos c2, hinz, cI_s, ii_0, if_pos c3, e208_3]
        simp only [O359, if_true, a1, cV_s, hs64, b1', e208_7, e208_8, stuckAll_eq b2 d6, cI_s]
        by_cases w0 : w = 0
        · rw [if_pos (hw0.mpr w0), if_pos w0]
        · rw [if_neg (fun q => w0 (hw0.mp q)), if_neg w0]
    · refine ⟨-1000001, S, S, ?_, ?_, X, hX, hC, hM⟩
      · rw [e109_0]
        simp only [O0, if_true, hasNoC hC hX, cI_s, ii_0]
        rw [if_neg c0, e109_1]
        simp only [within_eq, cI_s, ii_0, e109_2]
        by_cases c1 : 0 ≤ x ∧ x ≤ 60
        · rw [if_pos c1]
          by_cases c2 : 1 ≤ y ∧ y ≤ 999999
          · rw [if_pos c2, if_neg (fun q => hc ⟨c1, c2, q⟩)]
          · rw [if_neg c2]
        · rw [if_neg c1]
      · rw [e208_0]
        simp only [O359, oB_s]
        rw [if_neg (fun q => c0 ((hasM hM).mp q)), e208_1]
        simp only [isAheadM, hiny, hinz, cI_s, ii_0, e208_2]
        by_cases c1 : 0 ≤ x ∧ x ≤ 60
        · rw [if_pos c1]
          by_cases c2 : 1 ≤ y ∧ y ≤ 999999
          · rw [if_pos c2, if_neg (fun q => hc ⟨c1, c2, q⟩)]
          · rw [if_neg c2]
        · rw [if_neg c1]
