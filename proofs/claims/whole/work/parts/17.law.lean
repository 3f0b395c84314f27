/-! the law's frame over the abstract machine: what is left is pure -/
def h00 : AH := (0, 0, fun _ => .inr (0, []))
theorem nw_over {ty : FieldType} {u U : State} (hW : u.WarmedH U.vm) (h : va_Nw (.arrayOver ty) u) : va_Nw (.arrayOver ty) U := by
  have h1 : (Cond.arrayOver ty).before #[] (u.setVm U.vm) = true := by
    rw [Cond.arrayOver_setVmC hW.alike]
    exact h
  exact h1
theorem XwOk_GP : XwOk GP := by
  intro w hw u U hW hz
  have key : ∀ w ∈ XW, (∃ a i x h, w = Jvm.Cond.methodLinkNest a i x h) ∨ (∃ a b, w = Jvm.Cond.castable a b) ∨ ∃ t, w = Jvm.Cond.arrayOver t := by
    intro w hw
    simp only [XW, List.mem_cons, List.not_mem_nil, or_false] at hw
    rcases hw with rfl | rfl | rfl | rfl | rfl | rfl | rfl | rfl | rfl | rfl | rfl | rfl | rfl | rfl | rfl | rfl | rfl | rfl | rfl | rfl | rfl | rfl | rfl | rfl | rfl | rfl | rfl
    all_goals first
      | exact Or.inl ⟨_, _, _, _, rfl⟩
      | exact Or.inr (Or.inl ⟨_, _, rfl⟩)
      | exact Or.inr (Or.inr ⟨_, rfl⟩)
  rcases key w hw with ⟨a, i, x, h, rfl⟩ | ⟨a, b, rfl⟩ | ⟨t, rfl⟩
  · exact va_Nw.warmM hW hz
  · exact va_Nw.warmC hW hz
  · exact nw_over hW hz
theorem over_spec {t : FieldType} {a : Array Value} {s : State} (h : (Cond.arrayOver (.array t)).before a s = true) : ∃ comp c k, s.vm.findClass (FieldType.array t).toString = some comp ∧ s.vm.classes[c]? = some k ∧ k.kind = .array comp (.array t) ∧ s.vm.findClass ("[" ++ (FieldType.array t).toString) = some c := Cond.arrayOver_specA h
-- ==== written by gen_law.py from here on
theorem words_in {ws : List Cond} (ps : List Nat) (h : decide (ws = ps.filterMap (fun i => lw_tbl[i]?)) = true) : ∀ w ∈ ws, w ∈ lw_tbl := by
  intro w hw
  rw [of_decide_eq_true h] at hw
  obtain ⟨i, -, hi⟩ := List.mem_filterMap.mp hw
  exact List.mem_of_getElem? hi
theorem words_ts {ws : List Cond} (ps : List Nat) (h : decide (ws = ps.filterMap (fun i => lw_tbl[i]?)) = true) (hg : ws.all goodWord = true) : ∀ w ∈ ws, w ∈ TS GP := fun w hw => List.mem_filter.mpr ⟨words_in ps h w hw, List.all_eq_true.mp hg w hw⟩
theorem uin0 : ∀ w ∈ u_ws RX0 TX0 5, w ∈ TS GP := words_ts [162, 164, 166, 168, 170] (by decide +kernel) (by decide +kernel)
theorem uin1 : ∀ w ∈ u_ws RX1 TX1 0, w ∈ TS GP := words_ts [] (by decide +kernel) (by decide +kernel)
theorem uin2 : ∀ w ∈ u_ws RX2 TX2 15, w ∈ TS GP := words_ts [260, 262, 264, 266, 268, 270, 272, 274, 276, 278, 280, 282, 284, 286, 288] (by decide +kernel) (by decide +kernel)
theorem uin3 : ∀ w ∈ u_ws RX4 TX4 0, w ∈ TS GP := words_ts [] (by decide +kernel) (by decide +kernel)
theorem uin4 : ∀ w ∈ u_ws RX5 TX5 8, w ∈ TS GP := words_ts [309, 311, 313, 315, 317, 319, 321, 323] (by decide +kernel) (by decide +kernel)
theorem uin5 : ∀ w ∈ u_ws RX6 TX6 0, w ∈ TS GP := words_ts [] (by decide +kernel) (by decide +kernel)
theorem uin6 : ∀ w ∈ u_ws RX7 TX7 5, w ∈ TS GP := words_ts [135, 137, 139, 141, 143] (by decide +kernel) (by decide +kernel)
theorem uin7 : ∀ w ∈ u_ws RX8 TX8 0, w ∈ TS GP := words_ts [] (by decide +kernel) (by decide +kernel)
theorem uin8 : ∀ w ∈ u_ws RX9 TX9 3, w ∈ TS GP := words_ts [113, 115, 117] (by decide +kernel) (by decide +kernel)
theorem uin9 : ∀ w ∈ u_ws RX10 TX10 0, w ∈ TS GP := words_ts [] (by decide +kernel) (by decide +kernel)
theorem uin10 : ∀ w ∈ u_ws RX11 TX11 13, w ∈ TS GP := words_ts [340, 342, 344, 346, 348, 350, 352, 354, 356, 358, 360, 362, 364] (by decide +kernel) (by decide +kernel)
theorem uin11 : ∀ w ∈ u_ws RX12 TX12 35, w ∈ TS GP := words_ts [949, 951, 953, 955, 957, 959, 961, 963, 965, 967, 969, 971, 973, 975, 977, 979, 981, 983, 985, 987, 989, 991, 993, 995, 997, 999, 1001, 1003, 1005, 1007, 1009, 1011, 1013, 1015, 1017] (by decide +kernel) (by decide +kernel)
theorem xw_in : ∀ w ∈ XW, w ∈ lw_tbl := words_in [107, 123, 148, 174, 177, 180, 187, 190, 194, 197, 201, 204, 208, 211, 215, 293, 298, 326, 454, 1423, 1424, 1425, 1426, 1427, 1428, 1429, 1430] (by decide +kernel)
theorem gp_classes : ∀ ci, ci < GP.cl.length → (∀ w ∈ u_ws (clN GP.cl ci).1 (clN GP.cl ci).2.1 (clN GP.cl ci).2.2, w ∈ TS GP) ∧ (∀ k, k < (clN GP.cl ci).2.2 → parseFieldDescriptor ((clN GP.cl ci).2.1 k).2.2.1 = some (GP.ty0 ci k)) ∧ (∀ a, a < (clN GP.cl ci).2.2 → ∀ b, b < (clN GP.cl ci).2.2 → a ≠ b → ((clN GP.cl ci).2.1 a).2.1 ≠ ((clN GP.cl ci).2.1 b).2.1) := by
  intro ci hci
  have h12 : ci < 12 := hci
  match ci, h12 with
  | 0, _ => exact ⟨uin0, tyX0_ok, nmX0⟩
  | 1, _ => exact ⟨uin1, tyX1_ok, nmX1⟩
  | 2, _ => exact ⟨uin2, tyX2_ok, nmX2⟩
  | 3, _ => exact ⟨uin3, tyX4_ok, nmX4⟩
  | 4, _ => exact ⟨uin4, tyX5_ok, nmX5⟩
  | 5, _ => exact ⟨uin5, tyX6_ok, nmX6⟩
  | 6, _ => exact ⟨uin6, tyX7_ok, nmX7⟩
  | 7, _ => exact ⟨uin7, tyX8_ok, nmX8⟩
  | 8, _ => exact ⟨uin8, tyX9_ok, nmX9⟩
  | 9, _ => exact ⟨uin9, tyX10_ok, nmX10⟩
  | 10, _ => exact ⟨uin10, tyX11_ok, nmX11⟩
  | 11, _ => exact ⟨uin11, tyX12_ok, nmX12⟩
theorem nc_in : NC.all (fun q => decide (Jvm.Cond.not (Jvm.Cond.castable q.1 q.2) ∈ flatC (Jvm.Cond.and given_1 narrow_1))) = true := by decide +kernel
set_option maxHeartbeats 4000000 in
set_option maxRecDepth 100000 in
/-- the law walks as the abstract machine says -/
theorem law_sound (hM : MOk GP) (hLaw : okM GP 229 = true) (hpure : ∀ sc : Nat × (Nat → Int32), sc.1 ≤ 3072 → ∃ h' : AH, Exec (PB MT) sc 40 229 0 [.retAddr 0, Jk, Jk, Jk] [] h00 = some (some (.int 1), h') ∧ h'.1 ≤ 600000 ∧ h'.2.1 ≤ 7302250)
    {p : Program} {e : Env} {s : State} {m : MethodId} {below : List Frame} {meth : Method} {c : Code} (l : Launch) {b L : Nat} {xs : Nat → Int32} (hL : L ≤ 3072) (Q : State → Prop)
    (hx : p.tables.exec = Jvm.exec) (hb : c.code = code) (hr : meth.sig.returnType = ret) (hml : c.maxLocals = 4) (hown : s.vm.findClass "LetterChuteLaw" = some m.cls) (hts : ∀ w ∈ lw_tbl, w.before #[Value.ref b] s = true) (hX : va_X b L xs s s.heap) (hbl : b < s.heap.size) (hlocks : meth.locks = false) (hgv : (Jvm.Cond.and given_1 narrow_1).before #[Value.ref b] s = true)
    (hQ : ∀ (H : Heap) (pc : Nat) (lr : Array Slot), decode code pc = .ok (.ireturn, 1) → W p l e room_1 s m #[Value.ref b] below meth c H [] 600000 7302250 Q (F0 m pc lr [.int 1])) :
    W p l e room_1 s m #[Value.ref b] below meth c s.heap [] 0 0 Q (entryFrame m ([Value.ref b] : List Value).toArray 4) := by
  obtain ⟨h', hex, hh1, hh2⟩ := hpure (L, xs) hL
  obtain ⟨n, hn⟩ := Exec_iff.mp hex
  obtain ⟨c0, i0, k0⟩ := u_known (C := RX0) (T := TX0) (N := 5) (n := 5) hts (fun w hw => (List.mem_filter.mp (uin0 w hw)).1) (hts (.instantiable RX0 5) (List.mem_of_getElem? (i := 147) (by decide +kernel)))
  obtain ⟨c1, i1, k1⟩ := u_known (C := RX1) (T := TX1) (N := 0) (n := 0) hts (fun w hw => (List.mem_filter.mp (uin1 w hw)).1) (hts (.instantiable RX1 0) (List.mem_of_getElem? (i := 176) (by decide +kernel)))
  obtain ⟨c2, i2, k2⟩ := u_known (C := RX2) (T := TX2) (N := 15) (n := 15) hts (fun w hw => (List.mem_filter.mp (uin2 w hw)).1) (hts (.instantiable RX2 15) (List.mem_of_getElem? (i := 214) (by decide +kernel)))
  obtain ⟨c3, i3, k3⟩ := u_known (C := RX4) (T := TX4) (N := 0) (n := 0) hts (fun w hw => (List.mem_filter.mp (uin3 w hw)).1) (hts (.instantiable RX4 0) (List.mem_of_getElem? (i := 193) (by decide +kernel)))
  obtain ⟨c4, i4, k4⟩ := u_known (C := RX5) (T := TX5) (N := 8) (n := 8) hts (fun w hw => (List.mem_filter.mp (uin4 w hw)).1) (hts (.instantiable RX5 8) (List.mem_of_getElem? (i := 292) (by decide +kernel)))
  obtain ⟨c5, i5, k5⟩ := u_known (C := RX6) (T := TX6) (N := 0) (n := 0) hts (fun w hw => (List.mem_filter.mp (uin5 w hw)).1) (hts (.instantiable RX6 0) (List.mem_of_getElem? (i := 200) (by decide +kernel)))
  obtain ⟨c6, i6, k6⟩ := u_known (C := RX7) (T := TX7) (N := 5) (n := 5) hts (fun w hw => (List.mem_filter.mp (uin6 w hw)).1) (hts (.instantiable RX7 5) (List.mem_of_getElem? (i := 122) (by decide +kernel)))
  obtain ⟨c7, i7, k7⟩ := u_known (C := RX8) (T := TX8) (N := 0) (n := 0) hts (fun w hw => (List.mem_filter.mp (uin7 w hw)).1) (hts (.instantiable RX8 0) (List.mem_of_getElem? (i := 207) (by decide +kernel)))
  obtain ⟨c8, i8, k8⟩ := u_known (C := RX9) (T := TX9) (N := 3) (n := 3) hts (fun w hw => (List.mem_filter.mp (uin8 w hw)).1) (hts (.instantiable RX9 3) (List.mem_of_getElem? (i := 101) (by decide +kernel)))
  obtain ⟨c9, i9, k9⟩ := u_known (C := RX10) (T := TX10) (N := 0) (n := 0) hts (fun w hw => (List.mem_filter.mp (uin9 w hw)).1) (hts (.instantiable RX10 0) (List.mem_of_getElem? (i := 186) (by decide +kernel)))
  obtain ⟨c10, i10, k10⟩ := u_known (C := RX11) (T := TX11) (N := 13) (n := 13) hts (fun w hw => (List.mem_filter.mp (uin10 w hw)).1) (hts (.instantiable RX11 13) (List.mem_of_getElem? (i := 93) (by decide +kernel)))
  obtain ⟨c11, i11, k11⟩ := u_known (C := RX12) (T := TX12) (N := 35) (n := 35) hts (fun w hw => (List.mem_filter.mp (uin11 w hw)).1) (hts (.instantiable RX12 35) (List.mem_of_getElem? (i := 908) (by decide +kernel)))
  let dC : Nat → ClassId := fun k => ([c0, c1, c2, c3, c4, c5, c6, c7, c8, c9, c10, c11] : List ClassId).getD k 0
  let dI : Nat → Nat → Nat := fun k => ([i0, i1, i2, i3, i4, i5, i6, i7, i8, i9, i10, i11] : List (Nat → Nat)).getD k (fun _ => 0)
  have hKc : ∀ (k : Nat) (q : vw_C), CLS[k]? = some q → u_Kn s q.1 q.2.1 q.2.2 (dC k) (dI k) := by
    intro k q hq
    match k, hq with
    | 0, hq => cases hq; exact k0
    | 1, hq => cases hq; exact k1
    | 2, hq => cases hq; exact k2
    | 3, hq => cases hq; exact k3
    | 4, hq => cases hq; exact k4
    | 5, hq => cases hq; exact k5
    | 6, hq => cases hq; exact k6
    | 7, hq => cases hq; exact k7
    | 8, hq => cases hq; exact k8
    | 9, hq => cases hq; exact k9
    | 10, hq => cases hq; exact k10
    | 11, hq => cases hq; exact k11
    | k + 12, hq => simp [CLS] at hq
  obtain ⟨t0, kt0, cm0, f0, g0, j0⟩ := Cond.arrayClass_spec (hts (.arrayClass .int) (List.mem_of_getElem? (i := 120) (by decide +kernel)))
  obtain ⟨cm1, t1, kt1, a1, b1, d1, e1, f1⟩ := Cond.arrayOver_spec (hts (.arrayOver (.object "LetterChute$House")) (List.mem_of_getElem? (i := 326) (by decide +kernel)))
  obtain ⟨cm2, t2, kt2, a2, b2, d2, e2, f2⟩ := Cond.arrayOver_spec (hts (.arrayOver (.object "LetterChute$Letter")) (List.mem_of_getElem? (i := 174) (by decide +kernel)))
  obtain ⟨cm3, t3, kt3, a3, d3, e3, f3⟩ := over_spec (hts (.arrayOver (.array .int)) (List.mem_of_getElem? (i := 107) (by decide +kernel)))
  have hK : va_K (dC, dI) CLS [(t0, .int), (t1, .object "LetterChute$House"), (t2, .object "LetterChute$Letter"), (t3, .array .int)] s := by
    refine ⟨hKc, fun k q hq => ?_⟩
    match k, hq with
    | 0, hq => cases hq; exact ⟨fun N z => ⟨(fun k h => by cases h), kt0, g0, cm0, j0⟩, f0⟩
    | 1, hq => cases hq; exact ⟨fun N z => ⟨(fun k h => by cases h), kt1, d1, cm1, e1⟩, kt1, cm1, d1, e1, a1, f1⟩
    | 2, hq => cases hq; exact ⟨fun N z => ⟨(fun k h => by cases h), kt2, d2, cm2, e2⟩, kt2, cm2, d2, e2, a2, f2⟩
    | 3, hq => cases hq; exact ⟨fun N z => ⟨(fun k h => by cases h), kt3, d3, cm3, e3⟩, f3⟩
    | k + 4, hq => simp at hq
  have hKS : KS GP (dC, dI) [(t0, .int), (t1, .object "LetterChute$House"), (t2, .object "LetterChute$Letter"), (t3, .array .int)] s := by
    refine ⟨hK, fun w hw => ?_, fun q hq => ?_⟩
    · have hbw := hts w (xw_in w hw)
      have key : ∀ w ∈ XW, w.onTables = true ∨ ∃ t, w = Jvm.Cond.arrayOver t := by
        intro w hw
        simp only [XW, List.mem_cons, List.not_mem_nil, or_false] at hw
        rcases hw with rfl | rfl | rfl | rfl | rfl | rfl | rfl | rfl | rfl | rfl | rfl | rfl | rfl | rfl | rfl | rfl | rfl | rfl | rfl | rfl | rfl | rfl | rfl | rfl | rfl | rfl | rfl
        all_goals first
          | exact Or.inl rfl
          | exact Or.inr ⟨_, rfl⟩
      rcases key w hw with h | ⟨t, rfl⟩
      · exact va_Nw.of h hbw
      · exact hbw
    · have h1 := List.all_eq_true.mp nc_in q hq
      exact va_Nc.of (flat_of_before _ hgv _ (of_decide_eq_true h1))
  have hG : GOK GP [(t0, .int), (t1, .object "LetterChute$House"), (t2, .object "LetterChute$Letter"), (t3, .array .int)] := ⟨gp_classes, rfl, rfl, rfl⟩
  have hF : FC GP (dC, dI) [(t0, .int), (t1, .object "LetterChute$House"), (t2, .object "LetterChute$Letter"), (t3, .array .int)] s.heap.size b (L, xs) 229 p s m #[Value.ref b] meth c h00 := ⟨hx, hb, hml, hr, hown, fun w hw => hts w (List.mem_filter.mp hw).1, fun q => absurd q (by decide +kernel), hlocks, hKS, hX, hbl, rfl⟩
  have hS0 : SR GP (dC, dI) [(t0, .int), (t1, .object "LetterChute$House"), (t2, .object "LetterChute$Letter"), (t3, .array .int)] s.heap.size b s h00 h00 s.heap [] 0 0 := ⟨fun k q hq => by simp [wld, h00] at hq, va_S.rf, rfl, rfl, Gr.rf⟩
  have key := frm_sound hG hM XwOk_GP hbl l n 229 h00 p e room_1 s m #[Value.ref b] below meth c Q 40 0 [.retAddr 0, Jk, Jk, Jk] [] h00 (some (.int 1), h') hLaw hF (Nat.le_of_ble_eq_true rfl) (Nat.le_of_ble_eq_true rfl) (show h'.1 - 0 ≤ 600000 by omega) (show h'.2.1 - 0 ≤ 7302250 by omega) ?_ hn s.heap [] 0 0 _ hS0 (LR.entry (as := [.retAddr 0]) (nL := 4) (Nat.le_of_ble_eq_true rfl))
  · rw [lg_entry_eq]
    exact key
  · refine ⟨?_, ?_, ?_, ?_⟩
    · intro H locs cells slots pc lr v ty hv _ _ hd hR
      cases hv
      obtain ⟨hP1, hS1, rfl, rfl, -⟩ := hR
      refine va_forget (fun q hq => hS1.2.2 q hq) ?_
      refine W.widen (k := 600000) (n := 7302250) (show h'.1 - 0 ≤ 600000 by omega) (show h'.2.1 - 0 ≤ 7302250 by omega) ?_
      exact hQ H pc lr hd
    · intro H locs cells slots pc lr v hv
      cases hv
    · intro H locs cells slots pc lr v n hv
      cases hv
    · intro H locs cells slots pc lr hv
      cases hv
