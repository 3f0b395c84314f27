/-! the machine does what the abstract one says: the heap -/
def cAt (tys : List (ClassId × FieldType)) (t : Nat) : ClassId := (tys.getD t (0, .int)).1
/-- what is decided of the program once -/
def GOK (G : PG) (tys : List (ClassId × FieldType)) : Prop :=
  (∀ ci, ci < G.cl.length → (∀ w ∈ u_ws (clN G.cl ci).1 (clN G.cl ci).2.1 (clN G.cl ci).2.2, w ∈ TS G) ∧ (∀ k, k < (clN G.cl ci).2.2 → parseFieldDescriptor ((clN G.cl ci).2.1 k).2.2.1 = some (G.ty0 ci k)) ∧ (∀ a, a < (clN G.cl ci).2.2 → ∀ b, b < (clN G.cl ci).2.2 → a ≠ b → ((clN G.cl ci).2.1 a).2.1 ≠ ((clN G.cl ci).2.1 b).2.1)) ∧
  tys.map (fun q => q.2) = G.tyL ∧ G.tyL[0]? = some .int ∧ G.tyL[3]? = some (.array .int)
theorem clN_at {cl : List vw_C} {ci : Nat} (h : ci < cl.length) : cl[ci]? = some ((clN cl ci).1, (clN cl ci).2.1, (clN cl ci).2.2) := by
  unfold clN
  rw [List.getD_eq_getElem?_getD, List.getElem?_eq_getElem h]
  rfl
theorem tys_at {G : PG} {tys : List (ClassId × FieldType)} (h : tys.map (fun q => q.2) = G.tyL) {t : Nat} {ty : FieldType} (ht : G.tyL[t]? = some ty) : tys[t]? = some (cAt tys t, ty) := by
  rw [← h, List.getElem?_map] at ht
  cases hq : tys[t]? with
  | none => rw [hq] at ht; cases ht
  | some q =>
    rw [hq] at ht
    cases ht
    unfold cAt
    rw [List.getD_eq_getElem?_getD, hq]
    rfl
/-- the heap of the machine against the abstract one; cells and slots made since the method began -/
def SR (G : PG) (D : va_G) (tys : List (ClassId × FieldType)) (b bs : Nat) (s : State) (h0 h : AH) (H : Heap) (locs : List Loc) (cells slots : Nat) : Prop :=
  va_P D G.cl (wld b bs (cAt tys) h) H ∧ va_S (fun q => b ≤ q) s.heap H locs ∧ cells = h.1 - h0.1 ∧ slots = h.2.1 - h0.2.1 ∧ Gr h0 h
theorem fs_map {b bs : Nat} {fs : List Value} {k : Nat} {v : Value} (h : fs[k]? = some v) : (fs.map (vmv b bs))[k]? = some (vmv b bs v) := by
  rw [List.getElem?_map, h]
  rfl
theorem look_mem {L : List (Nat × Nat × Nat)} {c : Nat} {q : Nat × Nat} (h : look L c = some q) : (c, q.1, q.2) ∈ L := by
  induction L with
  | nil => cases h
  | cons a r ih =>
    unfold look at h
    split at h
    · next e => cases h; rw [← e]; exact List.mem_cons_self
    · exact List.mem_cons_of_mem _ (ih h)
theorem dfl_map (b bs : Nat) (L : List (Nat × Nat × Nat)) : (dfl L).map (vmv b bs) = dfl L := by
  unfold dfl
  rw [List.map_map]
  apply List.map_congr_left
  intro q _
  show vmv b bs (if q.1 = 0 then .int 0 else .null) = _
  split <;> rfl
theorem casts_spec {G : PG} {k : Nat} {C E : String} (h : casts G k C E = true) : C = E ∨ Cond.castable C E ∈ G.xw := by
  unfold casts at h
  rw [Bool.or_eq_true, decide_eq_true_eq] at h
  exact h.imp id xat_spec
section HeapS
variable {G : PG} {D : va_G} {tys : List (ClassId × FieldType)} {b bs : Nat} {sc : Nat × (Nat → Int32)} {mi : Nat} {h0 : AH}
variable {p : Program} {l : Launch} {e : Env} {R : Room} {s : State} {m : MethodId} {args : Array Value} {below : List Frame} {meth : Method} {c : Code} {H : Heap} {locs : List Loc} {cells slots : Nat} {Q : State → Prop}
/-- one cell written -/
theorem SR.put {h : AH} {q : Nat} {cq : va_E} {H1 : Heap} {locs1 : List Loc} (hR : SR G D tys b bs s h0 h H locs cells slots) (hP : va_P D G.cl ((wld b bs (cAt tys) h).set q (b + q, trE b bs (cAt tys) cq)) H1) (hS : va_S (fun q => b ≤ q) s.heap H1 locs1) : SR G D tys b bs s h0 (hset h q cq) H1 locs1 cells slots := by
  rw [wld_set] at hP
  exact ⟨hP, hS, hR.2.2.1, hR.2.2.2.1, hR.2.2.2.2⟩
theorem SR.lo {h : AH} (hR : SR G D tys b bs s h0 h H locs cells slots) (hsz : s.heap.size = b + h0.1) : b + h.1 ≤ H.size := by
  have h1 : s.heap.size ≤ H.size := hR.2.1.1
  by_cases hz : h.1 = 0
  · omega
  · have hk : h.1 - 1 < h.1 := by omega
    have h2 := (hR.1 (h.1 - 1) _ (wld_get hk)).lt
    dsimp only at h2
    omega
theorem SR.size {h : AH} (hR : SR G D tys b bs s h0 h H locs cells slots) (hsz : s.heap.size = b + h0.1) (hu : H.size ≤ s.heap.size + cells) : H.size = b + h.1 := by
  have h1 := hR.lo hsz
  have h2 := hR.2.2.1
  have h3 := hR.2.2.2.2.1
  omega
/-- one cell made -/
theorem SR.push {h : AH} {cq : va_E} {n : Nat} {H1 : Heap} (hR : SR G D tys b bs s h0 h H locs cells slots) (hz : H.size = b + h.1) (hP : va_P D G.cl (wld b bs (cAt tys) h ++ [(H.size, trE b bs (cAt tys) cq)]) H1) (hS : va_S (fun q => b ≤ q) s.heap H1 locs) : SR G D tys b bs s h0 (hpush h cq n) H1 locs (cells + 1) (slots + n) := by
  rw [hz, ← wld_push (n := n)] at hP
  obtain ⟨-, -, h3, h4, h5, h6⟩ := hR
  exact ⟨hP, hS, by show cells + 1 = h.1 + 1 - h0.1; omega, by show slots + n = h.2.1 + n - h0.2.1; omega, Nat.le_succ_of_le h5, Nat.le_add_right_of_le h6⟩
set_option maxHeartbeats 4000000 in
/-- an instruction of the heap -/
theorem hst_sound (hG : GOK G tys) (hF : FC G D tys b bs sc mi p s m args meth c h0) {z : Bool} {pc len nx : Nat} {i : Instr} {o : Opd} {st : List Value} {h : AH} {lr : Array Slot} {F : List Value → AH → Option Res} {x : Res} (hok : okI G mi pc len i o nx = true) (hp : hst sc z i o st h F = some x) (hR : SR G D tys b bs s h0 h H locs cells slots) (hgr : ∀ st' h', F st' h' = some x → Gr h' x.2) (hRc : x.2.1 - h0.1 ≤ R.cells) (hRs : x.2.2.1 - h0.2.1 ≤ R.slots)
    (kk : ∀ (st' : List Value) (h' : AH) (H' : Heap) (locs' : List Loc) (cells' slots' : Nat), F st' h' = some x → SR G D tys b bs s h0 h' H' locs' cells' slots' → W p l e R s m args below meth c H' locs' cells' slots' Q (F0 m nx lr (st'.map (vmv b bs)))) : W p l e R s m args below meth c H locs cells slots Q (F0 m pc lr (st.map (vmv b bs))) := by
  obtain ⟨hx, hb, hml, hr, hown, hts, hnm, hlk, hK, hX, hbs, hsz⟩ := hF
  obtain ⟨gC, gT, g0, g3⟩ := hG
  have hP := hR.1
  have hS := hR.2.1
  have hD := wld_D (b := b) (bs := bs) (cA := cAt tys) (h := h)
  cases i
  case idiv =>
    simp only [okI, dcd, Bool.and_eq_true, decide_eq_true_eq] at hok
    obtain ⟨⟨hd, rfl⟩, rfl⟩ := hok
    simp only [hst] at hp
    split at hp
    · split at hp
      · cases hp
      · next hy => exact lv_idiv hx hb hd hy (kk _ _ _ _ _ _ hp hR)
    · cases hp
  case irem =>
    simp only [okI, dcd, Bool.and_eq_true, decide_eq_true_eq] at hok
    obtain ⟨⟨hd, rfl⟩, rfl⟩ := hok
    simp only [hst] at hp
    split at hp
    · split at hp
      · cases hp
      · next hy => exact lv_irem hx hb hd hy (kk _ _ _ _ _ _ hp hR)
    · cases hp
  case ldiv =>
    simp only [okI, dcd, Bool.and_eq_true, decide_eq_true_eq] at hok
    obtain ⟨⟨hd, rfl⟩, rfl⟩ := hok
    simp only [hst] at hp
    split at hp
    · split at hp
      · cases hp
      · next hy => exact lv_ldiv hx hb hd hy (kk _ _ _ _ _ _ hp hR)
    · cases hp
  case lrem =>
    simp only [okI, dcd, Bool.and_eq_true, decide_eq_true_eq] at hok
    obtain ⟨⟨hd, rfl⟩, rfl⟩ := hok
    simp only [hst] at hp
    split at hp
    · split at hp
      · cases hp
      · next hy => exact lv_lrem hx hb hd hy (kk _ _ _ _ _ _ hp hR)
    · cases hp
  case getfield k =>
    simp only [okI, dcd, Bool.and_eq_true, decide_eq_true_eq] at hok
    obtain ⟨⟨⟨⟨⟨hd, rfl⟩, rfl⟩, hci⟩, hkk⟩, hw⟩ := hok
    split at hw
    · next w _ =>
      have hl := hts _ (wat_spec hw)
      simp only [hst, oB] at hp
      split at hp
      · next q r =>
        split at hp
        · split at hp
          · next y hy =>
            obtain ⟨fs, hc, hf⟩ := gI_get hy
            exact va_get hx hb hts (gC _ hci).1 hown hK.1 hP q (wld_at hc) (clN_at hci) _ hkk hl (fun _ h9 => h9) (fs_map hf) hd (kk _ _ _ _ _ _ hp hR)
          · cases hp
        · split at hp
          · next y hy =>
            obtain ⟨fs, hc, hf⟩ := gR_get hy
            exact va_get hx hb hts (gC _ hci).1 hown hK.1 hP q (wld_at hc) (clN_at hci) _ hkk hl (fun _ h9 => h9) (fs_map hf) hd (kk _ _ _ _ _ _ hp hR)
          · cases hp
      · cases hp
    · cases hw
  case putfield k =>
    simp only [okI, dcd, Bool.and_eq_true, decide_eq_true_eq] at hok
    obtain ⟨⟨⟨⟨⟨⟨⟨hd, rfl⟩, rfl⟩, hci⟩, hkk⟩, hw⟩, hfin⟩, hty⟩ := hok
    split at hw
    · next w _ =>
      have hl := hts _ (wat_spec hw)
      obtain ⟨g1, g2, g3'⟩ := gC _ hci
      have key : ∀ (q : Nat) (v : Value) (h' : AH) (r : List Value) (ty : FieldType), pV h q o.2.1 o.2.2.1 v = some h' → F r h' = some x → parseFieldDescriptor ((clN G.cl o.2.1).2.1 o.2.2.1).2.2.1 = some ty → narrow ty (vmv b bs v) = vmv b bs v → fits ty (vmv b bs v) = true → W p l e R s m args below meth c H locs cells slots Q (F0 m pc lr (vmv b bs v :: .ref (b + q) :: r.map (vmv b bs))) := by
        intro q v h' r ty hpv hF' hpd hn hft
        obtain ⟨fs, hc, hlt, rfl⟩ := pV_set hpv
        have hlt' : o.2.2.1 < (fs.map (vmv b bs)).length := by rw [List.length_map]; exact hlt
        have kk' : ∀ (H1 : Heap) (locs1 : List Loc), va_P D G.cl ((wld b bs (cAt tys) h).set q (b + q, .inr (o.2.1, (fs.map (vmv b bs)).set o.2.2.1 (vmv b bs v)))) H1 → va_D (fun q => b ≤ q) ((wld b bs (cAt tys) h).set q (b + q, .inr (o.2.1, (fs.map (vmv b bs)).set o.2.2.1 (vmv b bs v)))) → va_S (fun q => b ≤ q) s.heap H1 locs1 → W p l e R s m args below meth c H1 locs1 cells slots Q (F0 m (pc + 3) lr (r.map (vmv b bs))) := by
          intro H1 locs1 hP1 _ hS1
          rw [← List.map_set] at hP1
          exact kk _ _ _ _ _ _ hF' (hR.put (cq := .inr (o.2.1, fs.set o.2.2.1 v)) hP1 hS1)
        cases hfl : ((clN G.cl o.2.1).2.1 o.2.2.1).2.2.2 with
        | false => exact va_put hx hb hts g1 _ g2 g3' hown hK.1 hP hD hS q (wld_at hc) (clN_at hci) _ hkk hl (fun _ h9 => h9) hfl hpd hn hft hlt' hd kk'
        | true =>
          rw [hfl] at hfin
          simp only [Bool.and_eq_true, decide_eq_true_eq] at hfin
          exact va_putF hx hb hts g1 _ g2 g3' hown hK.1 hP hD hS q (wld_at hc) (clN_at hci) _ hkk hl (fun _ h9 => h9) hfl (hnm hfin.1) hfin.2 hpd hn hft hlt' hd kk'
      simp only [hst, oB] at hp
      split at hp
      · next y q r =>
        split at hp
        · next v hv =>
          rw [hv] at hty
          split at hp
          · next hv1 =>
            subst hv1
            split at hp
            · next hy =>
              split at hp
              · next h' hpv =>
                split at hty
                · next e1 _ => cases e1; simp at hty
                · next e1 e2 => exact key q (.int y) h' r .boolean hpv hp e2 (by rcases hy with rfl | rfl <;> rfl) (by rcases hy with rfl | rfl <;> rfl)
                · next e1 _ => cases e1
                · next e1 _ => cases e1
                · cases hty
              · cases hp
            · cases hp
          · next hv1 =>
            split at hp
            · next h' hpv =>
              split at hty
              · next e1 e2 => exact key q (.int y) h' r .int hpv hp e2 rfl rfl
              · next e1 _ => cases e1; exact absurd (by simpa using hty) hv1
              · next e1 _ => cases e1
              · next e1 _ => cases e1
              · cases hty
            · cases hp
        · cases hp
      · next y q r =>
        split at hp
        · next hv =>
          rw [hv] at hty
          split at hp
          · next h' hpv =>
            split at hty
            · next e1 _ => cases e1
            · next e1 _ => cases e1
            · next e1 e2 => exact key q (.ref y) h' r _ hpv hp e2 rfl rfl
            · next e1 e2 => exact key q (.ref y) h' r _ hpv hp e2 rfl rfl
            · cases hty
          · cases hp
        · cases hp
      · cases hp
    · cases hw
  case iaload =>
    simp only [okI, dcd, Bool.and_eq_true, decide_eq_true_eq] at hok
    obtain ⟨⟨hd, rfl⟩, rfl⟩ := hok
    simp only [hst, oB] at hp
    split at hp
    · next i q r =>
      split at hp
      · next y hy =>
        obtain ⟨n, f, hc, hin, rfl⟩ := aI_get hy
        exact va_iald hx hb hK.1 hP q 0 (wld_at hc) (tys_at gT g0) hin hd (kk _ _ _ _ _ _ hp hR)
      · cases hp
    · next i q r =>
      split at hp
      · cases hp
      · next hin => exact va_sld hx hb hX (by omega) (by show ¬ b ≤ bs; omega) hS hin hd (kk _ _ _ _ _ _ hp hR)
    · cases hp
  case iastore =>
    simp only [okI, dcd, Bool.and_eq_true, decide_eq_true_eq] at hok
    obtain ⟨⟨hd, rfl⟩, rfl⟩ := hok
    simp only [hst, oB] at hp
    split at hp
    · next y i q r =>
      split at hp
      · next h' hy =>
        obtain ⟨n, f, hc, hin, rfl⟩ := sI_set hy
        exact va_iast hx hb hK.1 hP hD hS q 0 (wld_at hc) (tys_at gT g0) hin hd (fun H1 locs1 hP1 _ hS1 => kk _ _ _ _ _ _ hp (hR.put (cq := .inl (0, n, .inl (upd f i.toNatClampNeg y))) hP1 hS1))
      · cases hp
    · cases hp
  case aaload =>
    simp only [okI, dcd, Bool.and_eq_true, decide_eq_true_eq] at hok
    obtain ⟨⟨⟨hd, rfl⟩, rfl⟩, hty⟩ := hok
    simp only [hst, oB] at hp
    split at hp
    · next i q r =>
      split at hp
      · next y hy =>
        obtain ⟨n, f, hc, hin, hf⟩ := aR_get hy
        split at hty
        · next ty ht =>
          refine rw_aald hx hb hK.1 hP q o.2.1 (wld_at hc) (tys_at gT ht) hty hin hd ?_
          rw [hf]
          exact kk _ _ _ _ _ _ hp hR
        · cases hty
      · cases hp
    · cases hp
  case aastore =>
    simp only [okI, dcd, Bool.and_eq_true, decide_eq_true_eq] at hok
    obtain ⟨⟨⟨hd, rfl⟩, rfl⟩, hty⟩ := hok
    split at hty
    · next E hE =>
      simp only [hst, oB] at hp
      split at hp
      · next v i q r =>
        split at hp
        · next t _ hcq =>
          split at hp
          · next ht =>
            subst ht
            split at hp
            · next cv hcv =>
              split at hp
              · next qv hlook =>
                split at hp
                · next h' hs =>
                  obtain ⟨fv, hfv⟩ := clsOf_get hcv
                  have hall := List.all_eq_true.mp hty _ (look_mem hlook)
                  simp only [Bool.and_eq_true, decide_eq_true_eq] at hall
                  obtain ⟨hcl, hcs⟩ := hall
                  obtain ⟨t', n, f, hc, hin, rfl⟩ := sR_set hs
                  have ht' : t' = o.2.1 := by rw [hcq] at hc; cases hc; rfl
                  subst ht'
                  have hany : va_Any E s H (b + v) := by
                    refine va_rAny hK.1 hP (wld_at hfv) (clN_at hcl) fun comp c0 h1 h2 => ?_
                    rcases casts_spec hcs with hce | hce
                    · have hcat := (hK.1.1 _ _ (clN_at hcl)).2
                      dsimp only at hcat h2
                      have e1 : c0 = D.1 cv := Option.some.inj (h2.symm.trans hcat.1)
                      have e2 : comp = c0 := by
                        rw [hce] at h2
                        exact Option.some.inj (h1.symm.trans h2)
                      rw [e2, e1]
                      exact va_assign hcat
                    · obtain ⟨c1, t1, f1, f2, f3⟩ := Cond.castable_spec (va_Nw.use (A := args) rfl (hK.2.1 _ hce))
                      cases h2.symm.trans f1
                      cases h1.symm.trans f2
                      exact f3
                  refine va_astqM hx hb hK.1 hP hD hS q o.2.1 (wld_at hc) (tys_at gT hE) hany hin hd fun H1 locs1 hP1 _ hS1 => kk _ _ _ _ _ _ hp (hR.put (cq := .inl (o.2.1, n, .inr (.inr (.inr (.inr (va_up f i.toNatClampNeg (some v))))))) ?_ hS1)
                  have e9 : (fun i_1 => Option.map (fun x => b + x) (va_up f i.toNatClampNeg (some v) i_1)) = va_up (fun i => Option.map (fun x => b + x) (f i)) i.toNatClampNeg (some (b + v)) := by
                    funext j
                    unfold va_up
                    split <;> rfl
                  show va_P D G.cl ((wld b bs (cAt tys) h).set q (b + q, .inl (cAt tys o.2.1, n, .inr (.inr (.inr (.inr (fun i_1 => Option.map (fun x => b + x) (va_up f i.toNatClampNeg (some v) i_1)))))))) H1
                  rw [e9]
                  exact hP1
                · cases hp
              · cases hp
            · cases hp
          · cases hp
        · cases hp
      · cases hp
    · cases hty
  case arraylength =>
    simp only [okI, dcd, Bool.and_eq_true, decide_eq_true_eq] at hok
    obtain ⟨⟨hd, rfl⟩, rfl⟩ := hok
    simp only [hst, oB] at hp
    split at hp
    · exact va_slen hx hb hX (by omega) (by show ¬ b ≤ bs; omega) hS hd (kk _ _ _ _ _ _ hp hR)
    · cases hp
  case instanceof k =>
    simp only [okI, dcd, Bool.and_eq_true, decide_eq_true_eq] at hok
    obtain ⟨⟨⟨hd, rfl⟩, rfl⟩, hw⟩ := hok
    split at hw
    · next w nm _ =>
      simp only [Bool.and_eq_true, decide_eq_true_eq] at hw
      obtain ⟨⟨hnm', hlk'⟩, hall⟩ := hw
      have hl := hts _ (wat_spec hlk')
      simp only [hst, oB] at hp
      split at hp
      · next q r =>
        obtain ⟨cv, qv, hcv, hlook, hp⟩ := vdis_inv hp
        obtain ⟨fv, hfv⟩ := clsOf_get hcv
        have ha := List.all_eq_true.mp hall _ (look_mem hlook)
        simp only [Bool.and_eq_true, decide_eq_true_eq] at ha
        obtain ⟨hcl, ha⟩ := ha
        have hrec := va_recv hK.1 hP (clN_at hcl) (wld_at hfv)
        split at ha
        · next h1 =>
          rw [h1] at hp
          rcases casts_spec ha with hce | hce
          · have hcat := (hK.1.1 _ _ (clN_at hnm')).2
            dsimp only at hrec
            rw [hce] at hrec
            exact va_instS hx hb hown hl hcat hrec hd (kk _ _ _ _ _ _ hp hR)
          · exact va_instY hx hb hown hl (hK.2.1 _ hce) hrec hd (kk _ _ _ _ _ _ hp hR)
        · simp only [Bool.and_eq_true, decide_eq_true_eq] at ha
          rw [ha.1] at hp
          exact va_instNo hx hb hown hl (hK.2.2 _ (List.mem_of_getElem? ha.2)) hrec hd (kk _ _ _ _ _ _ hp hR)
      · cases hp
    · cases hw
  case new k =>
    simp only [okI, dcd, Bool.and_eq_true, decide_eq_true_eq] at hok
    obtain ⟨⟨⟨⟨⟨⟨hd, rfl⟩, rfl⟩, hci⟩, hln⟩, hw⟩, hdf⟩ := hok
    split at hw
    · next w1 w2 w3 _ _ =>
      simp only [Bool.and_eq_true] at hw
      obtain ⟨⟨hw1, hw2⟩, hw3⟩ := hw
      simp only [hst, oB] at hp
      have hg := hgr _ _ hp
      have hn1 : (newO h o.2.1 o.2.2.2.1).1 = h.1 + 1 := rfl
      have hn2 : (newO h o.2.1 o.2.2.2.1).2.1 = h.2.1 + o.2.2.2.1.length := rfl
      have hc1 := hR.2.2.1
      have hc2 := hR.2.2.2.1
      have hc3 := hR.2.2.2.2
      have q1 := hg.1
      have q2 := hg.2
      rw [hn1] at q1
      rw [hn2] at q2
      have q3 := hc3.1
      have q4 := hc3.2
      refine rw_size fun hu => ?_
      have hz := hR.size hsz hu
      refine rw_new (ci := o.2.1) (fs := dfl o.2.2.2.1) hx hb hts (gC _ hci).1 _ (gC _ hci).2.1 hown (hts _ (wat_spec hw1)) (hts _ (wat_spec hw2)) (hts _ (wat_spec hw3)) hK.1 hP hS (clN_at hci) (fun j hj => ?_) (by omega) (by rw [← hln]; omega) hd fun H1 hz1 hP1 hS1 => ?_
      · have := List.all_eq_true.mp hdf j (List.mem_range.mpr hj)
        exact of_decide_eq_true this
      · rw [← hln]
        have hP2 : va_P D G.cl (wld b bs (cAt tys) h ++ [(H.size, trE b bs (cAt tys) (.inr (o.2.1, dfl o.2.2.2.1)))]) H1 := by
          show va_P D G.cl (wld b bs (cAt tys) h ++ [(H.size, .inr (o.2.1, (dfl o.2.2.2.1).map (vmv b bs)))]) H1
          rw [dfl_map]
          exact hP1
        have := kk _ _ _ _ _ _ hp (hR.push (n := o.2.2.2.1.length) hz hP2 hS1)
        rw [hz]
        exact this
    · cases hw
  case newarray k =>
    cases k
    case int =>
      simp only [okI, dcd, Bool.and_eq_true, decide_eq_true_eq] at hok
      obtain ⟨⟨⟨hd, rfl⟩, rfl⟩, hw⟩ := hok
      split at hw
      · next w _ =>
        simp only [hst, oB] at hp
        split at hp
        · next n r =>
          split at hp
          · cases hp
          · next hn =>
            have hn0 : ¬ n < 0 := fun q => hn (Or.inl q)
            have hn1 : n.toNatClampNeg ≤ 100000 := Decidable.byContradiction fun q => hn (Or.inr q)
            have hg := hgr _ _ hp
            have q1 : h.1 + 1 ≤ x.2.1 := hg.1
            have q2 : h.2.1 + n.toNatClampNeg ≤ x.2.2.1 := hg.2
            have hc1 := hR.2.2.1
            have hc2 := hR.2.2.2.1
            have q3 := hR.2.2.2.2.1
            have q4 := hR.2.2.2.2.2
            refine rw_size fun hu => ?_
            have hz := hR.size hsz hu
            refine rw_newI hx hb (hts _ (wat_spec hw)) hP hS (hK.1.2 0 _ (tys_at gT g0)).2 hn0 (by omega) (by omega) (by omega) hd fun H1 hz1 hP1 hS1 => ?_
            have := kk _ _ _ _ _ _ hp (hR.push (cq := .inl (0, n.toNatClampNeg, .inl (fun _ => 0))) (n := n.toNatClampNeg) hz hP1 hS1)
            rw [hz]
            exact this
        · cases hp
      · cases hw
    all_goals (exact absurd hp (by simp [hst]))
  case anewarray k =>
    simp only [okI, dcd, Bool.and_eq_true, decide_eq_true_eq] at hok
    obtain ⟨⟨⟨hd, rfl⟩, rfl⟩, hw⟩ := hok
    split at hw
    · next C w y _ hC _ =>
      simp only [Bool.and_eq_true] at hw
      obtain ⟨hw1, hw2⟩ := hw
      simp only [hst, oB] at hp
      split at hp
      · next n r =>
        split at hp
        · cases hp
        · next hn =>
          have hn0 : ¬ n < 0 := fun q => hn (Or.inl q)
          have hn1 : n.toNatClampNeg ≤ 100000 := Decidable.byContradiction fun q => hn (Or.inr q)
          have hg := hgr _ _ hp
          have q1 : h.1 + 1 ≤ x.2.1 := hg.1
          have q2 : h.2.1 + n.toNatClampNeg ≤ x.2.2.1 := hg.2
          have hc1 := hR.2.2.1
          have hc2 := hR.2.2.2.1
          have q3 := hR.2.2.2.2.1
          have q4 := hR.2.2.2.2.2
          obtain ⟨kA, comp, r1, r2, r3, r4⟩ := (hK.1.2 o.2.1 _ (tys_at gT hC)).2
          refine rw_size fun hu => ?_
          have hz := hR.size hsz hu
          refine rw_newR hx hb hown (hts _ (wat_spec hw1)) (hK.2.1 _ (xat_spec hw2)) hP hS r4 hn0 (by omega) (by omega) (by omega) hd fun H1 hz1 hP1 hS1 => ?_
          have := kk _ _ _ _ _ _ hp (hR.push (cq := .inl (o.2.1, n.toNatClampNeg, .inr (.inr (.inr (.inr (fun _ => none)))))) (n := n.toNatClampNeg) hz hP1 hS1)
          rw [hz]
          exact this
      · cases hp
    · cases hw
  case multianewarray k n =>
    simp only [okI, dcd, Bool.and_eq_true, decide_eq_true_eq] at hok
    obtain ⟨⟨⟨⟨hd, rfl⟩, rfl⟩, rfl⟩, hw⟩ := hok
    split at hw
    · next w y v _ _ =>
      simp only [Bool.and_eq_true] at hw
      obtain ⟨⟨hw1, hw2⟩, hw3⟩ := hw
      simp only [hst] at hp
      split at hp
      · next kk' nn r =>
        split at hp
        · cases hp
        · next hn =>
          have hn0 : ¬ nn < 0 := fun q => hn (Or.inl q)
          have hk0 : ¬ kk' < 0 := fun q => hn (Or.inr (Or.inl q))
          have hn1 : nn.toNatClampNeg ≤ 1000 := Decidable.byContradiction fun q => hn (Or.inr (Or.inr (Or.inl q)))
          have hk1 : kk'.toNatClampNeg ≤ 1000 := Decidable.byContradiction fun q => hn (Or.inr (Or.inr (Or.inr q)))
          have hg := hgr _ _ hp
          have q1 : h.1 + 1 + nn.toNatClampNeg ≤ x.2.1 := hg.1
          have q2 : h.2.1 + (nn.toNatClampNeg + nn.toNatClampNeg * kk'.toNatClampNeg) ≤ x.2.2.1 := hg.2
          have hc1 := hR.2.2.1
          have hc2 := hR.2.2.2.1
          have q3 := hR.2.2.2.2.1
          have q4 := hR.2.2.2.2.2
          refine rw_size fun hu => ?_
          have hz := hR.size hsz hu
          refine rw_newM hx hb hown (hts _ (wat_spec hw1)) (hK.2.1 _ (xat_spec hw2)) (hts _ (wat_spec hw3)) (hK.1.2 0 _ (tys_at gT g0)).2 (hK.1.2 3 _ (tys_at gT g3)).2 hP hS hn0 hk0 hn1 hk1 (by omega) (by omega) hd fun H1 o1 e1 r1 hP1 hS1 => ?_
          have hSR : SR G D tys b bs s h0 (newM h nn.toNatClampNeg kk'.toNatClampNeg) H1 locs (cells + 1 + nn.toNatClampNeg) (slots + nn.toNatClampNeg + nn.toNatClampNeg * kk'.toNatClampNeg) := by
            refine ⟨fun j q hj => ?_, hS1, ?_, ?_, ?_, ?_⟩
            · have hjl : j < h.1 + 1 + nn.toNatClampNeg := by
                have := (List.getElem?_eq_some_iff.mp hj).1
                simpa [wld, newM] using this
              rw [wld_get (h := newM h nn.toNatClampNeg kk'.toNatClampNeg) hjl] at hj
              cases hj
              by_cases j1 : j < h.1
              · have e9 : (newM h nn.toNatClampNeg kk'.toNatClampNeg).2.2 j = h.2.2 j := by
                  show (if j = h.1 then _ else if h.1 < j ∧ j ≤ h.1 + nn.toNatClampNeg then _ else h.2.2 j) = _
                  rw [if_neg (by omega), if_neg (by omega)]
                rw [e9]
                exact hP1 j _ (wld_get j1)
              · by_cases j2 : j = h.1
                · subst j2
                  have e9 : (newM h nn.toNatClampNeg kk'.toNatClampNeg).2.2 h.1 = .inl (3, nn.toNatClampNeg, .inr (.inr (.inr (.inr (fun i => if i < nn.toNatClampNeg then some (h.1 + 1 + i) else none))))) := by
                    show (if h.1 = h.1 then _ else _) = _
                    rw [if_pos rfl]
                  rw [e9]
                  show H1[b + h.1]? = some (vp_cell _ _)
                  rw [← hz, e1]
                  congr 3
                  refine congrArg (fun f => Sum.inr (Sum.inr (Sum.inr (Sum.inr f)))) (funext fun i => ?_)
                  show (if i < nn.toNatClampNeg then some (H.size + 1 + i) else none) = Option.map (fun x => b + x) (if i < nn.toNatClampNeg then some (h.1 + 1 + i) else none)
                  split
                  · show some (H.size + 1 + i) = some (b + (h.1 + 1 + i))
                    congr 1
                    omega
                  · rfl
                · obtain ⟨i, hi, rfl⟩ : ∃ i, i < nn.toNatClampNeg ∧ j = h.1 + 1 + i := ⟨j - (h.1 + 1), by omega, by omega⟩
                  have e9 : (newM h nn.toNatClampNeg kk'.toNatClampNeg).2.2 (h.1 + 1 + i) = .inl (0, kk'.toNatClampNeg, .inl (fun _ => 0)) := by
                    show (if h.1 + 1 + i = h.1 then _ else if h.1 < h.1 + 1 + i ∧ h.1 + 1 + i ≤ h.1 + nn.toNatClampNeg then _ else h.2.2 (h.1 + 1 + i)) = _
                    rw [if_neg (by omega), if_pos (by omega)]
                  rw [e9]
                  show H1[b + (h.1 + 1 + i)]? = some (vp_cell _ _)
                  rw [show b + (h.1 + 1 + i) = H.size + 1 + i by omega, r1 i hi]
                  rfl
            · show cells + 1 + nn.toNatClampNeg = h.1 + 1 + nn.toNatClampNeg - h0.1
              omega
            · show slots + nn.toNatClampNeg + nn.toNatClampNeg * kk'.toNatClampNeg = h.2.1 + (nn.toNatClampNeg + nn.toNatClampNeg * kk'.toNatClampNeg) - h0.2.1
              omega
            · show h0.1 ≤ h.1 + 1 + nn.toNatClampNeg
              omega
            · show h0.2.1 ≤ h.2.1 + (nn.toNatClampNeg + nn.toNatClampNeg * kk'.toNatClampNeg)
              omega
          have := kk _ _ _ _ _ _ hp hSR
          rw [hz]
          exact this
      · cases hp
    · cases hw
  all_goals (exact absurd hp (by simp [hst]))
end HeapS
