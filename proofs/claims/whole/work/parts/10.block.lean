/-! a block of instructions, walked by the machine -/
section Blk
variable {G : PG} {D : va_G} {tys : List (ClassId × FieldType)} {b bs : Nat} {sc : Nat × (Nat → Int32)} {mi : Nat} {h0 : AH}
variable {p : Program} {l : Launch} {e : Env} {R : Room} {s : State} {m : MethodId} {args : Array Value} {below : List Frame} {meth : Method} {c : Code} {Q : State → Prop}
/-- the callee's place in the tables -/
theorem cle_facts (hM : MOk G) {cl mL n k : Nat} (h : cleOk G cl mL n k = true) : cl < G.nM ∧ (G.M cl).2.2.1 = mL ∧ mL ≤ 21 ∧ (parseMethodDescriptor (G.M cl).1.desc).map (fun d => d.parameters.length) = some n ∧ Cond.code (G.M cl).1 (G.M cl).2.1 (G.M cl).2.2.1 (G.M cl).2.2.2.1 ∈ TS G ∧ Cond.initialized (G.M cl).1.cls ∈ TS G ∧ (G.M cl).1.cls ≠ "java/lang/invoke/MethodHandle" ∧ (G.M cl).1.cls ≠ "java/lang/invoke/VarHandle" := by
  unfold cleOk at h
  simp only [Bool.and_eq_true, decide_eq_true_eq] at h
  obtain ⟨⟨⟨⟨h1, h2⟩, h3⟩, -⟩, h4⟩ := h
  obtain ⟨⟨q, hq⟩, -⟩ := hM cl h1
  unfold okC at hq
  simp only [Bool.and_eq_true, decide_eq_true_eq] at hq
  obtain ⟨⟨⟨⟨⟨q1, q2⟩, -⟩, q3⟩, q4⟩, -⟩ := hq
  exact ⟨h1, h2, h3, h4, wat_spec q1, wat_spec q2, q3, q4⟩
set_option maxHeartbeats 8000000 in
theorem blk_sound (hG : GOK G tys) (hM : MOk G) (hXw : XwOk G) (hF : FC G D tys b bs sc mi p s m args meth c h0) {d : Nat} (hRf : d ≤ R.frames) (hRl : 40 * d ≤ R.locals) {z : Bool} (hz : z = true → 1 ≤ d) {C : Nat → List Value → AH → Option Res} {K : Nat → List Value → List Value → AH → Option Res} {x : Res}
    (hCg : ∀ c as h x, C c as h = some x → Gr h x.2) (hKg : ∀ b ls st h x, K b ls st h = some x → Gr h x.2) (hRc : x.2.1 - h0.1 ≤ R.cells) (hRs : x.2.2.1 - h0.2.1 ≤ R.slots)
    (hC : ∀ (cl : Nat) (as : List Value) (h : AH) (r : Option Value) (h' : AH), cl < G.nM → callE C cl (G.M cl).2.2.1 as h = some (r, h') → ∃ d', d = d' + 1 ∧ MetA G D tys b bs sc l cl as h r h' d')
    (hK : ∀ (bk : Nat) (ls st : List Value) (h : AH), K bk ls st h = some x → ∀ (H : Heap) (locs : List Loc) (cells slots : Nat) (lr : Array Slot), SR G D tys b bs s h0 h H locs cells slots → LR b bs (G.M mi).2.2.1 ls lr → W p l e R s m args below meth c H locs cells slots Q (F0 m (bpc G.M mi bk) lr (st.map (vmv b bs))))
    (hRet : RetOk G D tys b bs mi h0 p l e R s m args below meth c Q x) :
    ∀ (is : List Ins) (ls st : List Value) (h : AH), okL G mi is = true → runL sc z C K is ls st h = some x → ∀ (H : Heap) (locs : List Loc) (cells slots : Nat) (lr : Array Slot), SR G D tys b bs s h0 h H locs cells slots → LR b bs (G.M mi).2.2.1 ls lr → W p l e R s m args below meth c H locs cells slots Q (F0 m (nxt is) lr (st.map (vmv b bs))) := by
  intro is
  induction is with
  | nil => intro ls st h _ hx; cases hx
  | cons a is ih =>
    obtain ⟨pc, len, i, o⟩ := a
    intro ls st h hok hp H locs cells slots lr hR hL
    have hrg : ∀ (ls st : List Value) (h : AH), runL sc z C K is ls st h = some x → Gr h x.2 := fun ls st h q => runL_gr hCg hKg is ls st h x q
    have hF0 := hF
    obtain ⟨hx, hb, hml, hr, hown, hts, hnm, hlk, hKS, hX, hbs, hsz⟩ := hF
    unfold okL at hok
    rw [Bool.and_eq_true] at hok
    obtain ⟨hok, hoks⟩ := hok
    have ih' := fun ls st h q => ih ls st h hoks q
    show W p l e R s m args below meth c H locs cells slots Q (F0 m pc lr (st.map (vmv b bs)))
    -- a call that comes back
    have hcall : ∀ (cl : Nat) (as : List Value) (r : Option Value) (h' : AH) (rest : List Value) (av : Array Value), Gr h h' → runL sc z C K is ls (r.toList ++ rest) h' = some x → nxt is = pc + 3 → va_Run p l e R s m args below meth c H locs cells slots (h'.1 - h.1) (h'.2.1 - h.2.1) (F0 m pc lr (st.map (vmv b bs))) (rest.map (vmv b bs)) (Post D G.cl b bs (cAt tys) r h' av) (fun q => b ≤ q) → W p l e R s m args below meth c H locs cells slots Q (F0 m pc lr (st.map (vmv b bs))) := by
      intro cl as r h' rest av hg hq hn hrun
      refine rw_call hrun hR.2.1 (fun q hq => hq) fun H1 locs1 hP1 hS1 _ => ?_
      rw [toL_map, ← hn]
      exact ih' _ _ _ hq _ _ _ _ _ (hR.called hg hP1 hS1) hL
    have hroom : ∀ (d' : Nat) (r : Option Value) (h' : AH) (mL : Nat), d = d' + 1 → mL ≤ 21 → ({ frames := d', cells := h'.1 - h.1, slots := h'.2.1 - h.2.1, locals := 40 * d' } : Room).frames + 1 ≤ R.frames ∧ 8 + (mL + 11) + ({ frames := d', cells := h'.1 - h.1, slots := h'.2.1 - h.2.1, locals := 40 * d' } : Room).locals ≤ R.locals := by
      intro d' r h' mL hd hm
      constructor
      · show d' + 1 ≤ R.frames
        omega
      · show 8 + (mL + 11) + 40 * d' ≤ R.locals
        omega
    have hfit : ∀ (h' : AH), Gr h h' → Gr h' x.2 → cells + (h'.1 - h.1) ≤ R.cells ∧ slots + (h'.2.1 - h.2.1) ≤ R.slots := by
      intro h' g1 g2
      have a1 := hR.2.2.1
      have a2 := hR.2.2.2.1
      have a3 := hR.2.2.2.2.1
      have a4 := hR.2.2.2.2.2
      have a5 := g1.1
      have a6 := g1.2
      have a7 := g2.1
      have a8 := g2.2
      exact ⟨by omega, by omega⟩
    cases i
    case nop =>
      simp only [okI, decide_eq_true_eq] at hok
      rw [hok]
      exact hK _ _ _ _ hp _ _ _ _ _ hR (hL.msk _)
    case goto off =>
      simp only [okI, dcd, Bool.and_eq_true, decide_eq_true_eq] at hok
      obtain ⟨⟨hd, rfl⟩, ht⟩ := hok
      simp only [runL] at hp
      split at hp
      · next hv =>
        rw [hv] at ht
        simp only [decide_eq_true_eq] at ht
        exact lv_goto hx hb hd ht (ih' _ _ _ hp _ _ _ _ _ hR hL)
      · next hv =>
        split at ht
        · next hv' => exact absurd hv' hv
        · simp only [decide_eq_true_eq] at ht
          exact lv_goto hx hb hd ht (hK _ _ _ _ hp _ _ _ _ _ hR (hL.msk _))
    case ifCond cc off =>
      simp only [okI, dcd, Bool.and_eq_true, decide_eq_true_eq] at hok
      obtain ⟨⟨⟨hd, hn⟩, rfl⟩, ht⟩ := hok
      simp only [runL] at hp
      split at hp
      · next y r =>
        have kt : K o.2.1 (mskN o.2.2.1 ls) r h = some x → W p l e R s m args below meth c H locs cells slots Q (F0 m (bpc G.M mi o.2.1) lr (r.map (vmv b bs))) := fun q => hK _ _ _ _ q _ _ _ _ _ hR (hL.msk _)
        have kf : runL sc z C K is ls r h = some x → W p l e R s m args below meth c H locs cells slots Q (F0 m (pc + 3) lr (r.map (vmv b bs))) := fun q => by rw [← hn]; exact ih' _ _ _ q _ _ _ _ _ hR hL
        cases cc
        · exact lv_if_eq hx hb hd ht (fun q => kt (by rw [icc, if_pos q] at hp; exact hp)) (fun q => kf (by rw [icc, if_neg q] at hp; exact hp))
        · exact lv_if_ne hx hb hd ht (fun q => kt (by rw [icc, if_neg q] at hp; exact hp)) (fun q => kf (by rw [icc, if_pos q] at hp; exact hp))
        · exact lv_if_lt hx hb hd ht (fun q => kt (by rw [icc, if_pos q] at hp; exact hp)) (fun q => kf (by rw [icc, if_neg q] at hp; exact hp))
        · exact lv_if_ge hx hb hd ht (fun q => kt (by rw [icc, if_pos q] at hp; exact hp)) (fun q => kf (by rw [icc, if_neg q] at hp; exact hp))
        · exact lv_if_gt hx hb hd ht (fun q => kt (by rw [icc, if_pos q] at hp; exact hp)) (fun q => kf (by rw [icc, if_neg q] at hp; exact hp))
        · exact lv_if_le hx hb hd ht (fun q => kt (by rw [icc, if_pos q] at hp; exact hp)) (fun q => kf (by rw [icc, if_neg q] at hp; exact hp))
      · cases hp
    case if_icmp cc off =>
      simp only [okI, dcd, Bool.and_eq_true, decide_eq_true_eq] at hok
      obtain ⟨⟨⟨hd, hn⟩, rfl⟩, ht⟩ := hok
      simp only [runL] at hp
      split at hp
      · next y1 y r =>
        have kt : K o.2.1 (mskN o.2.2.1 ls) r h = some x → W p l e R s m args below meth c H locs cells slots Q (F0 m (bpc G.M mi o.2.1) lr (r.map (vmv b bs))) := fun q => hK _ _ _ _ q _ _ _ _ _ hR (hL.msk _)
        have kf : runL sc z C K is ls r h = some x → W p l e R s m args below meth c H locs cells slots Q (F0 m (pc + 3) lr (r.map (vmv b bs))) := fun q => by rw [← hn]; exact ih' _ _ _ q _ _ _ _ _ hR hL
        cases cc
        · exact lv_icmp_eq hx hb hd ht (fun q => kt (by rw [icc, if_pos q] at hp; exact hp)) (fun q => kf (by rw [icc, if_neg q] at hp; exact hp))
        · exact lv_icmp_ne hx hb hd ht (fun q => kt (by rw [icc, if_neg q] at hp; exact hp)) (fun q => kf (by rw [icc, if_pos q] at hp; exact hp))
        · exact lv_icmp_lt hx hb hd ht (fun q => kt (by rw [icc, if_pos q] at hp; exact hp)) (fun q => kf (by rw [icc, if_neg q] at hp; exact hp))
        · exact lv_icmp_ge hx hb hd ht (fun q => kt (by rw [icc, if_pos q] at hp; exact hp)) (fun q => kf (by rw [icc, if_neg q] at hp; exact hp))
        · exact lv_icmp_gt hx hb hd ht (fun q => kt (by rw [icc, if_pos q] at hp; exact hp)) (fun q => kf (by rw [icc, if_neg q] at hp; exact hp))
        · exact lv_icmp_le hx hb hd ht (fun q => kt (by rw [icc, if_pos q] at hp; exact hp)) (fun q => kf (by rw [icc, if_neg q] at hp; exact hp))
      · cases hp
    case tableswitch dflt lo hi offs =>
      simp only [okI, dcd, Bool.and_eq_true, decide_eq_true_eq] at hok
      obtain ⟨⟨⟨⟨hd, ht⟩, hkeys⟩, hhi⟩, htg⟩ := hok
      simp only [runL] at hp
      split at hp
      · next y r =>
        have at' : ∀ (j : Nat) (q : Nat × Nat × Nat), o.2.2.2.1[j]? = some q → (q.1 : Int) = lo + (j : Int) ∧ offs[j]? = some ((bpc G.M mi q.2.1 : Int) - (pc : Int)) := by
          intro j q hq
          have hj : j < o.2.2.2.1.length := (List.getElem?_eq_some_iff.mp hq).1
          have e1 := congrArg (fun l => l[j]?) hkeys
          have e2 := congrArg (fun l => l[j]?) htg
          simp only [List.getElem?_map, hq, List.getElem?_range hj, Option.map_some, Option.some.injEq] at e1 e2
          exact ⟨e1, e2.symm⟩
        rcases tsw_spec hp with ⟨q, hq, hy, hk⟩ | ⟨hno, hk⟩
        · obtain ⟨j, hj⟩ := List.getElem?_of_mem hq
          obtain ⟨e1, e2⟩ := at' j q hj
          have hjl : j < o.2.2.2.1.length := (List.getElem?_eq_some_iff.mp hj).1
          have hyj : y.toInt - lo = (j : Int) := by omega
          exact lv_tableIn hx hb hd (by omega) (by omega) (off := (bpc G.M mi q.2.1 : Int) - (pc : Int)) (tgt := bpc G.M mi q.2.1) (by rw [hyj]; exact e2) (by omega) (hK _ _ _ _ hk _ _ _ _ _ hR (hL.msk _))
        · refine lv_tableOut hx hb hd ?_ ht (hK _ _ _ _ hk _ _ _ _ _ hR (hL.msk _))
          rcases Int.lt_or_le y.toInt lo with hlo | hlo
          · exact Or.inl hlo
          · rcases Int.lt_or_le hi y.toInt with hh | hh
            · exact Or.inr hh
            · exfalso
              have hj : (y.toInt - lo).toNat < o.2.2.2.1.length := by omega
              obtain ⟨e1, -⟩ := at' _ _ (List.getElem?_eq_getElem hj)
              exact hno _ (List.getElem_mem hj) (by omega)
      · cases hp
    case lookupswitch dflt ps =>
      simp only [okI, dcd, Bool.and_eq_true, decide_eq_true_eq] at hok
      obtain ⟨⟨⟨hd, ht⟩, hso⟩, hps⟩ := hok
      simp only [runL] at hp
      split at hp
      · next y r =>
        have key : ∀ (L : List (Nat × Nat × Nat)), swk y.toInt L (fun b' m' => K b' (mskN m' ls) r h) o.2.1 o.2.2.1 = some x → ∃ bk mk, K bk (mskN mk ls) r h = some x ∧ (pc : Int) + Op.lookupswitch.offset (L.map (fun q => ((q.1 : Int), (bpc G.M mi q.2.1 : Int) - (pc : Int)))) dflt y.toInt = (bpc G.M mi bk : Int) := by
          intro L
          induction L with
          | nil => intro q; exact ⟨_, _, q, ht⟩
          | cons q r' ihL =>
            obtain ⟨k1, b1, m1⟩ := q
            intro hq
            unfold swk at hq
            rw [List.map_cons, Op.lookupswitch.offset_cons]
            split at hq
            · next e1 =>
              refine ⟨b1, m1, hq, ?_⟩
              rw [if_pos (by simpa using e1.symm)]
              dsimp only
              omega
            · next e1 =>
              rw [if_neg (by intro q9; exact e1 (by simpa using q9.symm))]
              exact ihL hq
        obtain ⟨bk, mk, hk, htg⟩ := key _ hp
        rw [hps] at htg
        exact lv_lookup hx hb hd hso rfl htg (hK _ _ _ _ hk _ _ _ _ _ hR (hL.msk _))
      · cases hp
    case ireturn =>
      simp only [okI, dcd, Bool.and_eq_true, decide_eq_true_eq] at hok
      obtain ⟨⟨hd, rfl⟩, ht⟩ := hok
      simp only [runL] at hp
      split at hp
      · next v =>
        split at ht
        · next e1 =>
          simp only [decide_eq_true_eq] at ht
          rw [ht] at hp
          simp at hp
          subst hp
          exact hRet.1 _ _ _ _ _ _ v _ rfl e1 rfl hd hR
        · next e1 =>
          simp only [decide_eq_true_eq] at ht
          rw [ht] at hp
          simp at hp
          obtain ⟨hv, hp⟩ := hp
          subst hp
          exact hRet.1 _ _ _ _ _ _ v _ rfl e1 (by rcases hv with rfl | rfl <;> rfl) hd hR
        · cases ht
      · cases hp
    case lreturn =>
      simp only [okI, dcd, Bool.and_eq_true, decide_eq_true_eq] at hok
      obtain ⟨⟨hd, rfl⟩, ht⟩ := hok
      simp only [runL] at hp
      split at hp
      · next v => cases hp; exact hRet.2.1 _ _ _ _ _ _ v rfl ht hd hR
      · cases hp
    case areturn =>
      simp only [okI, dcd, Bool.and_eq_true, decide_eq_true_eq] at hok
      obtain ⟨⟨hd, rfl⟩, ht⟩ := hok
      simp only [runL] at hp
      split at hp
      · next v =>
        cases hp
        split at ht
        · next n e1 => exact hRet.2.2.1 _ _ _ _ _ _ v n rfl e1 hd hR
        · cases ht
      · cases hp
    case return_ =>
      simp only [okI, dcd, Bool.and_eq_true, decide_eq_true_eq] at hok
      obtain ⟨⟨hd, rfl⟩, ht⟩ := hok
      simp only [runL] at hp
      split at hp
      · cases hp; exact hRet.2.2.2 _ _ _ _ _ _ rfl ht hd hR
      · cases hp
    case invokestatic k =>
      simp only [okI, dcd, Bool.and_eq_true, decide_eq_true_eq] at hok
      obtain ⟨⟨⟨hd, hn⟩, rfl⟩, hw⟩ := hok
      split at hw
      · next nst cl mL w v _ hL1 hL2 =>
        simp only [Bool.and_eq_true] at hw
        obtain ⟨⟨hw1, hw2⟩, hw3⟩ := hw
        obtain ⟨f1, f2, f3, f4, f5, f6, f7, f8⟩ := cle_facts hM hw1
        simp only [runL, hL1] at hp
        split at hp
        · next as r hpop =>
          split at hp
          · next hcs =>
            obtain ⟨v', h', hcl, hq⟩ := retK_inv hp
            have hg := callE_gr hCg _ hcl
            rw [← f2] at hcl
            obtain ⟨d', hd', hmet⟩ := hC _ _ _ _ _ f1 hcl
            obtain ⟨hlen, hst⟩ := popN_at hpop
            refine rw_size fun hu => ?_
            refine hcall cl as v' h' r (as.map (vmv b bs)).toArray hg hq hn ?_
            have hstk : (F0 m pc lr (st.map (vmv b bs))).stack = (as.map (vmv b bs)).reverse ++ r.map (vmv b bs) := by
              show st.map (vmv b bs) = _
              rw [hst, List.map_append, List.map_reverse]
            have hlen' : (as.map (vmv b bs)).length = o.2.1 := by rw [List.length_map]; exact hlen
            split at hw3
            · exact va_runS (As := as.map (vmv b bs)) (rest := r.map (vmv b bs)) ⟨hx, hb, hml, hown, hts⟩ hmet ⟨callB_of o.2.1 hts (goodIn_TS f5) rfl rfl rfl (hts _ f6) (hts _ (wat_spec hw3)) ⟨f7, f8, f4⟩ (hroom d' v' h' _ hd' (by rw [f2]; exact f3)), hts _ (wat_spec hw2)⟩ ⟨PreA.blind hXw _ _, hR.pre hF0 hXw hu as⟩ rfl hlen' hL.2.1 hstk (lv_room (by rw [catS_map]; exact hcs)) hd (hfit h' hg (hrg _ _ _ hq))
            · exact va_runSN (As := as.map (vmv b bs)) (rest := r.map (vmv b bs)) ⟨hx, hb, hml, hown, hts⟩ hmet ⟨va_cnB o.2.1 hts (goodIn_TS f5) rfl rfl rfl (hKS.2.1 _ (xat_spec hw3)) (hts _ f6) ⟨f7, f8, f4⟩ (hroom d' v' h' _ hd' (by rw [f2]; exact f3)), hts _ (wat_spec hw2), trivial⟩ ⟨PreA.blind hXw _ _, hR.pre hF0 hXw hu as⟩ rfl hlen' hL.2.1 hstk (lv_room (by rw [catS_map]; exact hcs)) hd (hfit h' hg (hrg _ _ _ hq))
          · cases hp
        · cases hp
      · next w v u t _ hL1 hL2 =>
        simp only [runL, hL1] at hp
        split at hp
        · next hz1 =>
          have hd1 := hz hz1
          have hsz1 : c.maxLocals = lr.size := by rw [hml]; exact hL.2.1.symm
          have hgx := intr_gr (fun _ _ => hrg _ _ _) hp
          have hfx := hfit h Gr.rf hgx
          have hc0 : cells ≤ R.cells := by omega
          have hs0 : slots ≤ R.slots := by omega
          split at hw
          · next e1 =>
            simp only [Bool.and_eq_true] at hw
            rw [e1] at hp
            simp only [intr] at hp
            split at hp
            · next y1 y r =>
              split at hp
              · next hcs => exact va_mmin hx hb hsz1 hown (hts _ (wat_spec hw.1.1.1)) (hts _ (wat_spec hw.1.1.2)) (hts _ (wat_spec hw.1.2)) (hts _ (wat_spec hw.2)) (by omega) (by rw [catS_map]; omega) hc0 hs0 hd (by rw [← hn]; exact ih' _ _ _ hp _ _ _ _ _ hR hL)
              · cases hp
            · cases hp
          · next e1 =>
            simp only [Bool.and_eq_true] at hw
            rw [e1] at hp
            simp only [intr] at hp
            split at hp
            · next y1 y r =>
              split at hp
              · next hcs => exact va_mmax hx hb hsz1 hown (hts _ (wat_spec hw.1.1.1)) (hts _ (wat_spec hw.1.1.2)) (hts _ (wat_spec hw.1.2)) (hts _ (wat_spec hw.2)) (by omega) (by rw [catS_map]; omega) hc0 hs0 hd (by rw [← hn]; exact ih' _ _ _ hp _ _ _ _ _ hR hL)
              · cases hp
            · cases hp
          · next e1 =>
            simp only [Bool.and_eq_true] at hw
            rw [e1] at hp
            simp only [intr] at hp
            split at hp
            · next y1 y r =>
              split at hp
              · next hcs => exact va_mmax_long hx hb hsz1 hown (hts _ (wat_spec hw.1.1.1)) (hts _ (wat_spec hw.1.1.2)) (hts _ (wat_spec hw.1.2)) (hts _ (wat_spec hw.2)) (by omega) (by rw [catS_map]; omega) hc0 hs0 hd (by rw [← hn]; exact ih' _ _ _ hp _ _ _ _ _ hR hL)
              · cases hp
            · cases hp
          · next e1 =>
            simp only [Bool.and_eq_true] at hw
            rw [e1] at hp
            simp only [intr] at hp
            split at hp
            · next nn dp dd sp ss r =>
              split at hp
              · next hcs =>
                obtain ⟨h2, hcp, hp⟩ := oB_inv hp
                obtain ⟨n0, f, n1, g, q1, q2, q3, q4, q5, q6, q7, rfl⟩ := cpA_set hcp
                have hnf : nativeFrameWords "java/lang/System" "arraycopy" 5 ≤ 19 := by decide
                refine va_copyi hx hb hsz1 hown (hts _ (wat_spec hw.1.1.1)) (hts _ (wat_spec hw.2)) (hts _ (wat_spec hw.1.1.2)) (hts _ (wat_spec hw.1.2)) hKS.1 hR.1 wld_D hR.2.1 ss dd 0 0 (wld_at q1) (wld_at q2) (tys_at hG.2.1 hG.2.2.1) (tys_at hG.2.1 hG.2.2.1) rfl q3 q4 q5 q6 q7 (fun _ _ => rfl) (by omega) (by rw [catS_map]; omega) hd fun H1 locs1 hP1 _ hS1 => ?_
                rw [← hn]
                exact ih' _ _ _ hp _ _ _ _ _ (hR.put (cq := .inl (0, n1, .inl (va_cpy f g sp.toNatClampNeg dp.toNatClampNeg nn.toNatClampNeg))) hP1 hS1) hL
              · cases hp
            · cases hp
          · cases hw
        · cases hp
      · cases hw
    case invokevirtual k =>
      simp only [okI, dcd, Bool.and_eq_true, decide_eq_true_eq] at hok
      obtain ⟨⟨⟨hd, hn⟩, rfl⟩, hw⟩ := hok
      simp only [runL] at hp
      split at hp
      · next as q r hpop =>
        split at hp
        · next hcs =>
          obtain ⟨ci, ⟨cl, mL⟩, hci, hlook, hp⟩ := vdis_inv hp
          obtain ⟨v', h', hcl, hq⟩ := retK_inv hp
          obtain ⟨hlen, hst⟩ := popN_at hpop
          obtain ⟨fv, hfv⟩ := clsOf_get hci
          have hg := callE_gr hCg _ hcl
          have hlen' : (as.map (vmv b bs)).length = o.2.1 := by rw [List.length_map]; exact hlen
          have hstk : (F0 m pc lr (st.map (vmv b bs))).stack = (as.map (vmv b bs)).reverse ++ .ref (b + q) :: r.map (vmv b bs) := by
            show st.map (vmv b bs) = _
            rw [hst, List.map_append, List.map_reverse]
            rfl
          refine rw_size fun hu => ?_
          refine hcall cl as v' h' r ((.ref q :: as).map (vmv b bs)).toArray hg hq hn ?_
          split at hw
          · next w v u _ =>
            split at hw
            · next ci' cl' mL' hL1 =>
              simp only [Bool.and_eq_true, decide_eq_true_eq] at hw
              obtain ⟨⟨⟨⟨⟨w0, w1⟩, w2⟩, w3⟩, w4⟩, w5⟩ := hw
              rw [hL1] at hlook
              unfold look at hlook
              split at hlook
              · next hce =>
                cases hlook
                have hce' : ci' = ci := hce
                subst hce'
                obtain ⟨f1, f2, f3, f4, f5, f6, f7, f8⟩ := cle_facts hM w1
                rw [← f2] at hcl
                obtain ⟨d', hd', hmet⟩ := hC _ _ _ _ _ f1 hcl
                exact va_runV (C := (clN G.cl ci').1) (As := as.map (vmv b bs)) (rest := r.map (vmv b bs)) ⟨hx, hb, hml, hown, hts⟩ hmet ⟨callB_of o.2.1 hts (goodIn_TS f5) rfl rfl rfl (hts _ f6) (hts _ (wat_spec w3)) ⟨f7, f8, f4⟩ (hroom d' v' h' _ hd' (by rw [f2]; exact f3)), hts _ (wat_spec w4), hts _ (wat_spec w5)⟩ ⟨PreA.blind hXw _ _, va_recv hKS.1 hR.1 (clN_at w0) (wld_at hfv), hR.pre hF0 hXw hu (.ref q :: as)⟩ rfl hlen' hL.2.1 hstk (lv_room (by rw [catS_map]; exact hcs)) hd (hfit h' hg (hrg _ _ _ hq))
              · cases hlook
            · cases hw
          · next w sm ix xm ws _ =>
            simp only [Bool.and_eq_true, decide_eq_true_eq] at hw
            obtain ⟨⟨⟨⟨⟨w0, w1⟩, w2⟩, w3⟩, w4⟩, w5⟩ := hw
            have hpoly : ∀ (L : List (Nat × Nat × Nat)) (ws : List Nat), polyOk G xm o.2.1 o.2.2.1 L ws = true → look L ci = some (cl, mL) → ci < G.cl.length ∧ cleOk G cl mL o.2.1 o.2.2.1 = true ∧ Cond.selects (clN G.cl ci).1 (G.M xm).1 (G.M cl).1 ∈ TS G ∧ Cond.instanceMethod (G.M cl).1 ∈ TS G := by
              intro L
              induction L with
              | nil => intro ws _ hl; cases hl
              | cons a r' ihL =>
                intro ws hw hl
                obtain ⟨c1, c2, c3⟩ := a
                match ws, hw with
                | a1 :: b1 :: ws, hw =>
                  simp only [polyOk, Bool.and_eq_true, decide_eq_true_eq] at hw
                  obtain ⟨⟨⟨⟨u0, u1⟩, u2⟩, u3⟩, u4⟩ := hw
                  unfold look at hl
                  split at hl
                  · next hce =>
                    cases hl
                    have hce' : c1 = ci := hce
                    subst hce'
                    exact ⟨u0, u1, wat_spec u2, wat_spec u3⟩
                  · exact ihL ws u4 hl
                | [], hw => simp [polyOk] at hw
                | [_], hw => simp [polyOk] at hw
            obtain ⟨u0, u1, u2, u3⟩ := hpoly _ _ w5 hlook
            obtain ⟨f1, f2, f3, f4, f5, f6, f7, f8⟩ := cle_facts hM u1
            obtain ⟨⟨qx, hqx⟩, -⟩ := hM xm w0
            unfold okC at hqx
            simp only [Bool.and_eq_true, decide_eq_true_eq] at hqx
            obtain ⟨⟨⟨⟨⟨x1, x2⟩, -⟩, x3⟩, x4⟩, -⟩ := hqx
            rw [← f2] at hcl
            obtain ⟨d', hd', hmet⟩ := hC _ _ _ _ _ f1 hcl
            have hGo : GoodIn (TS G) (va_wsO (G.M mi).1.cls k (clN G.cl ci).1 (G.M xm).1.cls (G.M xm).1 (G.M cl).1 (.code (G.M cl).1 (G.M cl).2.1 (G.M cl).2.2.1 (G.M cl).2.2.2.1 :: TS G)) := by
              intro v9 hv9
              have hm9 : v9 ∈ TS G := by
                unfold va_wsO at hv9
                rcases List.mem_append.mp hv9 with h9 | h9
                · simp only [List.mem_cons, List.not_mem_nil, or_false] at h9
                  rcases h9 with rfl | rfl | rfl | rfl | rfl | rfl
                  · exact wat_spec w2
                  · exact wat_spec w3
                  · exact wat_spec w4
                  · exact u2
                  · exact u3
                  · exact f6
                · rcases List.mem_cons.mp h9 with rfl | h9
                  · exact f5
                  · exact h9
              exact ⟨hm9, good_of_word (good_TS hm9)⟩
            exact va_runU (C := (clN G.cl ci).1) (As := as.map (vmv b bs)) (rest := r.map (vmv b bs)) ⟨hx, hb, hml, hown, hts⟩ hmet (va_cwO o.2.1 hts hGo rfl rfl rfl (wat_spec x1) ⟨x3, x4, w1⟩ (hroom d' v' h' _ hd' (by rw [f2]; exact f3))) ⟨PreA.blind hXw _ _, va_recv hKS.1 hR.1 (clN_at u0) (wld_at hfv), hR.pre hF0 hXw hu (.ref q :: as)⟩ rfl hlen' hL.2.1 hstk (lv_room (by rw [catS_map]; exact hcs)) hd (hfit h' hg (hrg _ _ _ hq))
          · cases hw
        · cases hp
      · cases hp
    case invokespecial k =>
      simp only [okI, dcd, Bool.and_eq_true, decide_eq_true_eq] at hok
      obtain ⟨⟨⟨hd, hn⟩, rfl⟩, hw⟩ := hok
      simp only [runL] at hp
      split at hp
      · next as q r hpop =>
        split at hp
        · next hcs =>
          obtain ⟨hlen, hst⟩ := popN_at hpop
          have hlen' : (as.map (vmv b bs)).length = o.2.1 := by rw [List.length_map]; exact hlen
          have hstk : (F0 m pc lr (st.map (vmv b bs))).stack = (as.map (vmv b bs)).reverse ++ .ref (b + q) :: r.map (vmv b bs) := by
            show st.map (vmv b bs) = _
            rw [hst, List.map_append, List.map_reverse]
            rfl
          split at hw
          · next ks cl mL w v ws hL1 hL2 =>
            rw [hL1] at hp
            dsimp only at hp
            obtain ⟨ci, hci, hp⟩ := oB_inv hp
            · obtain ⟨v', h', hcl, hq⟩ := retK_inv hp
              obtain ⟨fv, hfv⟩ := clsOf_get hci
              have hg := callE_gr hCg _ hcl
              simp only [Bool.and_eq_true] at hw
              obtain ⟨⟨w1, w2⟩, w3⟩ := hw
              obtain ⟨f1, f2, f3, f4, f5, f6, f7, f8⟩ := cle_facts hM w1
              rw [← f2] at hcl
              obtain ⟨d', hd', hmet⟩ := hC _ _ _ _ _ f1 hcl
              refine rw_size fun hu => ?_
              refine hcall cl as v' h' r ((.ref q :: as).map (vmv b bs)).toArray hg hq hn ?_
              have hrm := hroom d' v' h' (G.M cl).2.2.1 hd' (by rw [f2]; exact f3)
              unfold MetA at hmet
              split at w3
              · simp only [Bool.and_eq_true, decide_eq_true_eq] at w3
                obtain ⟨⟨y1, y2⟩, y3⟩ := w3
                rw [y2] at hmet f5
                exact va_runI (As := as.map (vmv b bs)) (rest := r.map (vmv b bs)) ⟨hx, hb, hml, hown, hts⟩ hmet ⟨callB_of o.2.1 hts (goodIn_TS f5) rfl rfl rfl (hts _ f6) (hts _ (wat_spec y3)) ⟨f7, f8, f4⟩ hrm, y1, hts _ (wat_spec w2)⟩ ⟨PreA.blind hXw _ _, hR.pre hF0 hXw hu (.ref q :: as)⟩ rfl hlen' hL.2.1 hstk (lv_room (by rw [catS_map]; exact hcs)) hd (hfit h' hg (hrg _ _ _ hq))
              · simp only [Bool.and_eq_true, decide_eq_true_eq] at w3
                obtain ⟨⟨y1, y2⟩, y3⟩ := w3
                rw [y2] at hmet f5
                exact va_runIN (As := as.map (vmv b bs)) (rest := r.map (vmv b bs)) ⟨hx, hb, hml, hown, hts⟩ hmet ⟨va_cnB o.2.1 hts (goodIn_TS f5) rfl rfl rfl (hKS.2.1 _ (xat_spec y3)) (hts _ f6) ⟨f7, f8, f4⟩ hrm, y1, hts _ (wat_spec w2)⟩ ⟨PreA.blind hXw _ _, hR.pre hF0 hXw hu (.ref q :: as)⟩ rfl hlen' hL.2.1 hstk (lv_room (by rw [catS_map]; exact hcs)) hd (hfit h' hg (hrg _ _ _ hq))
              · split at w3
                · next a1 b1 =>
                  simp only [Bool.and_eq_true, decide_eq_true_eq] at w3
                  obtain ⟨⟨⟨y1, y2⟩, y3⟩, y4⟩ := w3
                  have hcl9 : ci < G.cl.length := by
                    obtain ⟨r9, h9, -⟩ := hR.1 q _ (wld_at hfv)
                    exact (List.getElem?_eq_some_iff.mp h9).1
                  have hGo : GoodIn (TS G) (va_wsSU (G.M mi).1.cls k (G.M cl).1 (.code (G.M cl).1 (G.M cl).2.1 (G.M cl).2.2.1 (G.M cl).2.2.2.1 :: TS G)) := by
                    intro v9 hv9
                    have hm9 : v9 ∈ TS G := by
                      unfold va_wsSU at hv9
                      rcases List.mem_append.mp hv9 with h9 | h9
                      · simp only [List.mem_cons, List.not_mem_nil, or_false] at h9
                        rcases h9 with rfl | rfl | rfl | rfl | rfl
                        · exact wat_spec y2
                        · exact wat_spec y3
                        · exact wat_spec y4
                        · exact wat_spec w2
                        · exact f6
                      · rcases List.mem_cons.mp h9 with rfl | h9
                        · exact f5
                        · exact h9
                    exact ⟨hm9, good_of_word (good_TS hm9)⟩
                  exact va_runSU (C := (clN G.cl ci).1) (As := as.map (vmv b bs)) (rest := r.map (vmv b bs)) (hKS.1.1 _ _ (clN_at hcl9)).2 ⟨hx, hb, hml, hown, hts⟩ hmet (va_cwSU o.2.1 hts hGo rfl rfl rfl ⟨y1, f4⟩ hrm) ⟨PreA.blind hXw _ _, va_recv hKS.1 hR.1 (clN_at hcl9) (wld_at hfv), hR.pre hF0 hXw hu (.ref q :: as)⟩ rfl hlen' hL.2.1 hstk (lv_room (by rw [catS_map]; exact hcs)) hd (hfit h' hg (hrg _ _ _ hq))
                · cases w3
          · next w v u _ hL1 hL2 =>
            rw [hL1] at hp
            dsimp only at hp
            split at hp
            · next hz1 =>
              have hd1 := hz hz1
              simp only [Bool.and_eq_true, decide_eq_true_eq] at hw
              obtain ⟨⟨⟨w0, w1⟩, w2⟩, w3⟩ := hw
              have has : as = [] := List.eq_nil_of_length_eq_zero (hlen.trans w0)
              subst has
              refine W.objInit hx hb hown (hts _ (wat_spec w1)) (hts _ (wat_spec w2)) (hts _ (wat_spec w3)) rfl (by rw [hml]; exact hL.2.1) (a := b + q) (rest := r.map (vmv b bs)) hstk hd (by omega) ?_ ?_
              · have hro := lv_room (m := m) (pc := pc) (ls := lr) (rest := st.map (vmv b bs)) (st := r.map (vmv b bs)) (by rw [catS_map]; exact hcs)
                omega
              · have := ih' _ _ _ hp _ _ _ _ _ hR hL
                rw [hn] at this
                exact this
            · cases hp
          · cases hw
        · cases hp
      · cases hp
    case idiv => exact hst_sound (z := z) hG hF0 hok hp hR (fun _ _ => hrg _ _ _) hRc hRs (fun _ _ _ _ _ _ q hR' => ih' _ _ _ q _ _ _ _ _ hR' hL)
    case irem => exact hst_sound (z := z) hG hF0 hok hp hR (fun _ _ => hrg _ _ _) hRc hRs (fun _ _ _ _ _ _ q hR' => ih' _ _ _ q _ _ _ _ _ hR' hL)
    case ldiv => exact hst_sound (z := z) hG hF0 hok hp hR (fun _ _ => hrg _ _ _) hRc hRs (fun _ _ _ _ _ _ q hR' => ih' _ _ _ q _ _ _ _ _ hR' hL)
    case lrem => exact hst_sound (z := z) hG hF0 hok hp hR (fun _ _ => hrg _ _ _) hRc hRs (fun _ _ _ _ _ _ q hR' => ih' _ _ _ q _ _ _ _ _ hR' hL)
    case getfield k => exact hst_sound (z := z) hG hF0 hok hp hR (fun _ _ => hrg _ _ _) hRc hRs (fun _ _ _ _ _ _ q hR' => ih' _ _ _ q _ _ _ _ _ hR' hL)
    case putfield k => exact hst_sound (z := z) hG hF0 hok hp hR (fun _ _ => hrg _ _ _) hRc hRs (fun _ _ _ _ _ _ q hR' => ih' _ _ _ q _ _ _ _ _ hR' hL)
    case iaload => exact hst_sound (z := z) hG hF0 hok hp hR (fun _ _ => hrg _ _ _) hRc hRs (fun _ _ _ _ _ _ q hR' => ih' _ _ _ q _ _ _ _ _ hR' hL)
    case iastore => exact hst_sound (z := z) hG hF0 hok hp hR (fun _ _ => hrg _ _ _) hRc hRs (fun _ _ _ _ _ _ q hR' => ih' _ _ _ q _ _ _ _ _ hR' hL)
    case aaload => exact hst_sound (z := z) hG hF0 hok hp hR (fun _ _ => hrg _ _ _) hRc hRs (fun _ _ _ _ _ _ q hR' => ih' _ _ _ q _ _ _ _ _ hR' hL)
    case aastore => exact hst_sound (z := z) hG hF0 hok hp hR (fun _ _ => hrg _ _ _) hRc hRs (fun _ _ _ _ _ _ q hR' => ih' _ _ _ q _ _ _ _ _ hR' hL)
    case arraylength => exact hst_sound (z := z) hG hF0 hok hp hR (fun _ _ => hrg _ _ _) hRc hRs (fun _ _ _ _ _ _ q hR' => ih' _ _ _ q _ _ _ _ _ hR' hL)
    case instanceof k => exact hst_sound (z := z) hG hF0 hok hp hR (fun _ _ => hrg _ _ _) hRc hRs (fun _ _ _ _ _ _ q hR' => ih' _ _ _ q _ _ _ _ _ hR' hL)
    case new k => exact hst_sound (z := z) hG hF0 hok hp hR (fun _ _ => hrg _ _ _) hRc hRs (fun _ _ _ _ _ _ q hR' => ih' _ _ _ q _ _ _ _ _ hR' hL)
    case newarray k => exact hst_sound (z := z) hG hF0 hok hp hR (fun _ _ => hrg _ _ _) hRc hRs (fun _ _ _ _ _ _ q hR' => ih' _ _ _ q _ _ _ _ _ hR' hL)
    case anewarray k => exact hst_sound (z := z) hG hF0 hok hp hR (fun _ _ => hrg _ _ _) hRc hRs (fun _ _ _ _ _ _ q hR' => ih' _ _ _ q _ _ _ _ _ hR' hL)
    case multianewarray k n => exact hst_sound (z := z) hG hF0 hok hp hR (fun _ _ => hrg _ _ _) hRc hRs (fun _ _ _ _ _ _ q hR' => ih' _ _ _ q _ _ _ _ _ hR' hL)
    all_goals (
      simp only [runL] at hp
      split at hp
      · next ls' st' hps => exact pst_sound hF0 hok hps hL (fun lr' hL' => ih' _ _ _ hp _ _ _ _ _ hR hL')
      · cases hp)
end Blk
