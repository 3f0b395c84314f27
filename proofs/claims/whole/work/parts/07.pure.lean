/-! the machine does what the abstract one says: locals and stack -/
/-- the words that go along -/
def TS (G : PG) : List Cond := G.T0.filter goodWord
/-- what is known of the state: classes, nest words, pairs that don't cast -/
def KS (G : PG) (D : va_G) (tys : List (ClassId × FieldType)) (U : State) : Prop := va_K D G.cl tys U ∧ (∀ w ∈ G.xw, va_Nw w U) ∧ (∀ q ∈ G.nc, va_Nc q.1 q.2 U)
/-- a method's frame: the machine, its code, the tables' words, the state at its start -/
def FC (G : PG) (D : va_G) (tys : List (ClassId × FieldType)) (b bs : Nat) (sc : Nat × (Nat → Int32)) (mi : Nat) (p : Program) (s : State) (m : MethodId) (args : Array Value) (meth : Method) (c : Code) (h0 : AH) : Prop :=
  p.tables.exec = Jvm.exec ∧ c.code = (G.M mi).2.1 ∧ c.maxLocals = (G.M mi).2.2.1 ∧ meth.sig.returnType = (G.M mi).2.2.2.1 ∧ s.vm.findClass (G.M mi).1.cls = some m.cls ∧ (∀ w ∈ TS G, w.before args s = true) ∧ ((G.M mi).1.name = "<init>" → meth.name = "<init>") ∧ meth.locks = false ∧ KS G D tys s ∧ va_X bs sc.1 sc.2 s s.heap ∧ bs < b ∧ s.heap.size = b + h0.1
section Pure
variable {G : PG} {D : va_G} {tys : List (ClassId × FieldType)} {b bs : Nat} {sc : Nat × (Nat → Int32)} {mi : Nat} {h0 : AH}
variable {p : Program} {l : Launch} {e : Env} {R : Room} {s : State} {m : MethodId} {args : Array Value} {below : List Frame} {meth : Method} {c : Code} {H : Heap} {locs : List Loc} {cells slots : Nat} {Q : State → Prop}
set_option maxHeartbeats 4000000 in
theorem pst_sound (hF : FC G D tys b bs sc mi p s m args meth c h0) {pc len nx : Nat} {i : Instr} {o : Opd} {ls st ls' st' : List Value} {lr : Array Slot} (hok : okI G mi pc len i o nx = true) (hp : pst i o ls st = some (ls', st')) (hL : LR b bs (G.M mi).2.2.1 ls lr)
    (kk : ∀ lr', LR b bs (G.M mi).2.2.1 ls' lr' → W p l e R s m args below meth c H locs cells slots Q (F0 m nx lr' (st'.map (vmv b bs)))) : W p l e R s m args below meth c H locs cells slots Q (F0 m pc lr (st.map (vmv b bs))) := by
  obtain ⟨hx, hb, hml, hr, hown, hts, hnm, hlk, hK, hX, hbs, hsz⟩ := hF
  cases i
  case iconst n =>
    simp only [okI, dcd, Bool.and_eq_true, decide_eq_true_eq] at hok
    obtain ⟨⟨⟨hd, rfl⟩, rfl⟩, hv⟩ := hok
    cases hp
    exact lv_iconst hx hb hd rfl (by rw [hv] at kk; exact kk _ hL)
  case bipush n =>
    simp only [okI, dcd, Bool.and_eq_true, decide_eq_true_eq] at hok
    obtain ⟨⟨⟨hd, rfl⟩, rfl⟩, hv⟩ := hok
    cases hp
    exact lv_bipush hx hb hd rfl (by rw [hv] at kk; exact kk _ hL)
  case sipush n =>
    simp only [okI, dcd, Bool.and_eq_true, decide_eq_true_eq] at hok
    obtain ⟨⟨⟨hd, rfl⟩, rfl⟩, hv⟩ := hok
    cases hp
    exact lv_sipush hx hb hd rfl (by rw [hv] at kk; exact kk _ hL)
  case lconst n =>
    simp only [okI, dcd, Bool.and_eq_true, decide_eq_true_eq] at hok
    obtain ⟨⟨⟨hd, rfl⟩, rfl⟩, hv⟩ := hok
    cases hp
    exact lv_lconst hx hb hd rfl (by rw [hv] at kk; exact kk _ hL)
  case ldc n =>
    simp only [okI, dcd, Bool.and_eq_true, decide_eq_true_eq] at hok
    obtain ⟨⟨⟨hd, rfl⟩, rfl⟩, hw⟩ := hok
    cases hp
    split at hw
    · next v w _ hv _ => exact lv_ldc hx hb hown (hts _ (wat_spec hw)) hd (by rw [hv] at kk; exact kk _ hL)
    · cases hw
  case ldc_w n =>
    simp only [okI, dcd, Bool.and_eq_true, decide_eq_true_eq] at hok
    obtain ⟨⟨⟨hd, rfl⟩, rfl⟩, hw⟩ := hok
    cases hp
    split at hw
    · next v w _ hv _ => exact lv_ldcw hx hb hown (hts _ (wat_spec hw)) hd (by rw [hv] at kk; exact kk _ hL)
    · cases hw
  case ldc2_w n =>
    simp only [okI, dcd, Bool.and_eq_true, decide_eq_true_eq] at hok
    obtain ⟨⟨⟨hd, rfl⟩, rfl⟩, hw⟩ := hok
    cases hp
    split at hw
    · next v w _ hv _ => exact lv_ldc2 hx hb hown (hts _ (wat_spec hw)) hd (by rw [hv] at kk; exact kk _ hL)
    · cases hw
  case iload_n n =>
    simp only [okI, dcd, Bool.and_eq_true, decide_eq_true_eq] at hok
    obtain ⟨⟨⟨hd, rfl⟩, rfl⟩, hv⟩ := hok
    simp only [pst] at hp
    split at hp
    · next x hx1 => cases hp; exact lv_iload_n hx hb hd hv (hL.at hx1 rfl) (kk _ hL)
    · cases hp
  case iload n =>
    simp only [okI, dcd, Bool.and_eq_true, decide_eq_true_eq] at hok
    obtain ⟨⟨⟨hd, rfl⟩, rfl⟩, hv⟩ := hok
    simp only [pst] at hp
    split at hp
    · next x hx1 => cases hp; exact lv_iload hx hb hd (by rw [hv]; exact hL.at hx1 rfl) (kk _ hL)
    · cases hp
  case lload_n n =>
    simp only [okI, dcd, Bool.and_eq_true, decide_eq_true_eq] at hok
    obtain ⟨⟨⟨hd, rfl⟩, rfl⟩, hv⟩ := hok
    simp only [pst] at hp
    split at hp
    · next x hx1 => cases hp; exact lv_lload_n hx hb hd hv (hL.at hx1 rfl) (kk _ hL)
    · cases hp
  case lload n =>
    simp only [okI, dcd, Bool.and_eq_true, decide_eq_true_eq] at hok
    obtain ⟨⟨⟨hd, rfl⟩, rfl⟩, hv⟩ := hok
    simp only [pst] at hp
    split at hp
    · next x hx1 => cases hp; exact lv_lload hx hb hd (by rw [hv]; exact hL.at hx1 rfl) (kk _ hL)
    · cases hp
  case aload_n n =>
    simp only [okI, dcd, Bool.and_eq_true, decide_eq_true_eq] at hok
    obtain ⟨⟨⟨hd, rfl⟩, rfl⟩, hv⟩ := hok
    simp only [pst] at hp
    split at hp
    · next x hx1 => cases hp; exact lv_aload_n hx hb hd hv (hL.at hx1 rfl) (kk _ hL)
    · next x hx1 => cases hp; exact lv_aload_n hx hb hd hv (hL.at hx1 rfl) (kk _ hL)
    · cases hp
  case aload n =>
    simp only [okI, dcd, Bool.and_eq_true, decide_eq_true_eq] at hok
    obtain ⟨⟨⟨hd, rfl⟩, rfl⟩, hv⟩ := hok
    simp only [pst] at hp
    split at hp
    · next x hx1 => cases hp; exact lv_aload hx hb hd (by rw [hv]; exact hL.at hx1 rfl) (kk _ hL)
    · next x hx1 => cases hp; exact lv_aload hx hb hd (by rw [hv]; exact hL.at hx1 rfl) (kk _ hL)
    · cases hp
  case istore_n n =>
    simp only [okI, dcd, Bool.and_eq_true, decide_eq_true_eq] at hok
    obtain ⟨⟨⟨hd, rfl⟩, rfl⟩, hv⟩ := hok
    simp only [pst] at hp
    split at hp
    · split at hp
      · next hs => cases hp; exact lv_istore_n hx hb hd hv hL.2 (by rw [← hL.1]; exact (st1_len hs).1) rfl (fun lr' h' => kk lr' (hL.st1 hs h'))
      · cases hp
    · cases hp
  case istore n =>
    simp only [okI, dcd, Bool.and_eq_true, decide_eq_true_eq] at hok
    obtain ⟨⟨⟨hd, rfl⟩, rfl⟩, hv⟩ := hok
    subst hv
    simp only [pst] at hp
    split at hp
    · split at hp
      · next hs => cases hp; exact lv_istore hx hb hd hL.2 (by rw [← hL.1]; exact (st1_len hs).1) rfl (fun lr' h' => kk lr' (hL.st1 hs h'))
      · cases hp
    · cases hp
  case astore_n n =>
    simp only [okI, dcd, Bool.and_eq_true, decide_eq_true_eq] at hok
    obtain ⟨⟨⟨hd, rfl⟩, rfl⟩, hv⟩ := hok
    simp only [pst] at hp
    split at hp
    · split at hp
      · next hs => cases hp; exact lv_astore_n hx hb hd hv hL.2 (by rw [← hL.1]; exact (st1_len hs).1) rfl (fun lr' h' => kk lr' (hL.st1 hs h'))
      · cases hp
    · cases hp
  case astore n =>
    simp only [okI, dcd, Bool.and_eq_true, decide_eq_true_eq] at hok
    obtain ⟨⟨⟨hd, rfl⟩, rfl⟩, hv⟩ := hok
    subst hv
    simp only [pst] at hp
    split at hp
    · split at hp
      · next hs => cases hp; exact lv_astore hx hb hd hL.2 (by rw [← hL.1]; exact (st1_len hs).1) rfl (fun lr' h' => kk lr' (hL.st1 hs h'))
      · cases hp
    · cases hp
  case lstore_n n =>
    simp only [okI, dcd, Bool.and_eq_true, decide_eq_true_eq] at hok
    obtain ⟨⟨⟨hd, rfl⟩, rfl⟩, hv⟩ := hok
    simp only [pst] at hp
    split at hp
    · split at hp
      · next hs => cases hp; exact lv_lstore_n hx hb hd hv hL.2 (by rw [← hL.1]; exact (st2_len hs).1) rfl (fun lr' h' => kk lr' (hL.st2 hs h'))
      · cases hp
    · cases hp
  case lstore n =>
    simp only [okI, dcd, Bool.and_eq_true, decide_eq_true_eq] at hok
    obtain ⟨⟨⟨hd, rfl⟩, rfl⟩, hv⟩ := hok
    subst hv
    simp only [pst] at hp
    split at hp
    · split at hp
      · next hs => cases hp; exact lv_lstore hx hb hd hL.2 (by rw [← hL.1]; exact (st2_len hs).1) rfl (fun lr' h' => kk lr' (hL.st2 hs h'))
      · cases hp
    · cases hp
  case iinc k n =>
    simp only [okI, dcd, Bool.and_eq_true, decide_eq_true_eq] at hok
    obtain ⟨⟨⟨⟨hd, rfl⟩, rfl⟩, hv⟩, ho⟩ := hok
    subst hv
    simp only [pst] at hp
    split at hp
    · next x hx1 =>
      rw [ho] at hp
      dsimp only at hp
      split at hp
      · next hs =>
        cases hp
        obtain ⟨q, hq⟩ := List.getElem?_of_mem (prs_mem.mpr ⟨_, hx1, rfl, rfl⟩ : (o.2.1, vmv b bs (.int x)) ∈ prs b bs ls)
        exact lv_iinc hx hb hd hL.2 hq rfl (by rw [← hL.1]; exact (st1_len hs).1) rfl (fun lr' h' => kk lr' (hL.st1 hs h'))
      · cases hp
    · cases hp
  case iadd =>
    simp only [okI, dcd, Bool.and_eq_true, decide_eq_true_eq] at hok
    obtain ⟨⟨hd, rfl⟩, rfl⟩ := hok
    simp only [pst] at hp
    split at hp
    · cases hp; exact lv_iadd hx hb hd (kk _ hL)
    · cases hp
  case isub =>
    simp only [okI, dcd, Bool.and_eq_true, decide_eq_true_eq] at hok
    obtain ⟨⟨hd, rfl⟩, rfl⟩ := hok
    simp only [pst] at hp
    split at hp
    · cases hp; exact lv_isub hx hb hd (kk _ hL)
    · cases hp
  case imul =>
    simp only [okI, dcd, Bool.and_eq_true, decide_eq_true_eq] at hok
    obtain ⟨⟨hd, rfl⟩, rfl⟩ := hok
    simp only [pst] at hp
    split at hp
    · cases hp; exact lv_imul hx hb hd (kk _ hL)
    · cases hp
  case iand =>
    simp only [okI, dcd, Bool.and_eq_true, decide_eq_true_eq] at hok
    obtain ⟨⟨hd, rfl⟩, rfl⟩ := hok
    simp only [pst] at hp
    split at hp
    · cases hp; exact lv_iand hx hb hd (kk _ hL)
    · cases hp
  case ior =>
    simp only [okI, dcd, Bool.and_eq_true, decide_eq_true_eq] at hok
    obtain ⟨⟨hd, rfl⟩, rfl⟩ := hok
    simp only [pst] at hp
    split at hp
    · cases hp; exact lv_ior hx hb hd (kk _ hL)
    · cases hp
  case ixor =>
    simp only [okI, dcd, Bool.and_eq_true, decide_eq_true_eq] at hok
    obtain ⟨⟨hd, rfl⟩, rfl⟩ := hok
    simp only [pst] at hp
    split at hp
    · cases hp; exact lv_ixor hx hb hd (kk _ hL)
    · cases hp
  case ineg =>
    simp only [okI, dcd, Bool.and_eq_true, decide_eq_true_eq] at hok
    obtain ⟨⟨hd, rfl⟩, rfl⟩ := hok
    simp only [pst] at hp
    split at hp
    · cases hp; exact lv_ineg hx hb hd (kk _ hL)
    · cases hp
  case ishl =>
    simp only [okI, dcd, Bool.and_eq_true, decide_eq_true_eq] at hok
    obtain ⟨⟨hd, rfl⟩, rfl⟩ := hok
    simp only [pst] at hp
    split at hp
    · cases hp; exact lv_ishl hx hb hd (kk _ hL)
    · cases hp
  case ishr =>
    simp only [okI, dcd, Bool.and_eq_true, decide_eq_true_eq] at hok
    obtain ⟨⟨hd, rfl⟩, rfl⟩ := hok
    simp only [pst] at hp
    split at hp
    · cases hp; exact lv_ishr hx hb hd (kk _ hL)
    · cases hp
  case iushr =>
    simp only [okI, dcd, Bool.and_eq_true, decide_eq_true_eq] at hok
    obtain ⟨⟨hd, rfl⟩, rfl⟩ := hok
    simp only [pst] at hp
    split at hp
    · cases hp; exact lv_iushr hx hb hd rfl (kk _ hL)
    · cases hp
  case i2l =>
    simp only [okI, dcd, Bool.and_eq_true, decide_eq_true_eq] at hok
    obtain ⟨⟨hd, rfl⟩, rfl⟩ := hok
    simp only [pst] at hp
    split at hp
    · cases hp; exact lv_i2l hx hb hd rfl (kk _ hL)
    · cases hp
  case l2i =>
    simp only [okI, dcd, Bool.and_eq_true, decide_eq_true_eq] at hok
    obtain ⟨⟨hd, rfl⟩, rfl⟩ := hok
    simp only [pst] at hp
    split at hp
    · cases hp; exact lv_l2i hx hb hd rfl (kk _ hL)
    · cases hp
  case i2b =>
    simp only [okI, dcd, Bool.and_eq_true, decide_eq_true_eq] at hok
    obtain ⟨⟨hd, rfl⟩, rfl⟩ := hok
    simp only [pst] at hp
    split at hp
    · cases hp; exact lv_i2b hx hb hd rfl (kk _ hL)
    · cases hp
  case i2s =>
    simp only [okI, dcd, Bool.and_eq_true, decide_eq_true_eq] at hok
    obtain ⟨⟨hd, rfl⟩, rfl⟩ := hok
    simp only [pst] at hp
    split at hp
    · cases hp; exact lv_i2s hx hb hd rfl (kk _ hL)
    · cases hp
  case ladd =>
    simp only [okI, dcd, Bool.and_eq_true, decide_eq_true_eq] at hok
    obtain ⟨⟨hd, rfl⟩, rfl⟩ := hok
    simp only [pst] at hp
    split at hp
    · cases hp; exact lv_ladd hx hb hd (kk _ hL)
    · cases hp
  case lmul =>
    simp only [okI, dcd, Bool.and_eq_true, decide_eq_true_eq] at hok
    obtain ⟨⟨hd, rfl⟩, rfl⟩ := hok
    simp only [pst] at hp
    split at hp
    · cases hp; exact lv_lmul hx hb hd (kk _ hL)
    · cases hp
  case lcmp =>
    simp only [okI, dcd, Bool.and_eq_true, decide_eq_true_eq] at hok
    obtain ⟨⟨hd, rfl⟩, rfl⟩ := hok
    simp only [pst] at hp
    split at hp
    · cases hp; exact W.lcmp hx hb hd (kk _ hL)
    · cases hp
  case dup =>
    simp only [okI, dcd, Bool.and_eq_true, decide_eq_true_eq] at hok
    obtain ⟨⟨hd, rfl⟩, rfl⟩ := hok
    simp only [pst] at hp
    split at hp
    · split at hp
      · next hv => cases hp; exact lv_dup hx hb hd (by rw [vmv_cat]; exact hv) (kk _ hL)
      · cases hp
    · cases hp
  case dup2 =>
    simp only [okI, dcd, Bool.and_eq_true, decide_eq_true_eq] at hok
    obtain ⟨⟨hd, rfl⟩, rfl⟩ := hok
    simp only [pst] at hp
    split at hp
    · split at hp
      · next hv => cases hp; exact lv_dup2_11 hx hb hd (by rw [vmv_cat]; exact hv.1) (by rw [vmv_cat]; exact hv.2) (kk _ hL)
      · cases hp
    · cases hp
  all_goals (exact absurd hp (by simp [pst]))
end Pure
