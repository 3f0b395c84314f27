/-! what the abstract machine answers of a method, the machine does: contracts, by induction on the fuel -/
section Snd
variable {G : PG} {D : va_G} {tys : List (ClassId × FieldType)} {b bs : Nat} {sc : Nat × (Nat → Int32)}
/-- a frame, from a block on -/
def FrmOk (G : PG) (D : va_G) (tys : List (ClassId × FieldType)) (b bs : Nat) (sc : Nat × (Nat → Int32)) (l : Launch) (n : Nat) : Prop :=
  ∀ (mi : Nat) (h0 : AH) (p : Program) (e : Env) (R : Room) (s : State) (m : MethodId) (args : Array Value) (below : List Frame) (meth : Method) (c : Code) (Q : State → Prop) (d bk : Nat) (ls st : List Value) (h : AH) (x : Res),
    okM G mi = true → FC G D tys b bs sc mi p s m args meth c h0 → d ≤ R.frames → 40 * d ≤ R.locals → x.2.1 - h0.1 ≤ R.cells → x.2.2.1 - h0.2.1 ≤ R.slots → RetOk G D tys b bs mi h0 p l e R s m args below meth c Q x → exec (PB G.M) sc n d mi bk ls st h = some x →
    ∀ (H : Heap) (locs : List Loc) (cells slots : Nat) (lr : Array Slot), SR G D tys b bs s h0 h H locs cells slots → LR b bs (G.M mi).2.2.1 ls lr → W p l e R s m args below meth c H locs cells slots Q (F0 m (bpc G.M mi bk) lr (st.map (vmv b bs)))
def MetOk (G : PG) (D : va_G) (tys : List (ClassId × FieldType)) (b bs : Nat) (sc : Nat × (Nat → Int32)) (l : Launch) (n : Nat) : Prop :=
  ∀ (cl d : Nat) (as : List Value) (h : AH) (r : Option Value) (h' : AH), cl < G.nM → (layL as).length ≤ (G.M cl).2.2.1 → exec (PB G.M) sc n d cl 0 (entL (G.M cl).2.2.1 as) [] h = some (r, h') → MetA G D tys b bs sc l cl as h r h' d
set_option maxHeartbeats 2000000 in
theorem met_of_frm (hM : MOk G) (hbs : bs < b) {l : Launch} {n : Nat} (hFr : FrmOk G D tys b bs sc l n) : MetOk G D tys b bs sc l n := by
  intro cl d as h r h' hcl hlen hex
  obtain ⟨⟨q, hq⟩, hokm⟩ := hM cl hcl
  have hcw := hq
  unfold okC at hq
  simp only [Bool.and_eq_true, decide_eq_true_eq] at hq
  obtain ⟨⟨⟨⟨⟨q1, q2⟩, q3⟩, q4⟩, q5⟩, q6⟩ := hq
  have hg := exec_gr _ _ _ _ _ _ _ _ _ _ hex
  unfold MetA
  refine Met.ofW (cc := (G.M cl).2.1) (maxL := (G.M cl).2.2.1) (ret := (G.M cl).2.2.2.1) q3 rfl ?_
  intro p e s m args below meth c s₁ B hml hv
  obtain ⟨rfl, hsz, hP, hK, hX⟩ := hv
  have hts0 := atoms_spec (ws := .code (G.M cl).1 (G.M cl).2.1 (G.M cl).2.2.1 (G.M cl).2.2.2.1 :: TS G) B.pre
  have hts : ∀ w ∈ TS G, w.before (as.map (vmv b bs)).toArray s = true := fun w hw => hts0 w (List.mem_cons_of_mem _ hw)
  have hlocks := B.notSynchronized
  have hFC : FC G D tys b bs sc cl p s m (as.map (vmv b bs)).toArray meth c h := ⟨B.exec, B.bytes, hml, B.returns, findClass_of_methodNamed B.named, hts, fun q => (name_of_methodNamed B.named B.method).1.trans q, hlocks, hK, hX, hbs, hsz⟩
  have hS0 : SR G D tys b bs s h h s.heap [] 0 0 := ⟨hP, va_S.rf, by omega, by omega, Gr.rf⟩
  rw [lg_entry_eq]
  have key := hFr cl h p e ({ frames := d, cells := h'.1 - h.1, slots := h'.2.1 - h.2.1, locals := 40 * d }) s m (as.map (vmv b bs)).toArray below meth c (MQ below (Post D G.cl b bs (cAt tys) r h') (as.map (vmv b bs)).toArray s (h'.1 - h.1) (h'.2.1 - h.2.1) (fun q => b ≤ q)) d 0 (entL (G.M cl).2.2.1 as) [] h (r, h') hokm hFC (Nat.le_refl _) (Nat.le_refl _) (Nat.le_refl _) (Nat.le_refl _) ?_ hex s.heap [] 0 0 _ hS0 (LR.entry hlen)
  · rw [q6] at key
    exact key
  · have hend : ∀ (H : Heap) (locs : List Loc) (t : State), t.heap = H → va_P D G.cl (wld b bs (cAt tys) h') H → va_S (fun q => b ≤ q) s.heap H locs → Post D G.cl b bs (cAt tys) r h' (as.map (vmv b bs)).toArray s (.returned (r.map (vmv b bs))) t := fun H locs t ht hP1 hS1 => ⟨⟨rfl, by rw [ht]; exact hP1⟩, hS1.F ht⟩
    refine ⟨?_, ?_, ?_, ?_⟩
    · intro H locs cells slots pc lr v ty hr hty hn hd hR
      obtain ⟨hP1, hS1, rfl, rfl, -⟩ := hR
      have hr' : r = some (.int v) := hr
      refine W.zret (v := v) B.exec B.bytes (B.returns.trans hty) hn (fun t ht _ => ?_) hS1.2.2 hd
      have := hend H locs t ht hP1 hS1
      rw [hr'] at this ⊢
      exact this
    · intro H locs cells slots pc lr v hr hty hd hR
      obtain ⟨hP1, hS1, rfl, rfl, -⟩ := hR
      have hr' : r = some (.long v) := hr
      refine W.lret (v := v) B.exec B.bytes (B.returns.trans hty) (fun t ht _ => ?_) hS1.2.2 hd
      have := hend H locs t ht hP1 hS1
      rw [hr'] at this ⊢
      exact this
    · intro H locs cells slots pc lr v n hr hty hd hR
      obtain ⟨hP1, hS1, rfl, rfl, -⟩ := hR
      have hr' : r = some (.ref v) := hr
      refine W.aret (v := .ref (b + v)) B.exec B.bytes (B.returns.trans hty) (Or.inl ⟨n, rfl⟩) (Or.inr ⟨_, rfl⟩) (fun t ht _ => ?_) hS1.2.2 hd
      have := hend H locs t ht hP1 hS1
      rw [hr'] at this ⊢
      exact this
    · intro H locs cells slots pc lr hr hty hd hR
      obtain ⟨hP1, hS1, rfl, rfl, -⟩ := hR
      have hr' : r = none := hr
      refine W.vret B.exec B.bytes (B.returns.trans hty) (fun t ht _ => ?_) hS1.2.2 hd
      have := hend H locs t ht hP1 hS1
      rw [hr'] at this ⊢
      exact this
theorem frm_sound (hG : GOK G tys) (hM : MOk G) (hXw : XwOk G) (hbs : bs < b) (l : Launch) : ∀ n, FrmOk G D tys b bs sc l n := by
  intro n
  induction n with
  | zero => intro mi h0 p e R s m args below meth c Q d bk ls st h x _ _ _ _ _ _ _ hex; cases hex
  | succ n ih =>
    intro mi h0 p e R s m args below meth c Q d bk ls st h x hok hF hRf hRl hRc hRs hRet hex H locs cells slots lr hR hL
    have hmet := met_of_frm hM hbs ih
    have hblk := blk_sound (Q := Q) (x := x) hG hM hXw hF hRf hRl (z := decide (d ≠ 0)) (fun q => by have := of_decide_eq_true q; omega) (C := fun c as h' => match (generalizing := false) d with | 0 => none | d' + 1 => exec (PB G.M) sc n d' c 0 as [] h') (K := fun b' ls' st' h' => exec (PB G.M) sc n d mi b' ls' st' h')
      (fun c as h x hx => by
        cases d with
        | zero => cases hx
        | succ d => exact exec_gr _ _ _ _ _ _ _ _ _ _ hx)
      (fun b' ls st h x hx => exec_gr _ _ _ _ _ _ _ _ _ _ hx) hRc hRs
      (fun cl as h r h' hcl hx => by
        unfold callE at hx
        split at hx
        · next hlen =>
          cases d with
          | zero => cases hx
          | succ d => exact ⟨d, rfl, hmet cl d as h r h' hcl hlen hx⟩
        · cases hx)
      (fun bk ls st h hx H locs cells slots lr hR hL => ih mi h0 p e R s m args below meth c Q d bk ls st h x hok hF hRf hRl hRc hRs hRet hx H locs cells slots lr hR hL)
      hRet (PB G.M mi bk) ls st h (okM_blk hok bk) hex H locs cells slots lr hR hL
    exact hblk
end Snd
