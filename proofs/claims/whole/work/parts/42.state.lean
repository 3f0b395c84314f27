/-! what class and reference stand for -/
def Xs : Type := (Nat → Int32) × (Nat → Int32) × (Nat → Nat → Int32) × Int32 × (Nat → Int32) × Nat × Int32 × (Nat → Int32) × Nat × Hs × (Nat → Hs) × Nat × (Nat → Hs)
def mkX (ln sz : Nat → Int32) (it : Nat → Nat → Int32) (st : Int32) (tp : Nat → Int32) (tl : Nat) (fl : Int32) (tr : Nat → Int32) (tn : Nat) (nw : Hs) (ac : Nat → Hs) (an : Nat) (im : Nat → Hs) : Xs := (ln, sz, it, st, tp, tl, fl, tr, tn, nw, ac, an, im)
def Xs.ln (X : Xs) : Nat → Int32 := X.1
def Xs.sz (X : Xs) : Nat → Int32 := X.2.1
def Xs.it (X : Xs) : Nat → Nat → Int32 := X.2.2.1
def Xs.st (X : Xs) : Int32 := X.2.2.2.1
def Xs.tp (X : Xs) : Nat → Int32 := X.2.2.2.2.1
def Xs.tl (X : Xs) : Nat := X.2.2.2.2.2.1
def Xs.fl (X : Xs) : Int32 := X.2.2.2.2.2.2.1
def Xs.tr (X : Xs) : Nat → Int32 := X.2.2.2.2.2.2.2.1
def Xs.tn (X : Xs) : Nat := X.2.2.2.2.2.2.2.2.1
def Xs.nw (X : Xs) : Hs := X.2.2.2.2.2.2.2.2.2.1
def Xs.ac (X : Xs) : Nat → Hs := X.2.2.2.2.2.2.2.2.2.2.1
def Xs.an (X : Xs) : Nat := X.2.2.2.2.2.2.2.2.2.2.2.1
def Xs.im (X : Xs) : Nat → Hs := X.2.2.2.2.2.2.2.2.2.2.2.2
def Xs.wrow (X : Xs) (ln sz : Nat → Int32) (it : Nat → Nat → Int32) : Xs := mkX ln sz it X.st X.tp X.tl X.fl X.tr X.tn X.nw X.ac X.an X.im
def Xs.wst (X : Xs) (v : Int32) : Xs := mkX X.ln X.sz X.it v X.tp X.tl X.fl X.tr X.tn X.nw X.ac X.an X.im
def Xs.wtape (X : Xs) (tp : Nat → Int32) (tl : Nat) : Xs := mkX X.ln X.sz X.it X.st tp tl X.fl X.tr X.tn X.nw X.ac X.an X.im
def Xs.wfl (X : Xs) (v : Int32) : Xs := mkX X.ln X.sz X.it X.st X.tp X.tl v X.tr X.tn X.nw X.ac X.an X.im
def Xs.wtrace (X : Xs) (tr : Nat → Int32) (tn : Nat) : Xs := mkX X.ln X.sz X.it X.st X.tp X.tl X.fl tr tn X.nw X.ac X.an X.im
def Xs.wnow (X : Xs) (nw : Hs) (ac : Nat → Hs) (an : Nat) : Xs := mkX X.ln X.sz X.it X.st X.tp X.tl X.fl X.tr X.tn nw ac an X.im
def Xs.wimg (X : Xs) (im : Nat → Hs) : Xs := mkX X.ln X.sz X.it X.st X.tp X.tl X.fl X.tr X.tn X.nw X.ac X.an im
def Gd (a : Hs) : Prop := WFg (54 * a 0 2) a ∧ a 0 2 ≤ 999 ∧ a 0 4 = 0 ∧ RkId a ∧ 1 ≤ a 0 3 ∧ 3 ≤ a 0 0 ∧ 2 ≤ a 0 1 ∧ a 0 1 ≤ 20 ∧ ∀ i, i < a 0 3 → 1 ≤ a 1 i ∧ 1 ≤ a 3 i ∧ a 3 i ≤ 9 ∧ a 4 i ≤ 999
def NoH (a : Hs) : Prop := a 0 3 = 0 ∧ a 0 0 = 0 ∧ a 0 1 = 0 ∧ a 0 2 = 0 ∧ a 0 4 = 0
def SameSt (a b : Hs) : Prop := a 0 0 = b 0 0 ∧ a 0 3 = b 0 3 ∧ ∀ l, l < a 0 3 → a 1 l = b 1 l ∧ a 3 l = b 3 l
def XOk (X : Xs) : Prop := (∀ r, r < 8 → X.sz r = -1 ∨ ((∃ n, n ≤ 40 ∧ X.sz r = nI n) ∧ ∃ l, l ≤ 2 ∧ X.ln r = nI l)) ∧ X.tl ≤ 100 ∧ X.tn ≤ 16 ∧ (∀ j, j < X.tl → ∃ b, b < 256 ∧ X.tp j = nI b) ∧ (Gd X.nw ∨ NoH X.nw) ∧ X.an ≤ 24 ∧ (∀ j, j < X.an → Gd (X.ac j) ∧ SameSt (X.ac j) X.nw) ∧ ∀ k, k < 2 → (Gd (X.im k) ∧ X.nw 0 3 ≠ 0) ∨ (X.im k) 0 3 = 0
/-! the best order, as the reference finds it -/
def dig (L c k : Nat) : Nat := c / L ^ (L - 1 - k) % L
def rkd (a : Hs) (c : Nat) : Hs := fun c' j => if c' = 8 then dig (a 0 3) c j else a c' j
def hadN (L c : Nat) : Nat → Nat
  | 0 => 0
  | n + 1 => hadN L c n ||| 2 ^ dig L c (L - 1 - n)
def outC (a : Hs) : Nat := bitN 6 (outB a)
def osum : Nat → Hs → Nat
  | 0, a => outC a
  | n + 1, a => outC a + osum n (tickS a)
def bestO (a : Hs) (n : Nat) : Nat → Option (Nat × Nat)
  | 0 => none
  | m + 1 => if hadN (a 0 3) m (a 0 3) = 2 ^ (a 0 3) - 1 then (match bestO a n m with | none => some (osum n (rkd a m), m) | some (v, c) => if osum n (rkd a m) < v then some (osum n (rkd a m), m) else some (v, c)) else bestO a n m
/-! the class's rows -/
def CCache (S : Nat → Nat → Int32) (a : Hs) : Prop := S 45 5 = 0 ∨ ∃ n v c, 1 ≤ n ∧ n ≤ 40 ∧ S 45 5 = nI n ∧ bestO a n (a 0 3 ^ a 0 3) = some (v, c) ∧ S 45 4 = nI v ∧ ∀ k, k < a 0 3 → S 69 k = nI (dig (a 0 3) c k)
def CShelf (S : Nat → Nat → Int32) (X : Xs) : Prop := ∀ r, r < 8 → S 2 r = (if X.sz r = -1 then -1 else X.ln r) ∧ (X.sz r ≠ -1 → S 3 r = X.sz r) ∧ ∀ j, j < 40 → S (5 + r) j = X.it r j
def CActs (S : Nat → Nat → Int32) (ac : Nat → Hs) (an : Nat) : Prop := S 0 9 = nI an ∧ ∃ x, x < 24 ∧ S 0 10 = nI x ∧ ∀ j, j < an → HR S (73 + 11 * ((x + 23 - j) % 24)) (ac j)
def CR (S : Nat → Nat → Int32) (X : Xs) : Prop := (CShelf S X) ∧ (S 0 12 = X.st) ∧ (S 0 11 = X.fl) ∧ (S 13 1 = nI X.tl ∧ ∀ j, j < X.tl → S 14 j = X.tp j) ∧ (S 15 1 = nI X.tn ∧ ∀ j, j < X.tn → S 16 j = X.tr j) ∧ (HR S 23 X.nw) ∧ (∃ b, HR S 34 b) ∧ (CActs S X.ac X.an) ∧ (∀ k, k < 2 → HR S (337 + 11 * k) (X.im k)) ∧ (CCache S X.nw)
theorem CR.shelf {S : Nat → Nat → Int32} {X : Xs} (h : CR S X) : CShelf S X := h.1
theorem CR.st {S : Nat → Nat → Int32} {X : Xs} (h : CR S X) : S 0 12 = X.st := h.2.1
theorem CR.fl {S : Nat → Nat → Int32} {X : Xs} (h : CR S X) : S 0 11 = X.fl := h.2.2.1
theorem CR.tape {S : Nat → Nat → Int32} {X : Xs} (h : CR S X) : S 13 1 = nI X.tl ∧ ∀ j, j < X.tl → S 14 j = X.tp j := h.2.2.2.1
theorem CR.trace {S : Nat → Nat → Int32} {X : Xs} (h : CR S X) : S 15 1 = nI X.tn ∧ ∀ j, j < X.tn → S 16 j = X.tr j := h.2.2.2.2.1
theorem CR.now {S : Nat → Nat → Int32} {X : Xs} (h : CR S X) : HR S 23 X.nw := h.2.2.2.2.2.1
theorem CR.draft {S : Nat → Nat → Int32} {X : Xs} (h : CR S X) : ∃ b, HR S 34 b := h.2.2.2.2.2.2.1
theorem CR.acts {S : Nat → Nat → Int32} {X : Xs} (h : CR S X) : CActs S X.ac X.an := h.2.2.2.2.2.2.2.1
theorem CR.img {S : Nat → Nat → Int32} {X : Xs} (h : CR S X) : ∀ k, k < 2 → HR S (337 + 11 * k) (X.im k) := h.2.2.2.2.2.2.2.2.1
theorem CR.cache {S : Nat → Nat → Int32} {X : Xs} (h : CR S X) : CCache S X.nw := h.2.2.2.2.2.2.2.2.2
theorem HR.cg {S S' : Nat → Nat → Int32} {p : Nat} {a : Hs} (h : HR S p a) (he : ∀ k, p ≤ k → k ≤ p + 10 → S' k = S k) : HR S' p a := by
  obtain ⟨hq, g0, g1, g2, g3⟩ := h
  have e : ∀ o, o ≤ 10 → S' (p + o) = S (p + o) := fun o ho => he _ (by omega) (by omega)
  have e0 : S' p = S p := e 0 (by omega)
  exact ⟨hq, fun j hj => by rw [e0]; exact g0 j hj, fun o j h1 h2 hj => by rw [e o (by omega)]; exact g1 o j h1 h2 hj, fun r hr => by rw [e 9 (by omega)]; exact g2 r hr, fun r hr => by rw [e 10 (by omega)]; exact g3 r hr⟩
theorem CCache.cg {S S' : Nat → Nat → Int32} {a : Hs} (h : CCache S a) (h4 : S' 45 4 = S 45 4) (h5 : S' 45 5 = S 45 5) (h69 : S' 69 = S 69) : CCache S' a := by
  unfold CCache at h ⊢
  rw [h4, h5, h69]
  exact h
theorem CActs.cg {S S' : Nat → Nat → Int32} {ac : Nat → Hs} {an : Nat} (h : CActs S ac an) (h9 : S' 0 9 = S 0 9) (h10 : S' 0 10 = S 0 10) (he : ∀ k, 73 ≤ k → k < 337 → S' k = S k) : CActs S' ac an := by
  obtain ⟨h1, x, h2, h3, h4⟩ := h
  refine ⟨by rw [h9]; exact h1, x, h2, by rw [h10]; exact h3, fun j hj => (h4 j hj).cg (fun k hk1 hk2 => he k (by omega) ?_)⟩
  have : (x + 23 - j) % 24 < 24 := Nat.mod_lt _ (by omega)
  omega
theorem CShelf.cg {S S' : Nat → Nat → Int32} {X : Xs} (h : CShelf S X) (he : ∀ k, 2 ≤ k → k ≤ 12 → S' k = S k) : CShelf S' X := by
  intro r hr
  rw [he 2 (by omega) (by omega), he 3 (by omega) (by omega), he (5 + r) (by omega) (by omega)]
  exact h r hr
/-- of the class, only what it tries things out on has changed -/
def FS (S S' : Nat → Nat → Int32) : Prop := (∀ k, k ≠ 45 → ¬ (46 ≤ k ∧ k ≤ 68) → k ≠ 70 → S' k = S k) ∧ S' 45 4 = S 45 4 ∧ S' 45 5 = S 45 5
theorem FS.rf (S : Nat → Nat → Int32) : FS S S := ⟨fun _ _ _ _ => rfl, rfl, rfl⟩
theorem FS.tr {S S' S'' : Nat → Nat → Int32} (h1 : FS S S') (h2 : FS S' S'') : FS S S'' := ⟨fun k a b c => (h2.1 k a b c).trans (h1.1 k a b c), h2.2.1.trans h1.2.1, h2.2.2.trans h1.2.2⟩
theorem Fr.fs {p : Nat} {S S' : Nat → Nat → Int32} (h : Fr p S S') (hp : p = 46 ∨ p = 57) : FS S S' := ⟨fun k _ h2 _ => h k (by omega), by rw [h 45 (by omega)], by rw [h 45 (by omega)]⟩
theorem CR.fs {S S' : Nat → Nat → Int32} {X : Xs} (h : CR S X) (hf : FS S S') : CR S' X :=
  ⟨h.shelf.cg (fun k h1 h2 => hf.1 k (by omega) (by omega) (by omega)),
  by rw [hf.1 0 (by omega) (by omega) (by omega)]; exact h.st,
  by rw [hf.1 0 (by omega) (by omega) (by omega)]; exact h.fl,
  by rw [hf.1 13 (by omega) (by omega) (by omega), hf.1 14 (by omega) (by omega) (by omega)]; exact h.tape,
  by rw [hf.1 15 (by omega) (by omega) (by omega), hf.1 16 (by omega) (by omega) (by omega)]; exact h.trace,
  h.now.cg (fun k h1 h2 => hf.1 k (by omega) (by omega) (by omega)),
  by obtain ⟨b, hb⟩ := h.draft; exact ⟨b, hb.cg (fun k h1 h2 => hf.1 k (by omega) (by omega) (by omega))⟩,
  h.acts.cg (by rw [hf.1 0 (by omega) (by omega) (by omega)]) (by rw [hf.1 0 (by omega) (by omega) (by omega)]) (fun k h1 h2 => hf.1 k (by omega) (by omega) (by omega)),
  fun k hk => (h.img k hk).cg (fun k h1 h2 => hf.1 k (by omega) (by omega) (by omega)),
  h.cache.cg hf.2.1 hf.2.2 (hf.1 69 (by omega) (by omega) (by omega))⟩
theorem CR.cg {S S' : Nat → Nat → Int32} {X : Xs} (h : CR S X) (hf : ∀ k, k < 359 → S' k = S k) : CR S' X :=
  ⟨h.shelf.cg (fun k h1 h2 => hf k (by omega)),
  by rw [hf 0 (by omega)]; exact h.st,
  by rw [hf 0 (by omega)]; exact h.fl,
  by rw [hf 13 (by omega), hf 14 (by omega)]; exact h.tape,
  by rw [hf 15 (by omega), hf 16 (by omega)]; exact h.trace,
  h.now.cg (fun k h1 h2 => hf k (by omega)),
  by obtain ⟨b, hb⟩ := h.draft; exact ⟨b, hb.cg (fun k h1 h2 => hf k (by omega))⟩,
  h.acts.cg (by rw [hf 0 (by omega)]) (by rw [hf 0 (by omega)]) (fun k h1 h2 => hf k (by omega)),
  fun k hk => (h.img k hk).cg (fun k h1 h2 => hf k (by omega)),
  h.cache.cg (by rw [hf 45 (by omega)]) (by rw [hf 45 (by omega)]) (hf 69 (by omega))⟩
/-! the reference's rows -/
def MP (S : Nat → Nat → Int32) (X : Xs) : Prop := (∀ r, r < 8 → S 362 r = X.sz r ∧ (X.sz r ≠ -1 → S 361 r = X.ln r) ∧ ∀ j, j < 40 → S 360 (40 * r + j) = X.it r j) ∧ (S 359 3 = X.st) ∧ (S 359 16 = X.fl) ∧ (S 359 14 = nI X.tl ∧ ∀ j, j < X.tl → S 368 j = X.tp j) ∧ (S 359 18 = nI X.tn ∧ ∀ j, j < X.tn → S 369 j = X.tr j) ∧ (S 359 29 = -1000000) ∧ (MSt S X.nw) ∧ (MRow (S 365) X.nw) ∧ (S 359 6 = if X.nw 0 3 = 0 then 0 else 1) ∧ (S 359 11 = nI X.an ∧ ∀ j, j < X.an → MRow (fun c => S 366 (32 * (X.an - 1 - j) + c)) (X.ac j)) ∧ (∃ m, m < 4 ∧ S 359 13 = nI m ∧ ∀ k, k < 2 → m.testBit k = decide ((X.im k) 0 3 ≠ 0) ∧ ((X.im k) 0 3 ≠ 0 → (∀ l, l < (X.im k) 0 3 → S 367 (48 * k + l) = nI ((X.im k) 1 l) ∧ S 367 (48 * k + 6 + l) = nI ((X.im k) 3 l)) ∧ MRow (fun c => S 367 (48 * k + 12 + c)) (X.im k) ∧ S 367 (48 * k + 44) = nI ((X.im k) 0 0) ∧ S 367 (48 * k + 45) = nI ((X.im k) 0 3)))
theorem MP.shelf {S : Nat → Nat → Int32} {X : Xs} (h : MP S X) : ∀ r, r < 8 → S 362 r = X.sz r ∧ (X.sz r ≠ -1 → S 361 r = X.ln r) ∧ ∀ j, j < 40 → S 360 (40 * r + j) = X.it r j := h.1
theorem MP.st {S : Nat → Nat → Int32} {X : Xs} (h : MP S X) : S 359 3 = X.st := h.2.1
theorem MP.fl {S : Nat → Nat → Int32} {X : Xs} (h : MP S X) : S 359 16 = X.fl := h.2.2.1
theorem MP.tape {S : Nat → Nat → Int32} {X : Xs} (h : MP S X) : S 359 14 = nI X.tl ∧ ∀ j, j < X.tl → S 368 j = X.tp j := h.2.2.2.1
theorem MP.trace {S : Nat → Nat → Int32} {X : Xs} (h : MP S X) : S 359 18 = nI X.tn ∧ ∀ j, j < X.tn → S 369 j = X.tr j := h.2.2.2.2.1
theorem MP.none {S : Nat → Nat → Int32} {X : Xs} (h : MP S X) : S 359 29 = -1000000 := h.2.2.2.2.2.1
theorem MP.stat {S : Nat → Nat → Int32} {X : Xs} (h : MP S X) : MSt S X.nw := h.2.2.2.2.2.2.1
theorem MP.now {S : Nat → Nat → Int32} {X : Xs} (h : MP S X) : MRow (S 365) X.nw := h.2.2.2.2.2.2.2.1
theorem MP.has {S : Nat → Nat → Int32} {X : Xs} (h : MP S X) : S 359 6 = if X.nw 0 3 = 0 then 0 else 1 := h.2.2.2.2.2.2.2.2.1
theorem MP.acts {S : Nat → Nat → Int32} {X : Xs} (h : MP S X) : S 359 11 = nI X.an ∧ ∀ j, j < X.an → MRow (fun c => S 366 (32 * (X.an - 1 - j) + c)) (X.ac j) := h.2.2.2.2.2.2.2.2.2.1
theorem MP.img {S : Nat → Nat → Int32} {X : Xs} (h : MP S X) : ∃ m, m < 4 ∧ S 359 13 = nI m ∧ ∀ k, k < 2 → m.testBit k = decide ((X.im k) 0 3 ≠ 0) ∧ ((X.im k) 0 3 ≠ 0 → (∀ l, l < (X.im k) 0 3 → S 367 (48 * k + l) = nI ((X.im k) 1 l) ∧ S 367 (48 * k + 6 + l) = nI ((X.im k) 3 l)) ∧ MRow (fun c => S 367 (48 * k + 12 + c)) (X.im k) ∧ S 367 (48 * k + 44) = nI ((X.im k) 0 0) ∧ S 367 (48 * k + 45) = nI ((X.im k) 0 3)) := h.2.2.2.2.2.2.2.2.2.2
/-- of the reference, only what it tries things out on has changed -/
def FN (S S' : Nat → Nat → Int32) : Prop := (∀ k, k ≠ 359 → k < 370 → S' k = S k) ∧ ∀ j, j ≠ 30 → j ≠ 31 → ¬ (19 ≤ j ∧ j ≤ 27) → S' 359 j = S 359 j
theorem FN.rf (S : Nat → Nat → Int32) : FN S S := ⟨fun _ _ _ => rfl, fun _ _ _ _ => rfl⟩
theorem FN.tr {S S' S'' : Nat → Nat → Int32} (h1 : FN S S') (h2 : FN S' S'') : FN S S'' := ⟨fun k a b => (h2.1 k a b).trans (h1.1 k a b), fun j a b c => (h2.2 j a b c).trans (h1.2 j a b c)⟩
theorem FM.fn {S S' : Nat → Nat → Int32} (h : FM S S') : FN S S' := ⟨fun k _ _ => h k (by omega), fun j _ _ _ => by rw [h 359 (by omega)]⟩
theorem MSt.cg {S S' : Nat → Nat → Int32} {a : Hs} (h : MSt S a) (h6 : a 0 3 ≤ 6) (hn : S 359 29 = -1000000) (h4 : S' 359 4 = S 359 4) (h5 : S' 359 5 = S 359 5) (h29 : S' 359 29 = S 359 29) (h363 : S' 363 = S 363) (h364 : S' 364 = S 364) : MSt S' a := by
  have hb : ∀ k, k < 6 → ¬ nI k = -1000000 := by decide
  unfold MSt at h ⊢
  rw [h4, h5, h29, h363, h364]
  refine ⟨h.1, h.2.1, fun l hl => ?_⟩
  have := h.2.2 l hl
  rw [hn, if_neg (hb l (by omega)), if_neg (hb l (by omega))] at this ⊢
  exact this
theorem XOk.l6 {X : Xs} (h : XOk X) : X.nw 0 3 ≤ 6 := by
  rcases h.2.2.2.2.1 with q | q
  · exact q.1.1
  · rw [q.1]; omega
theorem MP.fn {S S' : Nat → Nat → Int32} {X : Xs} (h : MP S X) (hX : XOk X) (hf : FN S S') : MP S' X :=
  ⟨by rw [hf.1 360 (by omega) (by omega), hf.1 361 (by omega) (by omega), hf.1 362 (by omega) (by omega)]; exact h.shelf,
  by rw [hf.2 3 (by omega) (by omega) (by omega)]; exact h.st,
  by rw [hf.2 16 (by omega) (by omega) (by omega)]; exact h.fl,
  by rw [hf.2 14 (by omega) (by omega) (by omega), hf.1 368 (by omega) (by omega)]; exact h.tape,
  by rw [hf.2 18 (by omega) (by omega) (by omega), hf.1 369 (by omega) (by omega)]; exact h.trace,
  by rw [hf.2 29 (by omega) (by omega) (by omega)]; exact h.none,
  h.stat.cg hX.l6 h.none (hf.2 4 (by omega) (by omega) (by omega)) (hf.2 5 (by omega) (by omega) (by omega)) (hf.2 29 (by omega) (by omega) (by omega)) (hf.1 363 (by omega) (by omega)) (hf.1 364 (by omega) (by omega)),
  by rw [hf.1 365 (by omega) (by omega)]; exact h.now,
  by rw [hf.2 6 (by omega) (by omega) (by omega)]; exact h.has,
  by rw [hf.2 11 (by omega) (by omega) (by omega), hf.1 366 (by omega) (by omega)]; exact h.acts,
  by rw [hf.2 13 (by omega) (by omega) (by omega), hf.1 367 (by omega) (by omega)]; exact h.img⟩
theorem MP.cg {S S' : Nat → Nat → Int32} {X : Xs} (h : MP S X) (hX : XOk X) (hf : ∀ k, 359 ≤ k → S' k = S k) : MP S' X :=
  ⟨by rw [hf 360 (by omega), hf 361 (by omega), hf 362 (by omega)]; exact h.shelf, by rw [hf 359 (by omega)]; exact h.st, by rw [hf 359 (by omega)]; exact h.fl, by rw [hf 359 (by omega), hf 368 (by omega)]; exact h.tape, by rw [hf 359 (by omega), hf 369 (by omega)]; exact h.trace, by rw [hf 359 (by omega)]; exact h.none, h.stat.cg hX.l6 h.none (by rw [hf 359 (by omega)]) (by rw [hf 359 (by omega)]) (by rw [hf 359 (by omega)]) (hf 363 (by omega)) (hf 364 (by omega)), by rw [hf 365 (by omega)]; exact h.now, by rw [hf 359 (by omega)]; exact h.has, by rw [hf 359 (by omega), hf 366 (by omega)]; exact h.acts, by rw [hf 359 (by omega), hf 367 (by omega)]; exact h.img⟩
