/-! order: orders that come to the same -/
def w8 (a : Hs) (r : Nat → Nat) : Hs := fun c j => if c = 8 then r j else a c j
theorem w8_c {a : Hs} {r : Nat → Nat} {c : Nat} (h : c ≠ 8) : w8 a r c = a c := funext fun _ => if_neg h
theorem w8_8 (a : Hs) (r : Nat → Nat) : w8 a r 8 = r := funext fun _ => if_pos rfl
theorem w8_w8 (a : Hs) (r r' : Nat → Nat) : w8 (w8 a r) r' = w8 a r' := by
  funext c j
  show (if c = 8 then r' j else (if c = 8 then r j else a c j)) = if c = 8 then r' j else a c j
  by_cases e : c = 8
  · rw [if_pos e, if_pos e]
  · rw [if_neg e, if_neg e, if_neg e]
theorem upA_w8 {a : Hs} {c j v : Nat} {r : Nat → Nat} (h : c ≠ 8) : upA (w8 a r) c j v = w8 (upA a c j v) r := by
  funext x y
  show (if x = c ∧ y = j then v else (if x = 8 then r y else a x y)) = if x = 8 then r y else (if x = c ∧ y = j then v else a x y)
  by_cases e : x = 8
  · rw [if_pos e, if_pos e, if_neg (fun q => h (q.1.symm.trans e))]
  · rw [if_neg e, if_neg e]
theorem ly_8 {a : Hs} {r : Nat → Nat} {q : Nat} : ly (w8 a r) q = ly a q := by
  unfold ly
  rw [w8_c (by omega), w8_c (by omega)]
theorem ld_8 {a : Hs} {r : Nat → Nat} {q : Nat} : ld (w8 a r) q = ld a q := by
  unfold ld
  rw [w8_c (by omega), w8_c (by omega), w8_c (by omega)]
theorem room_8 {a : Hs} {r : Nat → Nat} {i q : Nat} : roomS (w8 a r) i q = roomS a i q := by
  unfold roomS ldB
  rw [ld_8, w8_c (show (1 : Nat) ≠ 8 by omega), w8_c (show (5 : Nat) ≠ 8 by omega), w8_c (show (3 : Nat) ≠ 8 by omega), w8_c (show (0 : Nat) ≠ 8 by omega)]
theorem go_8 {r : Nat → Nat} {i : Nat} : ∀ k (a : Hs), goS k (w8 a r) i = w8 (goS k a i) r
  | 0, _ => rfl
  | k + 1, a => by
    unfold goS
    rw [room_8, w8_c (show (5 : Nat) ≠ 8 by omega)]
    by_cases c1 : a 5 i = 21
    · rw [if_pos c1, if_pos c1]
    · rw [if_neg c1, if_neg c1]
      by_cases c2 : a 5 i = 0 ∨ roomS a i (a 5 i - 1) = true
      · rw [if_pos c2, if_pos c2, upA_w8 (by omega), go_8 k]
      · rw [if_neg c2, if_neg c2]
theorem fallS_8 {a : Hs} {r : Nat → Nat} {i : Nat} : fallS (w8 a r) i = fallS a i := by
  unfold fallS
  rw [ly_8, w8_c (show (1 : Nat) ≠ 8 by omega), w8_c (show (7 : Nat) ≠ 8 by omega), w8_c (show (5 : Nat) ≠ 8 by omega)]
theorem fall_8 {a : Hs} {r : Nat → Nat} {i : Nat} : fallA (w8 a r) i = w8 (fallA a i) r := by
  unfold fallA
  rw [fallS_8, go_8, w8_c (show (5 : Nat) ≠ 8 by omega), w8_c (show (5 : Nat) ≠ 8 by omega), w8_c (show (6 : Nat) ≠ 8 by omega), w8_c (show (7 : Nat) ≠ 8 by omega)]
  by_cases c : (goS (fallS a i) a i) 5 i = a 5 i
  · rw [if_pos c, if_pos c, upA_w8 (by omega), upA_w8 (by omega)]
  · rw [if_neg c, if_neg c, upA_w8 (by omega)]
theorem iterF_8 {lay : Nat → Nat} {f : Nat} {r : Nat → Nat} {b : Hs} : ∀ n, iter n (stepF lay f) (w8 b r) = w8 (iter n (stepF lay f) b) r
  | 0 => rfl
  | n + 1 => by
    show stepF lay f n (iter n (stepF lay f) (w8 b r)) = w8 (stepF lay f n (iter n (stepF lay f) b)) r
    rw [iterF_8 n]
    have key : ∀ Y : Hs, stepF lay f n (w8 Y r) = w8 (stepF lay f n Y) r := by
      intro Y
      unfold stepF
      split
      · exact fall_8
      · rfl
    exact key _
theorem iterG_8 {lay : Nat → Nat} {r : Nat → Nat} {b : Hs} : ∀ n, iter n (floorA lay) (w8 b r) = w8 (iter n (floorA lay) b) r
  | 0 => rfl
  | n + 1 => by
    show floorA lay n (iter n (floorA lay) (w8 b r)) = w8 (floorA lay n (iter n (floorA lay) b)) r
    rw [iterG_8 n, floorA_eq, floorA_eq, w8_c (show (0 : Nat) ≠ 8 by omega), iterF_8]
def cm (x : Nat) (a : Hs) : Hs := if a 5 x = 20 ∧ (a 0 4).testBit x = false ∧ a 4 x ≤ a 0 2 ∧ roomS a x (a 2 x) = true then upA a 5 x (a 2 x) else a
theorem cm_8 {a : Hs} {r : Nat → Nat} {x : Nat} : cm x (w8 a r) = w8 (cm x a) r := by
  unfold cm
  rw [room_8, w8_c (show (5 : Nat) ≠ 8 by omega), w8_c (show (0 : Nat) ≠ 8 by omega), w8_c (show (4 : Nat) ≠ 8 by omega), w8_c (show (2 : Nat) ≠ 8 by omega)]
  by_cases c : a 5 x = 20 ∧ (a 0 4).testBit x = false ∧ a 4 x ≤ a 0 2 ∧ roomS a x (a 2 x) = true
  · rw [if_pos c, if_pos c, upA_w8 (by omega)]
  · rw [if_neg c, if_neg c]
def itc (r : Nat → Nat) (b : Hs) : Nat → Hs
  | 0 => b
  | n + 1 => cm (r n) (itc r b n)
theorem iterC_8 {r : Nat → Nat} {b : Hs} : ∀ n, iter n comeA (w8 b r) = w8 (itc r b n) r
  | 0 => rfl
  | n + 1 => by
    show comeA n (iter n comeA (w8 b r)) = w8 (cm (r n) (itc r b n)) r
    rw [iterC_8 n]
    have : ∀ Y : Hs, comeA n Y = cm (Y 8 n) Y := fun _ => rfl
    rw [this, w8_8, cm_8]
def flo (a : Hs) : Hs := iter (a 0 0) (floorA (a 5)) a
def tkO (a : Hs) (r : Nat → Nat) : Hs := upA (itc r (flo a) (a 0 3)) 0 2 (a 0 2 + 1)
theorem tick_8 (a : Hs) (r : Nat → Nat) : tickS (w8 a r) = w8 (tkO a r) r := by
  show upA (iter (w8 a r 0 3) comeA (iter (w8 a r 0 0) (floorA (w8 a r 5)) (w8 a r))) 0 2 (w8 a r 0 2 + 1) = _
  rw [w8_c (show (0 : Nat) ≠ 8 by omega), w8_c (show (5 : Nat) ≠ 8 by omega), iterG_8, iterC_8, upA_w8 (by omega)]
  rfl
theorem outC_8 {a : Hs} {r : Nat → Nat} : outC (w8 a r) = outC a := by
  unfold outC outB
  rw [ly_8, w8_c (by omega)]
theorem osum_8 {r r' : Nat → Nat} (I : Hs → Prop) (h1 : ∀ a, I a → itc r (flo a) (a 0 3) = itc r' (flo a) (a 0 3)) (h2 : ∀ a, I a → I (tkO a r)) : ∀ n a, I a → osum n (w8 a r) = osum n (w8 a r')
  | 0, a, _ => by
    show outC (w8 a r) = outC (w8 a r')
    rw [outC_8, outC_8]
  | n + 1, a, h => by
    show outC (w8 a r) + osum n (tickS (w8 a r)) = outC (w8 a r') + osum n (tickS (w8 a r'))
    rw [outC_8, outC_8, tick_8, tick_8, osum_8 I h1 h2 n _ (h2 a h)]
    unfold tkO
    rw [h1 a h]
theorem cm_c {a : Hs} {x c : Nat} (h : c ≠ 5) : cm x a c = a c := by
  unfold cm
  split
  · exact upA_c h
  · rfl
theorem itc_c {r : Nat → Nat} {b : Hs} {c : Nat} (h : c ≠ 5) : ∀ n, itc r b n c = b c
  | 0 => rfl
  | n + 1 => by
    show cm (r n) (itc r b n) c = b c
    rw [cm_c h, itc_c h n]
theorem flo_c {a : Hs} {c : Nat} (h : c ≠ 5 ∧ c ≠ 6 ∧ c ≠ 7) : flo a c = a c := iterG_c h _
theorem tkO_c {a : Hs} {r : Nat → Nat} {c : Nat} (h : c ≠ 0 ∧ c ≠ 5 ∧ c ≠ 6 ∧ c ≠ 7) : tkO a r c = a c := by
  unfold tkO
  rw [upA_c h.1, itc_c h.2.1, flo_c h.2]
theorem tkO_3 {a : Hs} {r : Nat → Nat} : tkO a r 0 3 = a 0 3 := by
  unfold tkO
  rw [upA_ne (by omega), itc_c (by omega), flo_c (by omega)]
theorem itc_congr {r r' : Nat → Nat} {b : Hs} : ∀ n, (∀ k, k < n → r k = r' k) → itc r b n = itc r' b n
  | 0, _ => rfl
  | n + 1, h => by
    show cm (r n) (itc r b n) = cm (r' n) (itc r' b n)
    rw [h n (by omega), itc_congr n (fun k hk => h k (by omega))]
theorem osum_congr {r r' : Nat → Nat} {a : Hs} {n : Nat} (h : ∀ k, k < a 0 3 → r k = r' k) : osum n (w8 a r) = osum n (w8 a r') :=
  osum_8 (fun b => b 0 3 = a 0 3) (fun b hb => itc_congr _ (fun k hk => h k (by rw [← hb]; exact hk))) (fun b hb => tkO_3.trans hb) n a rfl
/-- not waiting -/
def NW (a : Hs) (x : Nat) : Prop := a 5 x ≠ 20 ∧ a 5 x ≤ 21
theorem NW_cm {b : Hs} {x y : Nat} (h : NW b x) : NW (cm y b) x := by
  unfold cm
  split
  · next c =>
    unfold NW
    rw [upA_ne (fun q => h.1 (by rw [q.2]; exact c.1))]
    exact h
  · exact h
theorem NW_fall {b : Hs} {x i : Nat} (h : NW b x) : NW (fallA b i) x := by
  unfold NW at h ⊢
  have := fallA_5 (a := b) (i := i)
  by_cases e : x = i
  · rw [e] at h ⊢
    rcases this.2 with q | ⟨q1, q2 | q2⟩ <;> omega
  · rw [this.1 x e]; exact h
theorem NW_F {lay : Nat → Nat} {f x : Nat} {b : Hs} (h : NW b x) : ∀ n, NW (iter n (stepF lay f) b) x
  | 0 => h
  | n + 1 => by
    show NW (stepF lay f n (iter n (stepF lay f) b)) x
    have key : ∀ Y : Hs, NW Y x → NW (stepF lay f n Y) x := by
      intro Y k
      unfold stepF
      split
      · exact NW_fall k
      · exact k
    exact key _ (NW_F h n)
theorem NW_G {lay : Nat → Nat} {x : Nat} {b : Hs} (h : NW b x) : ∀ n, NW (iter n (floorA lay) b) x
  | 0 => h
  | n + 1 => by
    show NW (floorA lay n (iter n (floorA lay) b)) x
    rw [floorA_eq]
    exact NW_F (NW_G h n) _
theorem NW_itc {r : Nat → Nat} {b : Hs} {x : Nat} (h : NW b x) : ∀ n, NW (itc r b n) x
  | 0 => h
  | n + 1 => NW_cm (NW_itc h n)
theorem NW_tkO {r : Nat → Nat} {a : Hs} {x : Nat} (h : NW a x) : NW (tkO a r) x := by
  unfold tkO NW
  rw [upA_c (by omega)]
  exact NW_itc (NW_G h _) _
def Ind (a : Hs) (x y : Nat) : Prop := (NW a x ∨ NW a y ∨ a 2 x ≠ a 2 y) ∧ a 2 x ≠ 20 ∧ a 2 y ≠ 20
theorem Ind_flo {a : Hs} {x y : Nat} (h : Ind a x y) : Ind (flo a) x y := by
  unfold Ind at h ⊢
  rw [flo_c (c := 2) (by omega)]
  exact ⟨h.1.imp (fun q => NW_G q _) (fun q => q.imp (fun q => NW_G q _) id), h.2⟩
theorem Ind_itc {a : Hs} {r : Nat → Nat} {x y n : Nat} (h : Ind a x y) : Ind (itc r a n) x y := by
  unfold Ind at h ⊢
  rw [itc_c (c := 2) (by omega)]
  exact ⟨h.1.imp (fun q => NW_itc q _) (fun q => q.imp (fun q => NW_itc q _) id), h.2⟩
theorem Ind_tkO {a : Hs} {r : Nat → Nat} {x y : Nat} (h : Ind a x y) : Ind (tkO a r) x y := by
  unfold Ind at h ⊢
  rw [tkO_c (c := 2) (by omega)]
  exact ⟨h.1.imp (fun q => NW_tkO q) (fun q => q.imp (fun q => NW_tkO q) id), h.2⟩
theorem ldN_cg {pl pl' th : Nat → Nat} {q : Nat} : ∀ n, (∀ i, i < n → (pl i = q ↔ pl' i = q)) → ldN pl th q n = ldN pl' th q n
  | 0, _ => rfl
  | n + 1, h => by
    show ldN pl th q n + (if pl n = q then th n else 0) = ldN pl' th q n + (if pl' n = q then th n else 0)
    rw [ldN_cg n (fun i hi => h i (by omega))]
    by_cases c : pl n = q
    · rw [if_pos c, if_pos ((h n (by omega)).mp c)]
    · rw [if_neg c, if_neg (fun z => c ((h n (by omega)).mpr z))]
theorem room_mv {b : Hs} {x y q v : Nat} (hxy : x ≠ y) (h1 : b 5 y ≠ q) (h2 : v ≠ q) : roomS (upA b 5 y v) x q = roomS b x q := by
  have e : ld (upA b 5 y v) q = ld b q := by
    unfold ld
    rw [upA_c (show (3 : Nat) ≠ 5 by omega), upA_c (show (0 : Nat) ≠ 5 by omega)]
    refine ldN_cg _ (fun i _ => ?_)
    by_cases e : i = y
    · rw [e, upA_same]
      exact ⟨fun z => absurd z h2, fun z => absurd z h1⟩
    · rw [upA_ne (fun z => e z.2)]
  unfold roomS ldB
  rw [e, upA_c (show (1 : Nat) ≠ 5 by omega), upA_c (show (3 : Nat) ≠ 5 by omega), upA_c (show (0 : Nat) ≠ 5 by omega), upA_ne (show ¬ (5 = 5 ∧ x = y) from fun z => hxy z.2)]
theorem upA_comm2 {a : Hs} {c j v j' v' : Nat} (h : j ≠ j') : upA (upA a c j v) c j' v' = upA (upA a c j' v') c j v := by
  funext x y
  simp only [upA_at]
  by_cases e1 : x = c ∧ y = j'
  · rw [if_pos e1, if_neg (fun q => h (q.2.symm.trans e1.2)), if_pos e1]
  · rw [if_neg e1]
    by_cases e2 : x = c ∧ y = j
    · rw [if_pos e2, if_pos e2]
    · rw [if_neg e2, if_neg e2, if_neg e1]
theorem cm_no {b : Hs} {x : Nat} (h : b 5 x ≠ 20) : cm x b = b := by
  unfold cm
  rw [if_neg (fun q => h q.1)]
theorem cm_5 {b : Hs} {x y : Nat} (h : x ≠ y) : cm y b 5 x = b 5 x := by
  unfold cm
  split
  · exact upA_ne (fun q => h q.2)
  · rfl
def cC (x : Nat) (a : Hs) : Prop := a 5 x = 20 ∧ (a 0 4).testBit x = false ∧ a 4 x ≤ a 0 2 ∧ roomS a x (a 2 x) = true
theorem cm_p {b : Hs} {x : Nat} (h : cC x b) : cm x b = upA b 5 x (b 2 x) := if_pos h
theorem cm_n {b : Hs} {x : Nat} (h : ¬ cC x b) : cm x b = b := if_neg h
theorem cC_mv {b : Hs} {x y : Nat} (hxy : x ≠ y) (h20 : b 5 y = 20) (hx : b 2 x ≠ 20) (h2 : b 2 x ≠ b 2 y) : cC x (upA b 5 y (b 2 y)) ↔ cC x b := by
  unfold cC
  rw [upA_ne (show ¬ (5 = 5 ∧ x = y) from fun z => hxy z.2), upA_c (show (0 : Nat) ≠ 5 by omega), upA_c (show (4 : Nat) ≠ 5 by omega), upA_c (show (2 : Nat) ≠ 5 by omega), room_mv hxy (by rw [h20]; exact fun z => hx z.symm) (fun z => h2 z.symm)]
theorem cm_comm {b : Hs} {x y : Nat} (h : Ind b x y) : cm x (cm y b) = cm y (cm x b) := by
  by_cases hxy : x = y
  · rw [hxy]
  · obtain ⟨h1, hx, hy⟩ := h
    rcases h1 with h1 | h1 | h1
    · rw [cm_no h1.1, cm_no (by rw [cm_5 hxy]; exact h1.1)]
    · rw [cm_no h1.1, cm_no (b := cm x b) (by rw [cm_5 (fun z => hxy z.symm)]; exact h1.1)]
    · by_cases px : cC x b
      · by_cases py : cC y b
        · rw [cm_p px, cm_p py, cm_p ((cC_mv hxy py.1 hx h1).mpr px), cm_p ((cC_mv (fun z => hxy z.symm) px.1 hy (fun z => h1 z.symm)).mpr py), upA_c (by omega), upA_c (by omega), upA_comm2 hxy]
        · rw [cm_n py, cm_p px, cm_n (fun z => py ((cC_mv (fun z => hxy z.symm) px.1 hy (fun z => h1 z.symm)).mp z))]
      · by_cases py : cC y b
        · rw [cm_n px, cm_p py, cm_n (fun z => px ((cC_mv hxy py.1 hx h1).mp z))]
        · rw [cm_n px, cm_n py, cm_n px]
def sw (k : Nat) (r : Nat → Nat) : Nat → Nat := fun j => if j = k then r (k + 1) else if j = k + 1 then r k else r j
theorem itc_sw {r : Nat → Nat} {b : Hs} {k : Nat} (h : Ind b (r k) (r (k + 1))) : ∀ m, itc (sw k r) b (k + 2 + m) = itc r b (k + 2 + m)
  | 0 => by
    show cm (sw k r (k + 1)) (cm (sw k r k) (itc (sw k r) b k)) = cm (r (k + 1)) (cm (r k) (itc r b k))
    have e1 : sw k r (k + 1) = r k := by unfold sw; rw [if_neg (by omega), if_pos rfl]
    have e2 : sw k r k = r (k + 1) := by unfold sw; rw [if_pos rfl]
    rw [e1, e2, itc_congr (r := sw k r) (r' := r) k (fun j hj => by unfold sw; rw [if_neg (by omega), if_neg (by omega)])]
    exact cm_comm (Ind_itc h)
  | m + 1 => by
    show cm (sw k r (k + 2 + m)) (itc (sw k r) b (k + 2 + m)) = cm (r (k + 2 + m)) (itc r b (k + 2 + m))
    have e1 : sw k r (k + 2 + m) = r (k + 2 + m) := by unfold sw; rw [if_neg (by omega), if_neg (by omega)]
    rw [e1, itc_sw h m]
theorem osum_sw {r : Nat → Nat} {a : Hs} {k n : Nat} (hk : k + 1 < a 0 3) (h : Ind a (r k) (r (k + 1))) : osum n (w8 a (sw k r)) = osum n (w8 a r) := by
  refine (osum_8 (r := r) (r' := sw k r) (fun b => b 0 3 = a 0 3 ∧ Ind b (r k) (r (k + 1))) (fun b hb => ?_) (fun b hb => ⟨tkO_3.trans hb.1, Ind_tkO hb.2⟩) n a ⟨rfl, h⟩).symm
  have := itc_sw (r := r) (b := flo b) (k := k) (Ind_flo hb.2) (a 0 3 - (k + 2))
  rw [show k + 2 + (a 0 3 - (k + 2)) = b 0 3 by have := hb.1; omega] at this
  exact this.symm
def mv (r : Nat → Nat) (k i : Nat) : Nat → Nat := fun j => if j < k then r j else if j = k then r i else if j ≤ i then r (j - 1) else r j
theorem mv_ii (r : Nat → Nat) (i : Nat) : mv r i i = r := by
  funext j
  unfold mv
  by_cases c1 : j < i
  · rw [if_pos c1]
  · rw [if_neg c1]
    by_cases c2 : j = i
    · rw [if_pos c2, c2]
    · rw [if_neg c2, if_neg (by omega)]
theorem mv_sw (r : Nat → Nat) {k i : Nat} (h : k < i) : mv r k i = sw k (mv r (k + 1) i) := by
  funext j
  show (if j < k then r j else if j = k then r i else if j ≤ i then r (j - 1) else r j) = (if j = k then (if k + 1 < k + 1 then r (k + 1) else if k + 1 = k + 1 then r i else if k + 1 ≤ i then r (k + 1 - 1) else r (k + 1)) else if j = k + 1 then (if k < k + 1 then r k else if k = k + 1 then r i else if k ≤ i then r (k - 1) else r k) else (if j < k + 1 then r j else if j = k + 1 then r i else if j ≤ i then r (j - 1) else r j))
  rw [if_neg (show ¬ k + 1 < k + 1 by omega), if_pos (show k + 1 = k + 1 from rfl), if_pos (show k < k + 1 by omega)]
  by_cases c1 : j = k
  · rw [if_neg (show ¬ j < k by omega), if_pos c1, if_pos c1]
  · rw [if_neg c1, if_neg c1]
    by_cases c2 : j = k + 1
    · rw [if_pos c2, if_neg (show ¬ j < k by omega), if_pos (show j ≤ i by omega), c2]
      rfl
    · rw [if_neg c2, if_neg c2]
      by_cases c3 : j < k
      · rw [if_pos c3, if_pos (show j < k + 1 by omega)]
      · rw [if_neg c3, if_neg (show ¬ j < k + 1 by omega)]
theorem osum_mv {r : Nat → Nat} {a : Hs} {i n : Nat} (hi : i < a 0 3) : ∀ m k, k + m = i → (∀ j, k ≤ j → j < i → Ind a (r j) (r i)) → osum n (w8 a (mv r k i)) = osum n (w8 a r)
  | 0, k, h, _ => by rw [show k = i by omega, mv_ii]
  | m + 1, k, h, hj => by
    rw [mv_sw r (by omega), osum_sw (by omega), osum_mv hi m (k + 1) (by omega) (fun j h1 h2 => hj j (by omega) h2)]
    have e1 : mv r (k + 1) i k = r k := by unfold mv; rw [if_pos (by omega)]
    have e2 : mv r (k + 1) i (k + 1) = r i := by unfold mv; rw [if_neg (by omega), if_pos rfl]
    rw [e1, e2]
    exact hj k (by omega) (by omega)
