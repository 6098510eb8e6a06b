/-! Hours, costs, what a day leaves: the class. -/
section Co
theorem fld_snoc {f : Int → Int → Int} : ∀ (n : Nat) (v a : Int), fld f (n + 1) v a = f (v + n) (fld f n v a) := by
  intro n
  induction n with
  | zero => intro v a; simp [fld]
  | succ n ih =>
    intro v a
    show fld f (n + 1) (v + 1) (f v a) = _
    rw [ih]
    have e : v + 1 + (n : Int) = v + ((n + 1 : Nat) : Int) := by omega
    rw [e]
    rfl
theorem fld_up {f : Int → Int → Int} {i a : Int} (h : 0 ≤ i) : fld f (i + 1).toNat 0 a = f i (fld f i.toNat 0 a) := by
  have e : (i + 1).toNat = i.toNat + 1 := by omega
  have e2 : (0 : Int) + (i.toNat : Int) = i := by omega
  rw [e, fld_snoc, e2]
def clp (x : Int) : Int := if x < 0 then 0 else if 999 < x then 999 else x
theorem clp_c (x : Int) : imx 0 (imn 999 x) = clp x := by
  unfold imx imn clp
  split <;> split <;> (try split) <;> omega
theorem clp_r (x : Int) : 0 ≤ clp x ∧ clp x ≤ 999 := by unfold clp; split <;> (try split) <;> omega
def whS (H : Mm) (S : Nat → Int) (h : Int) : Int := faS H S (S (10 + h).toNat) (H 219 h.toNat)
def ofS (H : Mm) (h x : Int) : Int := if x < 0 then 240 else if x < H 220 h.toNat then H 220 h.toNat - x else x - H 220 h.toNat
def coS (f : Int → Int → Int → Int) (H : Mm) (S : Nat → Int) (h : Int) : Int := clp (f (ofS H h (whS H S h)) (if whS H S h < 0 then 1 else 0) (S 0))
def csS (f : Int → Int → Int → Int) (H : Mm) (S : Nat → Int) : Int := fld (fun h a => a + coS f H S h) (H 205 2).toNat 0 0
def miS (H : Mm) (S : Nat → Int) : Int := fld (fun h a => if whS H S h < 0 then a + 1 else a) (H 205 2).toNat 0 0
def mtS (H : Mm) (S : Nat → Int) : Int := fld (fun a acc => fld (fun b acc' => if fmS H S a b < 0 then acc' else acc' + 1) a.toNat 0 acc) (H 205 1).toNat 0 0
def LawC (f : Int → Int → Int → Int) (c : Mm) (th : Nat) : Prop := ∀ (m : Mm) (o s y : Int), m th 2 = c th 2 → m (th + 1) = c (th + 1) → (s = 0 ∨ s = 1) → (0 ≤ o ∧ o ≤ 240) → w32 y = y → TT (fn_Law_cost th o s y m) (fun r m' => r = clp (f o s y) ∧ (∀ a, a ≠ th → a ≠ th + 2 → m' a = m a) ∧ ∀ j, j ≠ 3 → m' th j = m th j)
def LawM (f : Int → Int → Int → Int) (H : Mm) : Prop := ∀ (m : Mm) (o s y : Int), m 221 0 = H 221 0 → m 222 0 = H 222 0 → (∀ j, j < 1000 → m 223 j = H 223 j) → (s = 0 ∨ s = 1) → (0 ≤ o ∧ o ≤ 240) → w32 y = y → (¬ H 221 0 < H 222 0 → f o s y = o) ∧ (H 221 0 < H 222 0 → m 235 1 = o → m 235 2 = s → m 235 3 = y → TT (fn_Model_worked 0 m) (fun r m' => r = f o s y ∧ ∀ a, a < 226 ∨ 235 ≤ a → m' a = m a))
def HX (m : Mm) (hc : Nat) (H : Mm) : Prop := ∀ h : Int, 0 ≤ h → h < H 205 2 → m (hc + 7) h.toNat = H 218 h.toNat ∧ m (hc + 8) h.toNat = H 219 h.toNat ∧ m (hc + 9) h.toNat = H 220 h.toNat
theorem VO_congr {H : Mm} {S : Nat → Int} {m m' : Mm} {hc sc : Nat} (h : VO H S m hc sc m) (e : ∀ a, 98 ≤ a → a ≤ 103 → m' a = m a) : VO H S m' hc sc m' := by
  obtain ⟨⟨h1, h2, h3, h4, h5⟩, h6⟩ := h
  have e98 := e 98 (by omega) (by omega)
  have e99 := e 99 (by omega) (by omega)
  have e100 := e 100 (by omega) (by omega)
  have e101 := e 101 (by omega) (by omega)
  have e102 := e 102 (by omega) (by omega)
  refine ⟨⟨fun _ _ => rfl, by rw [e98]; exact h2, by rw [e98]; exact h3, by rw [e98]; exact h4, by rw [e98]; exact h5⟩, fun w w0 w1 => ?_⟩
  have := h6 w w0 w1
  unfold EnW at this ⊢
  rw [e99, e100, e101, e102]
  exact this
theorem HW_congr {H m m' : Mm} {hc : Nat} (hn : H 205 1 ≤ 6) (h : HW m hc H) (e : ∀ a, hc ≤ a → a ≤ hc + 36 → (a ≤ hc + 9 ∨ hc + 13 ≤ a) → m' a = m a) : HW m' hc H := by
  obtain ⟨h0, h1, h2, h3, h4, h5⟩ := h
  refine ⟨h0, ?_, ?_, ?_, fun w w0 w1 => ?_, fun p q p0 p1 q0 q1 => ?_⟩
  · rw [e hc (by omega) (by omega) (by omega)]; exact h1
  · rw [e hc (by omega) (by omega) (by omega)]; exact h2
  · rw [e hc (by omega) (by omega) (by omega)]; exact h3
  · rw [e (hc + 4 * w.toNat + 13) (by omega) (by omega) (by omega), e (hc + 4 * w.toNat + 14) (by omega) (by omega) (by omega), e (hc + 4 * w.toNat + 15) (by omega) (by omega) (by omega), e (hc + 4 * w.toNat + 16) (by omega) (by omega) (by omega)]
    exact h4 w w0 w1
  · rw [e (hc + 5) (by omega) (by omega) (by omega)]; exact h5 p q p0 p1 q0 q1
theorem SW_congr {H m m' : Mm} {S : Nat → Int} {sc : Nat} (h : SW m sc H S) (e0 : m' sc = m sc) (e1 : m' (sc + 1) = m (sc + 1)) (e2 : m' (sc + 2) = m (sc + 2)) : SW m' sc H S := by
  unfold SW at h ⊢
  rw [e0, e1, e2]
  exact h
theorem HX_congr {H m m' : Mm} {hc : Nat} (h : HX m hc H) (e : ∀ a, hc + 7 ≤ a → a ≤ hc + 9 → m' a = m a) : HX m' hc H := by
  unfold HX at h ⊢
  rw [e (hc + 7) (by omega) (by omega), e (hc + 8) (by omega) (by omega), e (hc + 9) (by omega) (by omega)]
  exact h
theorem LawC_congr {f : Int → Int → Int → Int} {m m' : Mm} {th : Nat} (h : LawC f m th) (e1 : m' th 2 = m th 2) (e2 : m' (th + 1) = m (th + 1)) : LawC f m' th := fun q o s y z1 z2 => h q o s y (z1.trans e1) (z2.trans e2)
/-- the walk is laid, by these hills and this state -/
def WB (f : Int → Int → Int → Int) (H : Mm) (S : Nat → Int) (hc sc : Nat) (m : Mm) : Prop := HD H ∧ SD H S ∧ VO H S m hc sc m ∧ HW m hc H ∧ SW m sc H S ∧ HX m hc H ∧ LawC f m (hc + 10)
/-- nothing but what a law works with has changed -/
def LwF (hc : Nat) (m m' : Mm) : Prop := (∀ a, a ≠ hc + 10 → a ≠ hc + 12 → m' a = m a) ∧ ∀ j, j ≠ 3 → m' (hc + 10) j = m (hc + 10) j
theorem LwF_refl {hc : Nat} {m : Mm} : LwF hc m m := ⟨fun _ _ _ => rfl, fun _ _ => rfl⟩
theorem LwF_trans {hc : Nat} {m m1 m2 : Mm} (h : LwF hc m m1) (h' : LwF hc m1 m2) : LwF hc m m2 := ⟨fun a x y => (h'.1 a x y).trans (h.1 a x y), fun j x => (h'.2 j x).trans (h.2 j x)⟩
theorem WB_law {f : Int → Int → Int → Int} {H : Mm} {S : Nat → Int} {hc sc : Nat} {m m' : Mm} (h : WB f H S hc sc m) (e : LwF hc m m') : WB f H S hc sc m' := by
  obtain ⟨h1, h2, h3, h4, h5, h6, h7⟩ := h
  have hn := h1.1
  have hc0 := h4.1
  have hs0 := h5.1
  obtain ⟨e1, e2⟩ := e
  exact ⟨h1, h2, VO_congr h3 (fun a _ _ => e1 a (by omega) (by omega)), HW_congr (by omega) h4 (fun a _ _ _ => e1 a (by omega) (by omega)), SW_congr h5 (e1 _ (by omega) (by omega)) (e1 _ (by omega) (by omega)) (e1 _ (by omega) (by omega)), HX_congr h6 (fun a _ _ => e1 a (by omega) (by omega)), LawC_congr h7 (e2 2 (by omega)) (e1 _ (by omega) (by omega))⟩
section
variable {f : Int → Int → Int → Int} {H : Mm} {S : Nat → Int} {hc sc : Nat} {m : Mm}
theorem WB_k (h : WB f H S hc sc m) : isK 0 (hc : Int) = true ∧ isK 6 (sc : Int) = true ∧ m 98 0 = (hc : Int) ∧ m 98 1 = (sc : Int) := by
  obtain ⟨h1, h2, h3, h4, h5, h6, h7⟩ := h
  refine ⟨isK0 (by have := h4.1; omega), ?_, h3.1.2.1, h3.1.2.2.1⟩
  rcases h5.1 with h | h <;> subst h <;> decide
theorem whS_r (h1 : HD H) {h : Int} : whS H S h = -1 ∨ (0 ≤ whS H S h ∧ whS H S h < 240) := by
  have := fst_rng (P := fun t => decide (atS H S t (S (10 + h).toNat) = H 219 h.toNat)) (j := 240) (v := 0) (by omega)
  unfold whS faS
  omega
theorem ofS_r0 {H : Mm} {S : Nat → Int} {h : Int} (hH : HD H) (h0 : 0 ≤ h) (h1 : h < H 205 2) : 0 ≤ ofS H h (whS H S h) ∧ ofS H h (whS H S h) ≤ 240 := by
  have a := whS_r (S := S) (h := h) hH
  have b := (hH.2.2.2.2 h h0 h1).2.2.2.2
  unfold ofS
  split
  · omega
  · split <;> omega
theorem minuteOf_eq (hb : WB f H S hc sc m) {h : Int} (h0 : 0 ≤ h) (h1 : h < H 205 2) : fn_Walk_minuteOf h m = some (whS H S h, m) := by
  obtain ⟨k0, k6, e0, e1⟩ := WB_k hb
  obtain ⟨g1, g2, g3, g4, g5, g6, g7⟩ := hb
  have hn := g1.1
  have hh := g1.2.2.2.2 h h0 h1
  have hs := g2.2.2.2.2.1 h h0 h1
  have e2 := g5.2.2.2.2.2.2 h h0 h1
  have e3 := (g6 h h0 h1).2.1
  unfold fn_Walk_minuteOf
  rw [e0, e1]
  simp only [Int.toNat_natCast]
  rw [if_pos k6, if_pos ⟨h0, by omega⟩, if_pos k0, if_pos ⟨h0, by omega⟩, e2, e3, firstAt_eq g1 g3 hs.1 hs.2 hh.2.2.1, bd_some]
  rfl
theorem iab_of {x y : Int} (h : 0 ≤ x) (h1 : x ≤ 239) (h2 : 0 ≤ y) (h3 : y ≤ 239) : iab (w32 (x - y)) = if x < y then y - x else x - y := by
  rw [w32_in (by omega) (by omega)]
  unfold iab
  by_cases c : x < y
  · rw [if_pos (by omega), if_pos c, w32_in (by omega) (by omega)]
    omega
  · rw [if_neg (by omega), if_neg c]
theorem offBy_eq (hb : WB f H S hc sc m) {h w : Int} (h0 : 0 ≤ h) (h1 : h < H 205 2) (w0 : 0 ≤ w) (w1 : w < H 205 1) : fn_Walk_offBy h w m = some (ofS H h (faS H S w (H 219 h.toNat)), m) := by
  obtain ⟨k0, k6, e0, e1⟩ := WB_k hb
  obtain ⟨g1, g2, g3, g4, g5, g6, g7⟩ := hb
  have hn := g1.1
  have hh := g1.2.2.2.2 h h0 h1
  have e3 := (g6 h h0 h1).2.1
  have e4 := (g6 h h0 h1).2.2
  have hr := fst_rng (P := fun t => decide (atS H S t w = H 219 h.toNat)) (j := 240) (v := 0) (by omega)
  change (faS H S w (H 219 h.toNat) = -1 ∨ _ ≤ faS H S w (H 219 h.toNat) ∧ faS H S w (H 219 h.toNat) < _ ∧ _) at hr
  unfold fn_Walk_offBy
  rw [e0]
  simp only [Int.toNat_natCast]
  rw [if_pos k0, if_pos ⟨h0, by omega⟩, e3, firstAt_eq g1 g3 w0 w1 hh.2.2.1, bd_some]
  unfold ofS
  by_cases c : faS H S w (H 219 h.toNat) = -1
  · rw [if_pos c, if_pos (by omega)]
  · rw [if_neg c, e0]
    simp only [Int.toNat_natCast]
    rw [if_pos k0, if_pos ⟨h0, by omega⟩, e4, iab_of (by omega) (by omega) (by omega) (by omega), if_neg (by omega : ¬ faS H S w (H 219 h.toNat) < 0)]
theorem off_eq (hb : WB f H S hc sc m) {h : Int} (h0 : 0 ≤ h) (h1 : h < H 205 2) : fn_Walk_off h m = some (ofS H h (whS H S h), m) := by
  obtain ⟨k0, k6, e0, e1⟩ := WB_k hb
  have hb' := hb
  obtain ⟨g1, g2, g3, g4, g5, g6, g7⟩ := hb
  have hn := g1.1
  have hs := g2.2.2.2.2.1 h h0 h1
  have e2 := g5.2.2.2.2.2.2 h h0 h1
  unfold fn_Walk_off
  rw [e1]
  simp only [Int.toNat_natCast]
  rw [if_pos k6, if_pos ⟨h0, by omega⟩, e2, offBy_eq hb' h0 h1 hs.1 hs.2, bd_some]
  rfl
theorem cost_ok (hb : WB f H S hc sc m) {h : Int} (h0 : 0 ≤ h) (h1 : h < H 205 2) : TT (fn_Walk_cost h m) (fun r m' => r = coS f H S h ∧ LwF hc m m') := by
  obtain ⟨k0, k6, e0, e1⟩ := WB_k hb
  have hb' := hb
  obtain ⟨g1, g2, g3, g4, g5, g6, g7⟩ := hb
  have hr := whS_r (S := S) (h := h) g1
  have es : m sc 0 = S 0 := g5.2.1
  unfold fn_Walk_cost
  rw [e0]
  simp only [Int.toNat_natCast]
  rw [if_pos k0, off_eq hb' h0 h1, bd_some, minuteOf_eq hb' h0 h1, bd_some]
  have fin : ∀ x : Int, (x = 0 ∨ x = 1) → x = (if whS H S h < 0 then 1 else 0) → TT (bo_Walk_cost_26 h (hc + 10) (ofS H h (whS H S h)) x m) (fun r m' => r = coS f H S h ∧ LwF hc m m') := by
    intro x x1 x2
    unfold bo_Walk_cost_26
    rw [e1]
    simp only [Int.toNat_natCast]
    rw [if_pos k6, es]
    refine TT_call (g7 m _ _ _ rfl rfl x1 (ofS_r0 g1 h0 h1) g2.2.2.2.2.2) (fun r m' q => TT_some.mpr ⟨?_, q.2.1, q.2.2⟩)
    rw [q.1, x2]
    rfl
  refine TT_if (fun c => fin 1 (by omega) (by rw [if_pos (by omega)])) (fun c => fin 0 (by omega) (by rw [if_neg (by omega)]))
theorem cs_r (i : Int) (h0 : 0 ≤ i) : 0 ≤ fld (fun h a => a + coS f H S h) i.toNat 0 0 ∧ fld (fun h a => a + coS f H S h) i.toNat 0 0 ≤ 999 * i := by
  have := fld_inv (f := fun h a => a + coS f H S h) (fun v a => 0 ≤ a ∧ a ≤ 999 * v) (j := i.toNat) (v := 0) (a := 0) (by omega) (fun t b t0 t1 hb => by
    have := clp_r (f (ofS H t (whS H S t)) (if whS H S t < 0 then 1 else 0) (S 0))
    change 0 ≤ coS f H S t ∧ coS f H S t ≤ 999 at this
    show 0 ≤ b + coS f H S t ∧ b + coS f H S t ≤ _
    omega)
  have e : (0 : Int) + (i.toNat : Int) = i := by omega
  rw [e] at this
  exact this
theorem costs_ok (hb : WB f H S hc sc m) : TT (fn_Walk_costs m) (fun r m' => r = csS f H S ∧ LwF hc m m') := by
  have hn := hb.1.1
  have hc0 := hb.2.2.2.1.1
  unfold fn_Walk_costs
  refine lp_inv2 (bo := bo_Walk_costs_4) (fun _ => rfl) (fun a i m' => 0 ≤ i ∧ i ≤ H 205 2 ∧ a = fld (fun h a => a + coS f H S h) i.toNat 0 0 ∧ LwF hc m m') (fun _ i _ => (6 - i).toNat) ?_ FU 0 0 m ⟨by omega, by omega, rfl, LwF_refl⟩ (by decide)
  intro k a i m' hI hk
  obtain ⟨i0, i1, ea, hl⟩ := hI
  have hb' := WB_law hb hl
  obtain ⟨k0, k6, e0, e1⟩ := WB_k hb'
  have hp : m' hc 2 = H 205 2 := hb'.2.2.2.1.2.2.2.1
  unfold bo_Walk_costs_4
  rw [e0]
  simp only [Int.toNat_natCast]
  rw [if_pos k0]
  simp only [hp]
  refine TT_if (fun c => ?_) (fun c => ?_)
  · refine TT_call (cost_ok hb' i0 c) (fun r m2 q => ?_)
    have r1 := cs_r (f := f) (H := H) (S := S) i i0
    have r2 := clp_r (f (ofS H i (whS H S i)) (if whS H S i < 0 then 1 else 0) (S 0))
    change 0 ≤ coS f H S i ∧ coS f H S i ≤ 999 at r2
    obtain ⟨rfl, q2⟩ := q
    subst ea
    simp (disch := omega) only [bn_eq, w32_in]
    exact hk _ _ _ ⟨by omega, by omega, by rw [fld_up i0], LwF_trans hl q2⟩ (by omega)
  · have e : i = H 205 2 := by omega
    refine TT_some.mpr ⟨?_, hl⟩
    rw [ea, e]
    rfl
theorem mi_r (i : Int) (h0 : 0 ≤ i) : 0 ≤ fld (fun h a => if whS H S h < 0 then a + 1 else a) i.toNat 0 0 ∧ fld (fun h a => if whS H S h < 0 then a + 1 else a) i.toNat 0 0 ≤ i := by
  have := fld_inv (f := fun h a => if whS H S h < 0 then a + 1 else a) (fun v a => 0 ≤ a ∧ a ≤ v) (j := i.toNat) (v := 0) (a := 0) (by omega) (fun t b t0 t1 hb => by
    show 0 ≤ (if whS H S t < 0 then b + 1 else b) ∧ (if whS H S t < 0 then b + 1 else b) ≤ t + 1
    split <;> omega)
  have e : (0 : Int) + (i.toNat : Int) = i := by omega
  rw [e] at this
  exact this
theorem missing_eq (hb : WB f H S hc sc m) : fn_Walk_missing m = some (miS H S, m) := by
  have hn := hb.1.1
  obtain ⟨k0, k6, e0, e1⟩ := WB_k hb
  have hp : m hc 2 = H 205 2 := hb.2.2.2.1.2.2.2.1
  refine TT_eq ?_
  unfold fn_Walk_missing
  refine lp_inv2 (bo := bo_Walk_missing_4) (fun _ => rfl) (fun a i m' => m' = m ∧ 0 ≤ i ∧ i ≤ H 205 2 ∧ a = fld (fun h a => if whS H S h < 0 then a + 1 else a) i.toNat 0 0) (fun _ i _ => (6 - i).toNat) ?_ FU 0 0 m ⟨rfl, by omega, by omega, rfl⟩ (by decide)
  intro k a i m' hI hk
  obtain ⟨rfl, i0, i1, ea⟩ := hI
  have r1 := mi_r (H := H) (S := S) i i0
  unfold bo_Walk_missing_4
  rw [e0]
  simp only [Int.toNat_natCast]
  rw [if_pos k0]
  simp only [hp]
  refine TT_if (fun c => ?_) (fun c => ?_)
  · rw [minuteOf_eq hb i0 c, bd_some]
    have hr := whS_r (S := S) (h := i) hb.1
    unfold bo_Walk_missing_27
    subst ea
    refine TT_if (fun d => ?_) (fun d => ?_)
    · simp (disch := omega) only [w32_in]
      exact hk _ _ _ ⟨rfl, by omega, by omega, by rw [fld_up i0, if_pos (by omega)]⟩ (by omega)
    · simp (disch := omega) only [w32_in]
      exact hk _ _ _ ⟨rfl, by omega, by omega, by rw [fld_up i0, if_neg (by omega)]⟩ (by omega)
  · have e : i = H 205 2 := by omega
    exact TT_some.mpr ⟨by rw [ea, e]; rfl, rfl⟩
end
end Co
