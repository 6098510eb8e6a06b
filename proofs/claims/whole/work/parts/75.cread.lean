/-! What is read off the class's walk. -/
section Rd
/-- the walk is laid: its visits are where one is -/
def VO (H : Mm) (S : Nat → Int) (c : Mm) (hc sc : Nat) (m : Mm) : Prop := GX c m hc sc ∧ ∀ w : Int, 0 ≤ w → w < H 205 1 → EnW H S m 239 240 w
theorem GI_VO {H : Mm} {S : Nat → Int} {c m : Mm} {hc sc : Nat} (h : GI H S c hc sc m 240) : VO H S c hc sc m := ⟨h.1, fun w h0 h1 => (h.2 w h0 h1).1⟩
theorem En_lt {H : Mm} {S : Nat → Int} {m : Mm} {w : Int} (h : EnW H S m 239 240 w) {i : Int} (i0 : 0 ≤ i) : ∀ (d : Nat), i + 1 + d < m 99 w.toNat → m 102 (4 * w + i).toNat < m 101 (4 * w + (i + 1 + d)).toNat := by
  obtain ⟨n1, n2, n3, n4, n5, n6⟩ := h
  intro d
  induction d with
  | zero => intro h1; have := n4 i i0 (by omega); simpa using this
  | succ d ih =>
    intro h1
    have h2 := ih (by omega)
    have h3 := n4 (i + 1 + d) (by omega) (by omega)
    have h4 := n3 (i + 1 + d) (by omega) (by omega)
    have e : i + 1 + ((d + 1 : Nat) : Int) = i + 1 + d + 1 := by omega
    rw [e]
    omega
theorem En_lt' {H : Mm} {S : Nat → Int} {m : Mm} {w : Int} (h : EnW H S m 239 240 w) {i j : Int} (i0 : 0 ≤ i) (h1 : i < j) (h2 : j < m 99 w.toNat) : m 102 (4 * w + i).toNat < m 101 (4 * w + j).toNat := by
  have := En_lt h i0 (j - i - 1).toNat (by omega)
  have e : i + 1 + ((j - i - 1).toNat : Int) = j := by omega
  rwa [e] at this
theorem En_at {H : Mm} {S : Nat → Int} {m : Mm} {w : Int} (h : EnW H S m 239 240 w) {u : Int} (u0 : 0 ≤ u) (u1 : u < 240) : atS H S u w = -1 ∨ ∃ i : Int, 0 ≤ i ∧ i < m 99 w.toNat ∧ m 101 (4 * w + i).toNat ≤ u ∧ u ≤ m 102 (4 * w + i).toNat ∧ atS H S u w = H 214 (4 * w + i).toNat := by
  obtain ⟨n1, n2, n3, n4, n5, n6⟩ := h
  by_cases c : ∃ i : Int, 0 ≤ i ∧ i < m 99 w.toNat ∧ m 101 (4 * w + i).toNat ≤ u ∧ u ≤ m 102 (4 * w + i).toNat
  · obtain ⟨i, i0, i1, i2, i3⟩ := c
    exact Or.inr ⟨i, i0, i1, i2, i3, n5 i u i0 i1 i2 i3 u1⟩
  · refine Or.inl (n6 u u0 u1 (fun i i0 i1 => ?_))
    by_cases d : u < m 101 (4 * w + i).toNat
    · exact Or.inl d
    · by_cases e : m 102 (4 * w + i).toNat < u
      · exact Or.inr e
      · exact absurd ⟨i, i0, i1, by omega, by omega⟩ c
theorem atS_r {H : Mm} {S : Nat → Int} (hH : HD H) (hS : SD H S) {u w : Int} (u0 : 0 ≤ u) (u1 : u < 240) (h0 : 0 ≤ w) (h1 : w < H 205 1) : atS H S u w = -1 ∨ (0 ≤ atS H S u w ∧ atS H S u w < H 205 0) := by
  obtain ⟨g1, g2, g3, g4, g5⟩ := wS_ok hH hS u.toNat (by omega) w h0 h1
  have k11 := (hH.2.1 w h0 h1).2.2.2.2.2.2.2.2.2.2.1 _ g1 g2
  unfold atS wAt
  split
  · exact Or.inl rfl
  · exact Or.inr k11
theorem placeOf_eq {H : Mm} {S : Nat → Int} {c m : Mm} {hc sc : Nat} (hH : HD H) (hv : VO H S c hc sc m) {w u : Int} (h0 : 0 ≤ w) (h1 : w < H 205 1) (u0 : 0 ≤ u) (u1 : u < 240) : fn_Walk_placeOf w u m = some (atS H S u w, m) := by
  have hn := hH.1
  have hE := hv.2 w h0 h1
  have hat := En_at hE u0 u1
  obtain ⟨n1, n2, n3, n4, n5, n6⟩ := hE
  have k10 : H 215 w.toNat ≤ 4 := (hH.2.1 w h0 h1).2.2.2.2.2.2.2.2.2.1
  refine TT_eq ?_
  unfold fn_Walk_placeOf
  simp (disch := omega) only [bn_eq, w32_in]
  refine lp_inv1 (bo := bo_Walk_placeOf_4 w u) (fun _ => rfl) (fun a m' => m' = m ∧ ∃ i : Int, a = w * 4 + i ∧ 0 ≤ i ∧ i ≤ m 99 w.toNat ∧ ∀ j : Int, 0 ≤ j → j < i → u < m 101 (4 * w + j).toNat ∨ m 102 (4 * w + j).toNat < u) (fun a _ => (24 - a).toNat) ?_ FU (w * 4) m ⟨rfl, 0, by omega, by omega, by omega, fun j j0 j1 => by omega⟩ (by show (24 - w * 4).toNat < 2000; omega)
  intro k a m' hI hk
  obtain ⟨rfl, i, rfl, i0, i1, hj⟩ := hI
  have e : w * 4 + i = 4 * w + i := by omega
  unfold bo_Walk_placeOf_4
  simp (disch := omega) only [g_pos, w32_in, e]
  refine TT_if (fun b => ?_) (fun b => ?_)
  · have next : (u < m' 101 (4 * w + i).toNat ∨ m' 102 (4 * w + i).toNat < u) → TT (bo_Walk_placeOf_45 w u k (4 * w + i) m') (fun r m'' => r = atS H S u w ∧ m'' = m') := by
      intro z
      unfold bo_Walk_placeOf_45
      simp (disch := omega) only [w32_in]
      refine hk _ m' ⟨rfl, i + 1, by omega, by omega, by omega, fun j j0 j1 => ?_⟩ (by omega)
      by_cases d : j = i
      · subst d; exact z
      · exact hj j j0 (by omega)
    refine TT_if (fun d => next (Or.inl d)) (fun d => ?_)
    refine TT_if (fun f => next (Or.inr f)) (fun f => ?_)
    refine TT_some.mpr ⟨?_, rfl⟩
    rw [n5 i u i0 (by omega) (by omega) (by omega) u1]
    exact (n3 i i0 (by omega)).2.2.2.2
  · refine TT_some.mpr ⟨?_, rfl⟩
    rw [n6 u u0 u1 (fun j j0 j1 => hj j j0 (by omega))]
/-- the first minute at a place -/
def faS (H : Mm) (S : Nat → Int) (w p : Int) : Int := fst (fun t => decide (atS H S t w = p)) 240 0
theorem firstAt_eq {H : Mm} {S : Nat → Int} {c m : Mm} {hc sc : Nat} (hH : HD H) (hv : VO H S c hc sc m) {w p : Int} (h0 : 0 ≤ w) (h1 : w < H 205 1) (p0 : 0 ≤ p) : fn_Walk_firstAt w p m = some (faS H S w p, m) := by
  have hn := hH.1
  have hE := hv.2 w h0 h1
  have hE' := hE
  obtain ⟨n1, n2, n3, n4, n5, n6⟩ := hE
  have k10 : H 215 w.toNat ≤ 4 := (hH.2.1 w h0 h1).2.2.2.2.2.2.2.2.2.1
  refine TT_eq ?_
  unfold fn_Walk_firstAt
  simp (disch := omega) only [bn_eq, w32_in]
  refine lp_inv1 (bo := bo_Walk_firstAt_4 w p) (fun _ => rfl) (fun a m' => m' = m ∧ ∃ i : Int, a = w * 4 + i ∧ 0 ≤ i ∧ i ≤ m 99 w.toNat ∧ ∀ j : Int, 0 ≤ j → j < i → H 214 (4 * w + j).toNat ≠ p) (fun a _ => (24 - a).toNat) ?_ FU (w * 4) m ⟨rfl, 0, by omega, by omega, by omega, fun j j0 j1 => by omega⟩ (by show (24 - w * 4).toNat < 2000; omega)
  intro k a m' hI hk
  obtain ⟨rfl, i, rfl, i0, i1, hj⟩ := hI
  have e : w * 4 + i = 4 * w + i := by omega
  unfold bo_Walk_firstAt_4
  simp (disch := omega) only [g_pos, w32_in, e]
  refine TT_if (fun b => ?_) (fun b => ?_)
  · obtain ⟨f1, f2, f3, f4, f5⟩ := n3 i i0 (by omega)
    simp (disch := omega) only [g_pos, f5]
    refine TT_if (fun d => ?_) (fun d => ?_)
    · refine TT_some.mpr ⟨?_, rfl⟩
      have := (fst_some (P := fun t => decide (atS H S t w = p)) (j := 240) (v := 0) (t := m' 101 (4 * w + i).toNat) (by omega)).mpr ⟨f1, by omega, by simp only [decide_eq_true_eq]; rw [n5 i _ i0 (by omega) (Int.le_refl _) f3 (by omega), d], fun u u0 u1 => ?_⟩
      · exact this.1.symm
      · simp only [decide_eq_false_iff_not]
        intro z
        rcases En_at hE' u0 (by omega : u < 240) with y | ⟨j, j0, j1, j2, j3, j4⟩
        · omega
        · by_cases c1 : j < i
          · exact hj j j0 c1 (by omega)
          · by_cases c2 : j = i
            · subst c2; omega
            · have := En_lt' hE' i0 (by omega : i < j) j1
              omega
    · refine hk _ m' ⟨rfl, i + 1, by omega, by omega, by omega, fun j j0 j1 => ?_⟩ (by omega)
      by_cases d2 : j = i
      · subst d2; exact d
      · exact hj j j0 (by omega)
  · refine TT_some.mpr ⟨?_, rfl⟩
    have := (fst_none (P := fun t => decide (atS H S t w = p)) (j := 240) (v := 0) (by omega)).mpr (fun u u0 u1 => ?_)
    · exact this.symm
    · simp only [decide_eq_false_iff_not]
      intro z
      rcases En_at hE' u0 (by omega : u < 240) with y | ⟨j, j0, j1, j2, j3, j4⟩
      · omega
      · exact hj j j0 (by omega) (by omega)
/-- the first minute in which two are at a place -/
def fmaS (H : Mm) (S : Nat → Int) (a b p : Int) : Int := fst (fun t => decide (atS H S t a = p) && decide (atS H S t b = p)) 240 0
def fmI (H : Mm) (S : Nat → Int) (a b p x : Int) : Prop := x = -1 ∨ (0 ≤ x ∧ x < 240 ∧ atS H S x a = p ∧ atS H S x b = p)
theorem firstMeetingAt_eq {H : Mm} {S : Nat → Int} {c m : Mm} {hc sc : Nat} (hH : HD H) (hv : VO H S c hc sc m) {a b p : Int} (a0 : 0 ≤ a) (a1 : a < H 205 1) (b0 : 0 ≤ b) (b1 : b < H 205 1) (p0 : 0 ≤ p) : fn_Walk_firstMeetingAt a b p m = some (fmaS H S a b p, m) := by
  have hn := hH.1
  have hA := hv.2 a a0 a1
  have hB := hv.2 b b0 b1
  have hA' := hA
  have hB' := hB
  obtain ⟨n1, n2, n3, n4, n5, n6⟩ := hA
  obtain ⟨o1, o2, o3, o4, o5, o6⟩ := hB
  have k10 : H 215 a.toNat ≤ 4 := (hH.2.1 a a0 a1).2.2.2.2.2.2.2.2.2.1
  have k11 : H 215 b.toNat ≤ 4 := (hH.2.1 b b0 b1).2.2.2.2.2.2.2.2.2.1
  refine TT_eq ?_
  unfold fn_Walk_firstMeetingAt
  simp (disch := omega) only [bn_eq, w32_in]
  refine lp_inv2 (bo := bo_Walk_firstMeetingAt_8 a b p) (fun _ => rfl) (fun x q m' => m' = m ∧ ∃ i : Int, q = a * 4 + i ∧ 0 ≤ i ∧ i ≤ m 99 a.toNat ∧ fmI H S a b p x ∧ ∀ i' k' u : Int, 0 ≤ i' → i' < i → 0 ≤ k' → k' < m 99 b.toNat → H 214 (4 * a + i').toNat = p → H 214 (4 * b + k').toNat = p → m 101 (4 * a + i').toNat ≤ u → u ≤ m 102 (4 * a + i').toNat → m 101 (4 * b + k').toNat ≤ u → u ≤ m 102 (4 * b + k').toNat → x ≠ -1 ∧ x ≤ u) (fun _ q _ => (24 - q).toNat) ?_ FU (-1) (a * 4) m ⟨rfl, 0, by omega, by omega, by omega, Or.inl rfl, fun i' k' u z1 z2 => by omega⟩ (by show (24 - a * 4).toNat < 2000; omega)
  intro k8 x q m' hI hk8
  obtain ⟨rfl, i, rfl, i0, i1, hx, hj⟩ := hI
  have e : a * 4 + i = 4 * a + i := by omega
  unfold bo_Walk_firstMeetingAt_8
  simp (disch := omega) only [g_pos, w32_in, e]
  refine TT_if (fun d => ?_) (fun d => ?_)
  · simp only [bn_eq]
    obtain ⟨f1, f2, f3, f4, f5⟩ := n3 i i0 (by omega)
    refine lp_inv3 (bo := bo_Walk_firstMeetingAt_28 a b p k8) (fun _ => rfl) (fun x v q m2 => m2 = m' ∧ v = 4 * a + i ∧ ∃ j : Int, q = b * 4 + j ∧ 0 ≤ j ∧ j ≤ m' 99 b.toNat ∧ fmI H S a b p x ∧ ∀ i' k' u : Int, 0 ≤ i' → (i' < i ∨ (i' = i ∧ k' < j)) → 0 ≤ k' → k' < m' 99 b.toNat → H 214 (4 * a + i').toNat = p → H 214 (4 * b + k').toNat = p → m' 101 (4 * a + i').toNat ≤ u → u ≤ m' 102 (4 * a + i').toNat → m' 101 (4 * b + k').toNat ≤ u → u ≤ m' 102 (4 * b + k').toNat → x ≠ -1 ∧ x ≤ u) (fun _ _ q _ => (24 - q).toNat) ?_ FU x (4 * a + i) (b * 4) m' ⟨rfl, rfl, 0, by omega, by omega, by omega, hx, fun i' k' u z1 z2 z3 => hj i' k' u z1 (by omega) z3⟩ (by show (24 - b * 4).toNat < 2000; omega)
    intro k28 x v q m2 hI hk28
    obtain ⟨rfl, rfl, j, rfl, j0, j1, hx, hj⟩ := hI
    have e2 : b * 4 + j = 4 * b + j := by omega
    unfold bo_Walk_firstMeetingAt_28
    simp (disch := omega) only [g_pos, w32_in, e2]
    refine TT_if (fun d2 => ?_) (fun d2 => ?_)
    · obtain ⟨r1, r2, r3, r4, r5⟩ := o3 j j0 (by omega)
      simp (disch := omega) only [g_pos, bn_eq, f5, r5]
      have next : ∀ y : Int, fmI H S a b p y → (∀ u : Int, H 214 (4 * a + i).toNat = p → H 214 (4 * b + j).toNat = p → m2 101 (4 * a + i).toNat ≤ u → u ≤ m2 102 (4 * a + i).toNat → m2 101 (4 * b + j).toNat ≤ u → u ≤ m2 102 (4 * b + j).toNat → y ≠ -1 ∧ y ≤ u) → (x ≠ -1 → y ≠ -1 ∧ y ≤ x) → TT (bo_Walk_firstMeetingAt_135 a b p k8 k28 y (4 * a + i) (4 * b + j) m2) (fun r m' => r = fmaS H S a b p ∧ m' = m2) := by
        intro y y1 y2 y3
        unfold bo_Walk_firstMeetingAt_135
        simp (disch := omega) only [w32_in]
        refine hk28 y _ _ m2 ⟨rfl, rfl, j + 1, by omega, by omega, by omega, y1, fun i' k' u z1 z2 z3 z4 z5 z6 z7 z8 z9 z10 => ?_⟩ (by omega)
        by_cases c1 : i' = i ∧ k' = j
        · obtain ⟨rfl, rfl⟩ := c1
          exact y2 u z5 z6 z7 z8 z9 z10
        · have := hj i' k' u z1 (by omega) z3 z4 z5 z6 z7 z8 z9 z10
          have := y3 this.1
          omega
      have n110 : (∀ u : Int, H 214 (4 * a + i).toNat = p → H 214 (4 * b + j).toNat = p → m2 101 (4 * a + i).toNat ≤ u → u ≤ m2 102 (4 * a + i).toNat → m2 101 (4 * b + j).toNat ≤ u → u ≤ m2 102 (4 * b + j).toNat → x ≠ -1 ∧ x ≤ u) → ∀ y : Int, TT (bo_Walk_firstMeetingAt_110 a b p k8 k28 x (4 * a + i) (4 * b + j) y m2) (fun r m' => r = fmaS H S a b p ∧ m' = m2) := by
        intro z y
        unfold bo_Walk_firstMeetingAt_110 bo_Walk_firstMeetingAt_111
        rw [if_pos rfl]
        exact next x hx z (fun z => ⟨z, by omega⟩)
      refine TT_if (fun c1 => ?_) (fun c1 => n110 (fun u z => absurd z c1) _)
      refine TT_if (fun c2 => ?_) (fun c2 => n110 (fun u _ z => absurd z c2) _)
      refine TT_if (fun c3 => n110 (fun u _ _ z1 z2 z3 z4 => ?_) _) (fun c3 => ?_)
      · exfalso
        unfold imn imx at c3
        split at c3 <;> split at c3 <;> omega
      · have hy : imx (m2 101 (4 * a + i).toNat) (m2 101 (4 * b + j).toNat) ≤ imn (m2 102 (4 * a + i).toNat) (m2 102 (4 * b + j).toNat) := by omega
        have hy1 : m2 101 (4 * a + i).toNat ≤ imx (m2 101 (4 * a + i).toNat) (m2 101 (4 * b + j).toNat) ∧ m2 101 (4 * b + j).toNat ≤ imx (m2 101 (4 * a + i).toNat) (m2 101 (4 * b + j).toNat) := by unfold imx; split <;> omega
        have hy2 : imn (m2 102 (4 * a + i).toNat) (m2 102 (4 * b + j).toNat) ≤ m2 102 (4 * a + i).toNat ∧ imn (m2 102 (4 * a + i).toNat) (m2 102 (4 * b + j).toNat) ≤ m2 102 (4 * b + j).toNat := by unfold imn; split <;> omega
        have hle : ∀ u : Int, m2 101 (4 * a + i).toNat ≤ u → m2 101 (4 * b + j).toNat ≤ u → imx (m2 101 (4 * a + i).toNat) (m2 101 (4 * b + j).toNat) ≤ u := by intro u z1 z2; unfold imx; split <;> omega
        generalize imx (m2 101 (4 * a + i).toNat) (m2 101 (4 * b + j).toNat) = y at *
        generalize imn (m2 102 (4 * a + i).toNat) (m2 102 (4 * b + j).toNat) = y' at *
        have hyI : fmI H S a b p y := Or.inr ⟨by omega, by omega, (n5 i y i0 (by omega) (by omega) (by omega) (by omega)).trans c1, (o5 j y j0 (by omega) (by omega) (by omega) (by omega)).trans c2⟩
        have n131 : (x ≠ -1 → y ≤ x) → TT (bo_Walk_firstMeetingAt_131 a b p k8 k28 (4 * a + i) (4 * b + j) y m2) (fun r m' => r = fmaS H S a b p ∧ m' = m2) := by
          intro z
          unfold bo_Walk_firstMeetingAt_131
          exact next y hyI (fun u _ _ z1 z2 z3 z4 => ⟨by omega, hle u z1 z3⟩) (fun q => ⟨by omega, z q⟩)
        unfold bo_Walk_firstMeetingAt_111
        rw [if_neg (by decide)]
        refine TT_if (fun c4 => n131 (fun z => absurd c4 z)) (fun c4 => ?_)
        refine TT_if (fun c5 => n131 (fun z => by omega)) (fun c5 => ?_)
        exact next x hx (fun u _ _ z1 z2 z3 z4 => ⟨c4, by have := hle u z1 z3; omega⟩) (fun z => ⟨z, by omega⟩)
    · unfold bo_Walk_firstMeetingAt_141
      simp (disch := omega) only [w32_in]
      exact hk8 x _ m2 ⟨rfl, i + 1, by omega, by omega, by omega, hx, fun i' k' u z1 z2 z3 z4 => hj i' k' u z1 (by omega) z3 z4⟩ (by omega)
  · refine TT_some.mpr ⟨?_, rfl⟩
    have hall : ∀ u : Int, 0 ≤ u → u < 240 → atS H S u a = p → atS H S u b = p → x ≠ -1 ∧ x ≤ u := by
      intro u u0 u1 z1 z2
      rcases En_at hA' u0 u1 with y | ⟨i', j0, j1, j2, j3, j4⟩
      · omega
      · rcases En_at hB' u0 u1 with y | ⟨k', q0, q1, q2, q3, q4⟩
        · omega
        · exact hj i' k' u j0 (by omega) q0 q1 (by omega) (by omega) j2 j3 q2 q3
    rcases hx with hx | hx
    · subst hx
      refine ((fst_none (P := fun t => decide (atS H S t a = p) && decide (atS H S t b = p)) (j := 240) (v := 0) (by omega)).mpr (fun u u0 u1 => ?_)).symm
      by_cases z1 : atS H S u a = p
      · by_cases z2 : atS H S u b = p
        · exact absurd rfl (hall u u0 (by omega) z1 z2).1
        · simp [z2]
      · simp [z1]
    · refine ((fst_some (P := fun t => decide (atS H S t a = p) && decide (atS H S t b = p)) (j := 240) (v := 0) (t := x) (by omega)).mpr ⟨hx.1, by omega, by simp [hx.2.2.1, hx.2.2.2], fun u u0 u1 => ?_⟩).1.symm
      by_cases z1 : atS H S u a = p
      · by_cases z2 : atS H S u b = p
        · have := hall u u0 (by omega) z1 z2
          omega
        · simp [z2]
      · simp [z1]
/-- the first minute in which two meet -/
def fmS (H : Mm) (S : Nat → Int) (a b : Int) : Int := fst (fun t => decide (0 ≤ atS H S t a) && decide (atS H S t a = atS H S t b)) 240 0
theorem firstMeeting_eq {H : Mm} {S : Nat → Int} {c m : Mm} {hc sc : Nat} (hH : HD H) (hS : SD H S) (hW : HW c hc H) (hv : VO H S c hc sc m) {a b : Int} (a0 : 0 ≤ a) (a1 : a < H 205 1) (b0 : 0 ≤ b) (b1 : b < H 205 1) : fn_Walk_firstMeeting a b m = some (fmS H S a b, m) := by
  have hn := hH.1
  have hc0 := hW.1
  obtain ⟨hf0, e0, e1, r0, r1⟩ := hv.1
  have hk0 : isK 0 (hc : Int) = true := isK0 (by omega)
  refine TT_eq ?_
  unfold fn_Walk_firstMeeting
  refine lp_inv2 (bo := bo_Walk_firstMeeting_5 a b) (fun _ => rfl) (fun x q m' => m' = m ∧ 0 ≤ q ∧ q ≤ H 205 0 ∧ (x = -1 ∨ (0 ≤ x ∧ x < 240 ∧ 0 ≤ atS H S x a ∧ atS H S x a = atS H S x b)) ∧ ∀ u p : Int, 0 ≤ u → u < 240 → 0 ≤ p → p < q → atS H S u a = p → atS H S u b = p → x ≠ -1 ∧ x ≤ u) (fun _ q _ => (6 - q).toNat) ?_ FU (-1) 0 m ⟨rfl, by omega, by omega, Or.inl rfl, fun u p z1 z2 z3 z4 => by omega⟩ (by decide)
  intro k x q m' hI hk
  obtain ⟨rfl, q0, q1, hx, hj⟩ := hI
  unfold bo_Walk_firstMeeting_5
  rw [e0, Int.toNat_natCast, if_pos hk0, hf0 hc (by omega), hW.2.1]
  refine TT_if (fun d => ?_) (fun d => ?_)
  · rw [firstMeetingAt_eq hH hv a0 a1 b0 b1 q0, bd_some]
    have hr := fst_rng (P := fun t => decide (atS H S t a = q) && decide (atS H S t b = q)) (j := 240) (v := 0) (by omega)
    have hs := fst_some (P := fun t => decide (atS H S t a = q) && decide (atS H S t b = q)) (j := 240) (v := 0) (t := fst (fun t => decide (atS H S t a = q) && decide (atS H S t b = q)) 240 0) (by omega)
    have hz := fst_none (P := fun t => decide (atS H S t a = q) && decide (atS H S t b = q)) (j := 240) (v := 0) (by omega)
    change (fmaS H S a b q = -1 ∨ (0 ≤ fmaS H S a b q ∧ fmaS H S a b q < 0 + 240 ∧ (decide (atS H S (fmaS H S a b q) a = q) && decide (atS H S (fmaS H S a b q) b = q)) = true)) at hr
    change (fmaS H S a b q = -1 ↔ _) at hz
    change (fmaS H S a b q = fmaS H S a b q ∧ fmaS H S a b q ≠ -1 ↔ _ ∧ _ ∧ _ ∧ ∀ u : Int, 0 ≤ u → u < fmaS H S a b q → _) at hs
    generalize fmaS H S a b q = y at *
    have hmin : ∀ u : Int, 0 ≤ u → u < 240 → atS H S u a = q → atS H S u b = q → y ≠ -1 ∧ y ≤ u := by
      intro u u0 u1 z1 z2
      have hne : y ≠ -1 := by
        intro z
        have := hz.mp z u u0 (by omega)
        simp [z1, z2] at this
      refine ⟨hne, ?_⟩
      by_cases g : u < y
      · have := (hs.mp ⟨rfl, hne⟩).2.2.2 u u0 g
        simp [z1, z2] at this
      · omega
    have next : ∀ x' : Int, (x' = -1 ∨ (0 ≤ x' ∧ x' < 240 ∧ 0 ≤ atS H S x' a ∧ atS H S x' a = atS H S x' b)) → (x ≠ -1 → x' ≠ -1 ∧ x' ≤ x) → (y ≠ -1 → x' ≠ -1 ∧ x' ≤ y) → TT (bo_Walk_firstMeeting_47 a b k x' q m') (fun r m'' => r = fmS H S a b ∧ m'' = m') := by
      intro x' z1 z2 z3
      unfold bo_Walk_firstMeeting_47
      simp (disch := omega) only [w32_in]
      refine hk x' _ m' ⟨rfl, by omega, by omega, z1, fun u p u0 u1 p0 p1 y1 y2 => ?_⟩ (by omega)
      by_cases g : p = q
      · subst g
        have := hmin u u0 u1 y1 y2
        have := z3 this.1
        omega
      · have := hj u p u0 u1 p0 (by omega) y1 y2
        have := z2 this.1
        omega
    have hyI : y ≠ -1 → (y = -1 ∨ (0 ≤ y ∧ y < 240 ∧ 0 ≤ atS H S y a ∧ atS H S y a = atS H S y b)) := by
      intro z
      rcases hr with hr | hr
      · exact absurd hr z
      · simp only [Bool.and_eq_true, decide_eq_true_eq] at hr
        exact Or.inr ⟨by omega, by omega, by omega, by omega⟩
    refine TT_if (fun c1 => next x hx (fun z => ⟨z, by omega⟩) (fun z => absurd c1 z)) (fun c1 => ?_)
    refine TT_if (fun c2 => ?_) (fun c2 => ?_)
    · unfold bo_Walk_firstMeeting_44
      exact next y (hyI c1) (fun z => absurd c2 z) (fun z => ⟨z, by omega⟩)
    · refine TT_if (fun c3 => ?_) (fun c3 => ?_)
      · unfold bo_Walk_firstMeeting_44
        exact next y (hyI c1) (fun z => ⟨c1, by omega⟩) (fun z => ⟨z, by omega⟩)
      · exact next x hx (fun z => ⟨z, by omega⟩) (fun z => ⟨c2, by omega⟩)
  · refine TT_some.mpr ⟨?_, rfl⟩
    have hall : ∀ u : Int, 0 ≤ u → u < 240 → 0 ≤ atS H S u a → atS H S u a = atS H S u b → x ≠ -1 ∧ x ≤ u := by
      intro u u0 u1 z1 z2
      rcases atS_r hH hS u0 u1 a0 a1 with z | z
      · omega
      · exact hj u (atS H S u a) u0 u1 z1 (by omega) rfl z2.symm
    rcases hx with hx | hx
    · subst hx
      refine ((fst_none (P := fun t => decide (0 ≤ atS H S t a) && decide (atS H S t a = atS H S t b)) (j := 240) (v := 0) (by omega)).mpr (fun u u0 u1 => ?_)).symm
      by_cases z1 : 0 ≤ atS H S u a
      · by_cases z2 : atS H S u a = atS H S u b
        · exact absurd rfl (hall u u0 (by omega) z1 z2).1
        · simp [z2]
      · simp [z1]
    · refine ((fst_some (P := fun t => decide (0 ≤ atS H S t a) && decide (atS H S t a = atS H S t b)) (j := 240) (v := 0) (t := x) (by omega)).mpr ⟨hx.1, by omega, by simp [hx.2.2.1, hx.2.2.2] at *; omega, fun u u0 u1 => ?_⟩).1.symm
      by_cases z1 : 0 ≤ atS H S u a
      · by_cases z2 : atS H S u a = atS H S u b
        · have := hall u u0 (by omega) z1 z2
          omega
        · simp [z2]
      · simp [z1]
end Rd
