/-! The class's walk is the walk. -/
section Go
def EnW (H : Mm) (S : Nat → Int) (m : Mm) (T t w : Int) : Prop :=
  0 ≤ m 99 w.toNat ∧ m 99 w.toNat ≤ H 215 w.toNat
  ∧ (∀ i : Int, 0 ≤ i → i < m 99 w.toNat → 0 ≤ m 101 (4 * w + i).toNat ∧ m 101 (4 * w + i).toNat ≤ T ∧ m 101 (4 * w + i).toNat ≤ m 102 (4 * w + i).toNat ∧ m 102 (4 * w + i).toNat ≤ 239 ∧ m 100 (4 * w + i).toNat = H 214 (4 * w + i).toNat)
  ∧ (∀ i : Int, 0 ≤ i → i + 1 < m 99 w.toNat → m 102 (4 * w + i).toNat < m 101 (4 * w + (i + 1)).toNat)
  ∧ (∀ i u : Int, 0 ≤ i → i < m 99 w.toNat → m 101 (4 * w + i).toNat ≤ u → u ≤ m 102 (4 * w + i).toNat → u < t → atS H S u w = H 214 (4 * w + i).toNat)
  ∧ (∀ u : Int, 0 ≤ u → u < t → (∀ i : Int, 0 ≤ i → i < m 99 w.toNat → u < m 101 (4 * w + i).toNat ∨ m 102 (4 * w + i).toNat < u) → atS H S u w = -1)
def HereW (H m : Mm) (g : Int × Int × Int) (t w : Int) : Prop :=
  1 ≤ m 99 w.toNat ∧ g.1 = m 99 w.toNat - 1 ∧ g.2.1 = m 101 (4 * w + (m 99 w.toNat - 1)).toNat ∧ m 102 (4 * w + (m 99 w.toNat - 1)).toNat = 239
  ∧ (wyS H w (m 99 w.toNat - 1) = -1 → m 103 w.toNat = 1000000)
  ∧ (wyS H w (m 99 w.toNat - 1) ≠ -1 → m 103 w.toNat = (if g.2.2 = 1 then g.2.1 + rstS H w else g.2.1 + lgS H w (H 214 (4 * w + (m 99 w.toNat - 1)).toNat)) ∧ t ≤ m 103 w.toNat)
def AwayW (m : Mm) (g : Int × Int × Int) (t w : Int) : Prop :=
  g.1 = m 99 w.toNat ∧ g.2.2 = 0 ∧ (∀ i : Int, 0 ≤ i → i < m 99 w.toNat → m 102 (4 * w + i).toNat < t) ∧ ((g.2.1 = m 103 w.toNat ∧ t ≤ m 103 w.toNat) ∨ (m 99 w.toNat = 0 ∧ g.2.1 = 100000 ∧ m 103 w.toNat = 1000000))
def GI (H : Mm) (S : Nat → Int) (c : Mm) (hc sc : Nat) (m : Mm) (t : Int) : Prop :=
  GX c m hc sc ∧ ∀ w : Int, 0 ≤ w → w < H 205 1 → EnW H S m (t - 1) t w ∧ (bt (m 98 7) w = 1 → HereW H m (wS H S t.toNat w) t w) ∧ (bt (m 98 7) w = 0 → AwayW m (wS H S t.toNat w) t w) ∧ (bt (m 98 7) w = 1 → MtS H m w → (wS H S t.toNat w).2.2 = 1)
/-- behind those who come in a minute -/
def J1 (H : Mm) (S : Nat → Int) (m : Mm) (t w : Int) : Prop :=
  EnW H S m t t w ∧ (bt (m 98 7) w = 1 → HereW H m (wS H S t.toNat w) t w) ∧ (bt (m 98 7) w = 0 → AwayW m (wS H S t.toNat w) t w ∧ m 103 w.toNat ≠ t)
theorem bt01 {m : Mm} {c : Mm} {hc sc : Nat} (h : GX c m hc sc) {w : Int} (h0 : 0 ≤ w) (h1 : w < 6) : bt (m 98 7) w = 0 ∨ bt (m 98 7) w = 1 := bt_01 h.2.2.2.1 h.2.2.2.2 h0 h1
theorem come_J1 {H : Mm} {S : Nat → Int} {c m m1 : Mm} {hc sc : Nat} {t : Int} (hH : HD H) (hS : SD H S) (hg : GI H S c hc sc m t) (ht0 : 0 ≤ t) (ht1 : t < 240) {w : Int} (h0 : 0 ≤ w) (h1 : w < H 205 1) (hc1 : ComeP H m m1 t w) : J1 H S m1 t w := by
  have hn := hH.1
  obtain ⟨hx, hw⟩ := hg
  obtain ⟨⟨n1, n2, n3, n4, n5, n6⟩, hhere, haway, -⟩ := hw w h0 h1
  have hk10 : H 215 w.toNat ≤ 4 := (hH.2.1 w h0 h1).2.2.2.2.2.2.2.2.2.1
  have hg3 := wS_ok hH hS t.toNat (by omega) w h0 h1
  have hb := bt01 hx h0 (by omega)
  by_cases hcm : m 103 w.toNat = t ∧ bt (m 98 7) w = 0
  · obtain ⟨a1, a2, a3, a4⟩ := haway hcm.2
    obtain ⟨p1, p2, p3, p4, p5, p6, p7⟩ := hc1.1 hcm
    have hcame : (wS H S t.toNat w).2.1 = t := by
      rcases a4 with a4 | a4
      · rw [a4.1]; exact hcm.1
      · omega
    have ent : ∀ i : Int, 0 ≤ i → i < m 99 w.toNat → m1 100 (4 * w + i).toNat = m 100 (4 * w + i).toNat ∧ m1 101 (4 * w + i).toNat = m 101 (4 * w + i).toNat ∧ m1 102 (4 * w + i).toNat = m 102 (4 * w + i).toNat := fun i i0 i1 => p7 i i0 (by omega) (by omega)
    refine ⟨⟨by omega, by omega, fun i i0 i1 => ?_, fun i i0 i1 => ?_, fun i u i0 i1 i2 i3 i4 => ?_, fun u u0 u1 hu => ?_⟩, fun _ => ?_, fun hb0 => by omega⟩
    · by_cases d : i = m 99 w.toNat
      · subst d
        rw [p4, p5, p6]
        exact ⟨by omega, by omega, by omega, by omega, rfl⟩
      · obtain ⟨e1, e2, e3⟩ := ent i i0 (by omega)
        obtain ⟨f1, f2, f3, f4, f5⟩ := n3 i i0 (by omega)
        rw [e1, e2, e3]
        exact ⟨f1, by omega, f3, f4, f5⟩
    · obtain ⟨e1, e2, e3⟩ := ent i i0 (by omega)
      by_cases d : i + 1 = m 99 w.toNat
      · rw [d, p5, e3]
        exact a3 i i0 (by omega)
      · rw [(ent (i + 1) (by omega) (by omega)).2.1, e3]
        exact n4 i i0 (by omega)
    · by_cases d : i = m 99 w.toNat
      · subst d
        rw [p5] at i2
        omega
      · obtain ⟨e1, e2, e3⟩ := ent i i0 (by omega)
        rw [e2] at i2
        rw [e3] at i3
        exact n5 i u i0 (by omega) i2 i3 i4
    · refine n6 u u0 u1 (fun i i0 i1 => ?_)
      obtain ⟨e1, e2, e3⟩ := ent i i0 i1
      have := hu i i0 (by omega)
      rwa [e2, e3] at this
    · have ev : m1 99 w.toNat - 1 = m 99 w.toNat := by omega
      unfold HereW
      rw [ev, hcame, p5, p6, p3]
      refine ⟨by omega, a1, rfl, rfl, fun hy => by rw [if_pos hy], fun hy => ?_⟩
      rw [if_neg hy, if_neg (by omega)]
      refine ⟨rfl, ?_⟩
      have k := hH.2.1 w h0 h1
      have k7 := k.2.2.2.2.2.2.1
      have k13 := k.2.2.2.2.2.2.2.2.2.2.2.2 (H 214 (4 * w + m 99 w.toNat).toNat)
      have k11 := k.2.2.2.2.2.2.2.2.2.2.1 (m 99 w.toNat) n1 (by omega)
      have k13' := k13 k11.1 (by omega)
      have r2 : 0 ≤ rstS H w := by unfold rstS; split <;> omega
      have : 0 ≤ lgS H w (H 214 (4 * w + m 99 w.toNat).toNat) := by
        unfold lgS imx
        split
        · exact r2
        · split <;> omega
      omega
  · obtain ⟨p1, p2, p3, p4⟩ := hc1.2 hcm
    have ent : ∀ i : Int, 0 ≤ i → i < m 99 w.toNat → m1 100 (4 * w + i).toNat = m 100 (4 * w + i).toNat ∧ m1 101 (4 * w + i).toNat = m 101 (4 * w + i).toNat ∧ m1 102 (4 * w + i).toNat = m 102 (4 * w + i).toNat := fun i i0 i1 => p4 i i0 (by omega)
    refine ⟨⟨by omega, by omega, fun i i0 i1 => ?_, fun i i0 i1 => ?_, fun i u i0 i1 i2 i3 i4 => ?_, fun u u0 u1 hu => ?_⟩, fun hb1 => ?_, fun hb0 => ?_⟩
    · obtain ⟨e1, e2, e3⟩ := ent i i0 (by omega)
      obtain ⟨f1, f2, f3, f4, f5⟩ := n3 i i0 (by omega)
      rw [e1, e2, e3]
      exact ⟨f1, by omega, f3, f4, f5⟩
    · rw [(ent (i + 1) (by omega) (by omega)).2.1, (ent i i0 (by omega)).2.2]
      exact n4 i i0 (by omega)
    · obtain ⟨e1, e2, e3⟩ := ent i i0 (by omega)
      rw [e2] at i2
      rw [e3] at i3
      exact n5 i u i0 (by omega) i2 i3 i4
    · refine n6 u u0 u1 (fun i i0 i1 => ?_)
      obtain ⟨e1, e2, e3⟩ := ent i i0 i1
      have := hu i i0 (by omega)
      rwa [e2, e3] at this
    · obtain ⟨q1, q2, q3, q4, q5, q6⟩ := hhere (by rw [← p2]; exact hb1)
      obtain ⟨e1, e2, e3⟩ := ent (m 99 w.toNat - 1) (by omega) (by omega)
      unfold HereW
      rw [p1, p3, e2, e3]
      exact ⟨q1, q2, q3, q4, q5, q6⟩
    · rw [p2] at hb0
      obtain ⟨q1, q2, q3, q4⟩ := haway hb0
      unfold AwayW
      rw [p1, p3]
      exact ⟨⟨q1, q2, fun i i0 i1 => by rw [(ent i i0 i1).2.2]; exact q3 i i0 i1, q4⟩, fun z => hcm ⟨z, hb0⟩⟩
theorem J1_at {H : Mm} {S : Nat → Int} {m : Mm} {t w : Int} (hH : HD H) (ht1 : t < 240) (h : J1 H S m t w) : (bt (m 98 7) w = 1 → wAt H (wS H S t.toNat) t w = H 214 (4 * w + (m 99 w.toNat - 1)).toNat) ∧ (bt (m 98 7) w = 0 → wAt H (wS H S t.toNat) t w = -1) := by
  obtain ⟨⟨n1, n2, n3, n4, n5, n6⟩, h1, h2⟩ := h
  refine ⟨fun b => ?_, fun b => ?_⟩
  · obtain ⟨q1, q2, q3, q4, q5, q6⟩ := h1 b
    have := n3 (m 99 w.toNat - 1) (by omega) (by omega)
    unfold wAt
    rw [if_neg (by omega), q2]
  · obtain ⟨⟨q1, q2, q3, q4⟩, q5⟩ := h2 b
    unfold wAt
    rw [if_pos (by omega)]
theorem ev_step {H : Mm} {S : Nat → Int} {c m1 m2 m3 : Mm} {hc sc : Nat} {t : Int} (hH : HD H) (hS : SD H S) (ht0 : 0 ≤ t) (ht1 : t < 240) (hg1 : GX c m1 hc sc) (hJ : ∀ w : Int, 0 ≤ w → w < H 205 1 → J1 H S m1 t w) (hr2 : ∀ a, a ≠ 103 → m2 a = m1 a) (hG : ∀ w : Int, 0 ≤ w → w < H 205 1 → GrP H m1 m2 t w) (hg3 : GX c m3 hc sc) (hL : ∀ w : Int, 0 ≤ w → w < H 205 1 → LvP H S m2 m3 t w) : GI H S c hc sc m3 (t + 1) := by
  have hn := hH.1
  have e99 := hr2 99 (by omega)
  have e100 := hr2 100 (by omega)
  have e101 := hr2 101 (by omega)
  have e102 := hr2 102 (by omega)
  have e98 := hr2 98 (by omega)
  refine ⟨hg3, fun w h0 h1 => ?_⟩
  obtain ⟨k1, k2, k3, k4, k5, k6, k7, k8, k9, k10, k11, k12, k13⟩ := hH.2.1 w h0 h1
  have hJw := hJ w h0 h1
  have hat := J1_at hH ht1 hJw
  obtain ⟨⟨n1, n2, n3, n4, n5, n6⟩, hhere, haway⟩ := hJw
  obtain ⟨g1, g2, g3, g4, g5⟩ := wS_ok hH hS t.toNat (by omega) w h0 h1
  have hb := bt01 hg1 h0 (by omega)
  obtain ⟨gr1, gr2⟩ := hG w h0 h1
  obtain ⟨lv1, lv2⟩ := hL w h0 h1
  have et : (t + 1).toNat = t.toNat + 1 := by omega
  have ea : ((t.toNat : Nat) : Int) = t := by omega
  have hnx : wS H S (t + 1).toNat w = wNx H S (wS H S t.toNat) t w := by rw [et]; show wNx H S (wS H S t.toNat) ((t.toNat : Nat) : Int) w = _; rw [ea]
  have e0 : atS H S t w = wAt H (wS H S t.toNat) t w := rfl
  unfold LeftW at lv1
  unfold SameW at lv2
  rw [e98, e99, e100, e101, e102] at lv1 lv2
  have hmt : ∀ o : Int, 0 ≤ o → o < H 205 1 → bt (m1 98 7) o = 0 ∨ (1 ≤ m1 99 o.toNat ∧ m1 99 o.toNat ≤ 4 ∧ m1 100 (4 * o + (m1 99 o.toNat - 1)).toNat = H 214 (4 * o + (m1 99 o.toNat - 1)).toNat ∧ 0 ≤ H 214 (4 * o + (m1 99 o.toNat - 1)).toNat) := by
    intro o o0 o1
    rcases bt01 hg1 o0 (by omega) with b | b
    · exact Or.inl b
    · obtain ⟨⟨x1, x2, x3, -⟩, x7, -⟩ := hJ o o0 o1
      obtain ⟨y1, -⟩ := x7 b
      have kk := hH.2.1 o o0 o1
      have := kk.2.2.2.2.2.2.2.2.2.1
      have k11' := kk.2.2.2.2.2.2.2.2.2.2.1 (m1 99 o.toNat - 1) (by omega) (by omega)
      exact Or.inr ⟨y1, by omega, (x3 _ (by omega) (by omega)).2.2.2.2, k11'.1⟩
  rcases hb with hb | hb
  · -- nowhere, and he does not come
    obtain ⟨⟨a1, a2, a3, a4⟩, a5⟩ := haway hb
    have hw := hat.2 hb
    have em : wMt H (wS H S t.toNat) t w = 0 := by unfold wMt; rw [hw, if_pos (by omega)]; exact a2
    have en : wNx H S (wS H S t.toNat) t w = ((wS H S t.toNat w).1, (wS H S t.toNat w).2.1, 0) := by unfold wNx; rw [hw, if_pos (by omega), em]
    have hgc : m2 103 w.toNat = m1 103 w.toNat := gr2 (fun z => by have := z.1; omega)
    obtain ⟨p1, p2, p3, p4⟩ := lv2 (fun z => by omega)
    have ent : ∀ i : Int, 0 ≤ i → i < m1 99 w.toNat → m3 100 (4 * w + i).toNat = m1 100 (4 * w + i).toNat ∧ m3 101 (4 * w + i).toNat = m1 101 (4 * w + i).toNat ∧ m3 102 (4 * w + i).toNat = m1 102 (4 * w + i).toNat := by
      intro i i0 i1
      exact p4 i i0 (by omega)
    rw [hgc] at p3
    refine ⟨⟨by omega, by omega, fun i i0 i1 => ?_, fun i i0 i1 => ?_, fun i u i0 i1 i2 i3 i4 => ?_, fun u u0 u1 hu => ?_⟩, fun hb1 => by omega, fun _ => ?_, fun hb1 => by omega⟩
    · obtain ⟨e1, e2, e3⟩ := ent i i0 (by omega)
      obtain ⟨f1, f2, f3, f4, f5⟩ := n3 i i0 (by omega)
      rw [e1, e2, e3]
      exact ⟨f1, by omega, f3, f4, f5⟩
    · rw [(ent (i + 1) (by omega) (by omega)).2.1, (ent i i0 (by omega)).2.2]
      exact n4 i i0 (by omega)
    · obtain ⟨e1, e2, e3⟩ := ent i i0 (by omega)
      rw [e2] at i2
      rw [e3] at i3
      have := a3 i i0 (by omega)
      exact n5 i u i0 (by omega) i2 i3 (by omega)
    · by_cases d : u = t
      · subst d; rw [e0, hw]
      · refine n6 u u0 (by omega) (fun i i0 i1 => ?_)
        obtain ⟨e1, e2, e3⟩ := ent i i0 i1
        have := hu i i0 (by omega)
        rwa [e2, e3] at this
    · unfold AwayW
      rw [hnx, en, p1, p3]
      refine ⟨a1, rfl, fun i i0 i1 => ?_, ?_⟩
      · rw [(ent i i0 i1).2.2]
        have := a3 i i0 i1
        omega
      · rcases a4 with a4 | a4
        · exact Or.inl ⟨a4.1, by omega⟩
        · exact Or.inr a4
  · -- at a place
    obtain ⟨q1, q2, q3, q4, q5, q6⟩ := hhere hb
    have hw := hat.1 hb
    have kp := k11 (m1 99 w.toNat - 1) (by omega) (by omega)
    have kr := k13 _ kp.1 (by omega)
    have hfl := n3 (m1 99 w.toNat - 1) (by omega) (by omega)
    have r2 : 0 ≤ rstS H w ∧ rstS H w ≤ 60 := by unfold rstS; split <;> omega
    have hlg : rstS H w ≤ lgS H w (H 214 (4 * w + (m1 99 w.toNat - 1)).toNat) := by
      unfold lgS imx
      split
      · omega
      · split <;> omega
    -- whether he has met
    have hmo : wMt H (wS H S t.toNat) t w = (if (wS H S t.toNat w).2.2 = 1 then 1 else if H 216 (6 * w + H 214 (4 * w + (m1 99 w.toNat - 1)).toNat).toNat = 0 then 0 else if wAt H (wS H S t.toNat) t (H 216 (6 * w + H 214 (4 * w + (m1 99 w.toNat - 1)).toNat).toNat - 1) = H 214 (4 * w + (m1 99 w.toNat - 1)).toNat then 1 else 0) := by
      unfold wMt
      rw [hw, if_neg (by omega)]
      rcases g5 with g5 | g5
      · rw [g5]
        by_cases d : H 216 (6 * w + H 214 (4 * w + (m1 99 w.toNat - 1)).toNat).toNat = 0
        · rw [if_pos d, if_pos d]; rfl
        · rw [if_neg d, if_neg d]; rfl
      · rw [g5]
        by_cases d : H 216 (6 * w + H 214 (4 * w + (m1 99 w.toNat - 1)).toNat).toNat = 0
        · rw [if_pos d]; rfl
        · rw [if_neg d]; rfl
    have hmi : MtS H m1 w ↔ (H 216 (6 * w + H 214 (4 * w + (m1 99 w.toNat - 1)).toNat).toNat ≠ 0 ∧ wAt H (wS H S t.toNat) t (H 216 (6 * w + H 214 (4 * w + (m1 99 w.toNat - 1)).toNat).toNat - 1) = H 214 (4 * w + (m1 99 w.toNat - 1)).toNat) := by
      unfold MtS
      constructor
      · intro z
        obtain ⟨z1, z2, z3⟩ := z
        refine ⟨z1, ?_⟩
        have o0 : 0 ≤ H 216 (6 * w + H 214 (4 * w + (m1 99 w.toNat - 1)).toNat).toNat - 1 := by omega
        have o1 : H 216 (6 * w + H 214 (4 * w + (m1 99 w.toNat - 1)).toNat).toNat - 1 < H 205 1 := by omega
        rw [(J1_at hH ht1 (hJ _ o0 o1)).1 z2]
        rcases hmt _ o0 o1 with y | y
        · omega
        · rw [← y.2.2.1]; exact z3
      · intro z
        obtain ⟨z1, z2⟩ := z
        have o0 : 0 ≤ H 216 (6 * w + H 214 (4 * w + (m1 99 w.toNat - 1)).toNat).toNat - 1 := by omega
        have o1 : H 216 (6 * w + H 214 (4 * w + (m1 99 w.toNat - 1)).toNat).toNat - 1 < H 205 1 := by omega
        rcases bt01 hg1 o0 (by omega) with b | b
        · rw [(J1_at hH ht1 (hJ _ o0 o1)).2 b] at z2
          omega
        · refine ⟨z1, b, ?_⟩
          rw [(J1_at hH ht1 (hJ _ o0 o1)).1 b] at z2
          rcases hmt _ o0 o1 with y | y
          · omega
          · rw [y.2.2.1]; exact z2
    have hm01 : wMt H (wS H S t.toNat) t w = 0 ∨ wMt H (wS H S t.toNat) t w = 1 := by rw [hmo]; split <;> (try split) <;> (try split) <;> omega
    have hm1 : wMt H (wS H S t.toNat) t w = 1 ↔ ((wS H S t.toNat w).2.2 = 1 ∨ MtS H m1 w) := by
      rw [hmo, hmi]
      constructor
      · intro z
        by_cases d : (wS H S t.toNat w).2.2 = 1
        · exact Or.inl d
        · rw [if_neg d] at z
          split at z
          · omega
          · next d2 =>
            split at z
            · next d3 => exact Or.inr ⟨d2, d3⟩
            · omega
      · intro z
        by_cases d : (wS H S t.toNat w).2.2 = 1
        · rw [if_pos d]
        · rcases z with z | z
          · exact absurd z d
          · rw [if_neg d, if_neg z.1, if_pos z.2]
    have hnw : ¬ wAt H (wS H S t.toNat) t w < 0 := by rw [hw]; omega
    -- what holds if he stays
    have stay : ∀ nx : Int, m2 103 w.toNat = nx → nx ≠ t → wNx H S (wS H S t.toNat) t w = ((wS H S t.toNat w).1, (wS H S t.toNat w).2.1, wMt H (wS H S t.toNat) t w) → (wyS H w (m1 99 w.toNat - 1) = -1 → nx = 1000000) → (wyS H w (m1 99 w.toNat - 1) ≠ -1 → nx = (if wMt H (wS H S t.toNat) t w = 1 then (wS H S t.toNat w).2.1 + rstS H w else (wS H S t.toNat w).2.1 + lgS H w (H 214 (4 * w + (m1 99 w.toNat - 1)).toNat)) ∧ t + 1 ≤ nx) → EnW H S m3 (t + 1 - 1) (t + 1) w ∧ (bt (m3 98 7) w = 1 → HereW H m3 (wS H S (t + 1).toNat w) (t + 1) w) ∧ (bt (m3 98 7) w = 0 → AwayW m3 (wS H S (t + 1).toNat w) (t + 1) w) ∧ (bt (m3 98 7) w = 1 → MtS H m3 w → (wS H S (t + 1).toNat w).2.2 = 1) := by
      intro nx s1 s2 s3 s4 s5
      obtain ⟨p1, p2, p3, p4⟩ := lv2 (fun z => by omega)
      have ent : ∀ i : Int, 0 ≤ i → i < m1 99 w.toNat → m3 100 (4 * w + i).toNat = m1 100 (4 * w + i).toNat ∧ m3 101 (4 * w + i).toNat = m1 101 (4 * w + i).toNat ∧ m3 102 (4 * w + i).toNat = m1 102 (4 * w + i).toNat := by
        intro i i0 i1
        exact p4 i i0 (by omega)
      rw [s1] at p3
      obtain ⟨f1, f2, f3⟩ := ent (m1 99 w.toNat - 1) (by omega) (by omega)
      refine ⟨⟨by omega, by omega, fun i i0 i1 => ?_, fun i i0 i1 => ?_, fun i u i0 i1 i2 i3 i4 => ?_, fun u u0 u1 hu => ?_⟩, fun _ => ?_, fun hb1 => by omega, fun _ hM => ?_⟩
      · obtain ⟨e1, e2, e3⟩ := ent i i0 (by omega)
        obtain ⟨f1, f2, f3, f4, f5⟩ := n3 i i0 (by omega)
        rw [e1, e2, e3]
        exact ⟨f1, by omega, f3, f4, f5⟩
      · rw [(ent (i + 1) (by omega) (by omega)).2.1, (ent i i0 (by omega)).2.2]
        exact n4 i i0 (by omega)
      · obtain ⟨e1, e2, e3⟩ := ent i i0 (by omega)
        rw [e2] at i2
        rw [e3] at i3
        by_cases d : u = t
        · have ei : i = m1 99 w.toNat - 1 := by
            by_cases d2 : i + 1 < m1 99 w.toNat
            · have a1 := n4 i i0 d2
              have a2 := n3 (i + 1) (by omega) d2
              omega
            · omega
          rw [d, e0, hw, ei]
        · exact n5 i u i0 (by omega) i2 i3 (by omega)
      · by_cases d : u = t
        · have := hu (m1 99 w.toNat - 1) (by omega) (by omega)
          omega
        · refine n6 u u0 (by omega) (fun i i0 i1 => ?_)
          obtain ⟨e1, e2, e3⟩ := ent i i0 i1
          have := hu i i0 (by omega)
          rwa [e2, e3] at this
      · unfold HereW
        rw [hnx, s3, p1, p3, f2, f3]
        exact ⟨q1, q2, q3, q4, s4, s5⟩
      · rw [hnx, s3]
        refine hm1.mpr (Or.inr ?_)
        unfold MtS at hM ⊢
        rw [p1] at hM
        obtain ⟨z1, z2, z3⟩ := hM
        have o0 : 0 ≤ H 216 (6 * w + H 214 (4 * w + (m1 99 w.toNat - 1)).toNat).toNat - 1 := by omega
        have o1 : H 216 (6 * w + H 214 (4 * w + (m1 99 w.toNat - 1)).toNat).toNat - 1 < H 205 1 := by omega
        obtain ⟨lo1, lo2⟩ := hL _ o0 o1
        by_cases d : m2 103 (H 216 (6 * w + H 214 (4 * w + (m1 99 w.toNat - 1)).toNat).toNat - 1).toNat = t ∧ bt (m2 98 7) (H 216 (6 * w + H 214 (4 * w + (m1 99 w.toNat - 1)).toNat).toNat - 1) = 1
        · have := (lo1 d).2.1
          omega
        · obtain ⟨y1, y2, y3, y4⟩ := lo2 d
          rw [e98] at y2
          rw [e99] at y1
          rw [y2] at z2
          rw [y1] at z3
          rcases hmt _ o0 o1 with y | y
          · omega
          · have y5 := (y4 (m1 99 (H 216 (6 * w + H 214 (4 * w + (m1 99 w.toNat - 1)).toNat).toNat - 1).toNat - 1) (by omega) (by omega)).1
            rw [e100] at y5
            rw [y5] at z3
            exact ⟨z1, z2, z3⟩
    by_cases hy : wyS H w (m1 99 w.toNat - 1) = -1
    · -- no way on
      have en : wNx H S (wS H S t.toNat) t w = ((wS H S t.toNat w).1, (wS H S t.toNat w).2.1, wMt H (wS H S t.toNat) t w) := by
        unfold wNx
        rw [if_neg hnw]
        split
        · unfold wGo
          split
          · rfl
          · next d =>
            rw [q2] at d
            rw [if_neg]
            rw [q2]
            unfold wyS at hy
            rw [if_pos (by omega)] at hy
            intro z
            rw [if_pos z] at hy
            have := (mnS_r (S := S) hH h0 h1 (st := m1 99 w.toNat - 1) (by omega) (by omega)).1
            omega
        · rfl
      have e1 : m2 103 w.toNat = 1000000 := by rw [gr2 (fun z => z.2.1 (q5 hy))]; exact q5 hy
      exact stay _ e1 (by omega) en (fun _ => rfl) (fun z => absurd hy z)
    · obtain ⟨q7, q8⟩ := q6 hy
      have hst : m1 99 w.toNat < H 215 w.toNat ∧ farS H w (m1 99 w.toNat - 1) < 100000 := by
        unfold wyS at hy
        split at hy
        · split at hy
          · exact ⟨by omega, by assumption⟩
          · exact absurd rfl hy
        · exact absurd rfl hy
      -- when he goes
      have e1 : m2 103 w.toNat = (if wMt H (wS H S t.toNat) t w = 1 then imx t ((wS H S t.toNat w).2.1 + rstS H w) else (wS H S t.toNat w).2.1 + lgS H w (H 214 (4 * w + (m1 99 w.toNat - 1)).toNat)) := by
        have hne : m1 103 w.toNat ≠ 1000000 := by
          have : lgS H w (H 214 (4 * w + (m1 99 w.toNat - 1)).toNat) ≤ 60 := by
            unfold lgS imx
            split
            · omega
            · split <;> omega
          rw [q7]
          split <;> omega
        by_cases hM : MtS H m1 w
        · rw [gr1 ⟨hb, hne, hM⟩, if_pos (hm1.mpr (Or.inr hM)), q7, ← q3]
          unfold imn imx
          split <;> split <;> (try split) <;> omega
        · rw [gr2 (fun z => hM z.2.2)]
          by_cases hmm : (wS H S t.toNat w).2.2 = 1
          · rw [if_pos (hm1.mpr (Or.inl hmm)), q7, if_pos hmm]
            rw [q7, if_pos hmm] at q8
            unfold imx
            split <;> omega
          · rw [if_neg (fun z => by rcases hm1.mp z with z | z; exact hmm z; exact hM z), q7, if_neg hmm]
      have hge : t ≤ m2 103 w.toNat := by
        rw [e1]
        split
        · unfold imx; split <;> omega
        · next d =>
          have : (wS H S t.toNat w).2.2 ≠ 1 := fun z => d (hm1.mpr (Or.inl z))
          rw [q7, if_neg this] at q8
          exact q8
      have hfree : wFr H (wS H S t.toNat) t w (wMt H (wS H S t.toNat) t w) = true ↔ m2 103 w.toNat = t := by
        rw [e1]
        unfold wFr
        rw [q2]
        unfold lgS
        rcases hm01 with z | z
        · rw [z, if_neg (by omega : ¬ (0 : Int) = 1)]
          by_cases d1 : t - (wS H S t.toNat w).2.1 < rstS H w
          · rw [if_pos d1]
            constructor
            · intro x; cases x
            · intro x
              exfalso
              by_cases d2 : H 216 (6 * w + H 214 (4 * w + (m1 99 w.toNat - 1)).toNat).toNat = 0
              · rw [if_pos d2] at x; omega
              · rw [if_neg d2] at x; unfold imx at x; split at x <;> omega
          · rw [if_neg d1]
            by_cases d2 : H 216 (6 * w + H 214 (4 * w + (m1 99 w.toNat - 1)).toNat).toNat = 0
            · rw [if_pos d2, if_pos d2]
              constructor
              · intro _
                rw [e1, if_neg (by omega)] at hge
                unfold lgS at hge
                rw [if_pos d2] at hge
                omega
              · intro _; rfl
            · rw [if_neg d2, if_neg d2, if_pos rfl]
              rw [e1, if_neg (by omega)] at hge
              unfold lgS at hge
              rw [if_neg d2] at hge
              unfold imx at hge ⊢
              by_cases d3 : t - (wS H S t.toNat w).2.1 < H 217 (6 * w + H 214 (4 * w + (m1 99 w.toNat - 1)).toNat).toNat
              · rw [if_pos d3]
                constructor
                · intro x; cases x
                · intro x; exfalso; split at x <;> omega
              · rw [if_neg d3]
                constructor
                · intro _
                  split at hge <;> split <;> omega
                · intro _; rfl
        · rw [z, if_pos rfl]
          by_cases d1 : t - (wS H S t.toNat w).2.1 < rstS H w
          · rw [if_pos d1]
            constructor
            · intro x; cases x
            · intro x; exfalso; unfold imx at x; split at x <;> omega
          · rw [if_neg d1]
            constructor
            · intro _; unfold imx; split <;> omega
            · intro _
              rw [if_neg (by omega : ¬ (1 : Int) = 0)]
              split <;> rfl
      by_cases hgo : m2 103 w.toNat = t
      · -- he goes
        have hF := hfree.mpr hgo
        obtain ⟨p1, p2, p3, p4, p5⟩ := lv1 ⟨hgo, hb⟩
        have en : wNx H S (wS H S t.toNat) t w = ((wS H S t.toNat w).1 + 1, t + mnS H S w (farS H w (wS H S t.toNat w).1), 0) := by
          unfold wNx
          rw [if_neg hnw, if_pos hF]
          unfold wGo
          rw [q2, if_neg (by omega), if_pos hst.2]
        have ent : ∀ i : Int, 0 ≤ i → i < m1 99 w.toNat → m3 100 (4 * w + i).toNat = m1 100 (4 * w + i).toNat ∧ m3 101 (4 * w + i).toNat = m1 101 (4 * w + i).toNat ∧ (i ≠ m1 99 w.toNat - 1 → m3 102 (4 * w + i).toNat = m1 102 (4 * w + i).toNat) := fun i i0 i1 => p5 i i0 (by omega)
        refine ⟨⟨by omega, by omega, fun i i0 i1 => ?_, fun i i0 i1 => ?_, fun i u i0 i1 i2 i3 i4 => ?_, fun u u0 u1 hu => ?_⟩, fun hb1 => by omega, fun _ => ?_, fun hb1 => by omega⟩
        · obtain ⟨e1, e2, e3⟩ := ent i i0 (by omega)
          obtain ⟨f1, f2, f3, f4, f5⟩ := n3 i i0 (by omega)
          rw [e1, e2]
          by_cases d : i = m1 99 w.toNat - 1
          · subst d
            rw [p4]
            exact ⟨f1, by omega, by omega, by omega, f5⟩
          · rw [e3 d]
            exact ⟨f1, by omega, f3, f4, f5⟩
        · rw [(ent (i + 1) (by omega) (by omega)).2.1, (ent i i0 (by omega)).2.2 (by omega)]
          exact n4 i i0 (by omega)
        · obtain ⟨e1, e2, e3⟩ := ent i i0 (by omega)
          rw [e2] at i2
          by_cases d : i = m1 99 w.toNat - 1
          · subst d
            rw [p4] at i3
            by_cases d2 : u = t
            · rw [d2, e0, hw]
            · exact n5 _ u i0 (by omega) i2 (by omega) (by omega)
          · rw [e3 d] at i3
            have a1 := n4 i i0 (by omega)
            have a2 := n3 (i + 1) (by omega) (by omega)
            exact n5 i u i0 (by omega) i2 i3 (by omega)
        · by_cases d : u = t
          · have := hu (m1 99 w.toNat - 1) (by omega) (by omega)
            rw [(ent (m1 99 w.toNat - 1) (by omega) (by omega)).2.1, p4] at this
            omega
          · refine n6 u u0 (by omega) (fun i i0 i1 => ?_)
            obtain ⟨e1, e2, e3⟩ := ent i i0 i1
            have := hu i i0 (by omega)
            rw [e2] at this
            by_cases d2 : i = m1 99 w.toNat - 1
            · subst d2
              rw [p4] at this
              omega
            · rw [e3 d2] at this
              exact this
        · unfold AwayW
          rw [hnx, en, p1, p3, q2]
          have r := mnS_r (S := S) hH h0 h1 (st := m1 99 w.toNat - 1) (by omega) (by omega)
          refine ⟨by omega, rfl, fun i i0 i1 => ?_, Or.inl ⟨rfl, by omega⟩⟩
          by_cases d2 : i = m1 99 w.toNat - 1
          · subst d2
            rw [p4]
            omega
          · rw [(ent i i0 i1).2.2 d2]
            have a1 := n4 i i0 (by omega)
            have a2 := n3 (i + 1) (by omega) (by omega)
            omega
      · -- he stays
        have hF : ¬ wFr H (wS H S t.toNat) t w (wMt H (wS H S t.toNat) t w) = true := fun z => hgo (hfree.mp z)
        have en : wNx H S (wS H S t.toNat) t w = ((wS H S t.toNat w).1, (wS H S t.toNat w).2.1, wMt H (wS H S t.toNat) t w) := by
          unfold wNx
          rw [if_neg hnw, if_neg hF]
        refine stay _ rfl hgo en (fun z => absurd z hy) (fun _ => ⟨?_, by omega⟩)
        rw [e1]
        rw [e1] at hge hgo
        split
        · next d =>
          rw [if_pos d] at hge hgo
          unfold imx at hge hgo ⊢
          split at hge <;> split at hgo <;> split <;> omega
        · rfl
end Go
