/-! The ways, in the class. -/
section Wz
def wvC (x : Int) : Int := if x < 100000 then x else -1
theorem Bn_6 : ∀ n : Nat, n < 7 → Bn n ≤ 1920 := by decide
theorem shorten_ok {th : Nat} {c : Mm} {b p q : Int} (b0 : 0 ≤ b) (b1 : b < 6) (p0 : 0 ≤ p) (p1 : p < 6) (q0 : 0 ≤ q) (q1 : q < 6) : TT (fn_Hills_shorten th p b q c) (fun _ c' => (∀ a, a ≠ th + 5 → c' a = c a) ∧ (∀ j, j ≠ (6 * p + q).toNat → c' (th + 5) j = c (th + 5) j) ∧ ∀ x y z : Int, c (th + 5) (6 * p + b).toNat = wvC x → c (th + 5) (6 * b + q).toNat = wvC y → c (th + 5) (6 * p + q).toNat = wvC z → 0 ≤ x → x ≤ 100000 → 0 ≤ y → y ≤ 100000 → 0 ≤ z → z ≤ 100000 → (x < 100000 → y < 100000 → x + y < 100000) → c' (th + 5) (6 * p + q).toNat = wvC (imn z (x + y))) := by
  unfold fn_Hills_shorten bo_Hills_shorten_67
  have e1 : p * 6 + b = 6 * p + b := by omega
  have e2 : b * 6 + q = 6 * b + q := by omega
  have e3 : p * 6 + q = 6 * p + q := by omega
  rw [w32_in (x := p * 6) (by omega) (by omega), w32_in (x := p * 6 + b) (by omega) (by omega), w32_in (x := b * 6) (by omega) (by omega), w32_in (x := b * 6 + q) (by omega) (by omega), w32_in (x := p * 6 + q) (by omega) (by omega), e1, e2, e3, if_pos (by omega : 0 ≤ 6 * p + b ∧ 6 * p + b < 36), bn_eq, if_pos (by omega : 0 ≤ 6 * b + q ∧ 6 * b + q < 36), bn_eq, if_pos (by omega : 0 ≤ 6 * p + q ∧ 6 * p + q < 36), bn_eq]
  have stay : (∀ x y z : Int, c (th + 5) (6 * p + b).toNat = wvC x → c (th + 5) (6 * b + q).toNat = wvC y → c (th + 5) (6 * p + q).toNat = wvC z → 0 ≤ x → x ≤ 100000 → 0 ≤ y → y ≤ 100000 → 0 ≤ z → z ≤ 100000 → (x < 100000 → y < 100000 → x + y < 100000) → imn z (x + y) = z) → TT (some (0, c)) (fun _ c' => (∀ a, a ≠ th + 5 → c' a = c a) ∧ (∀ j, j ≠ (6 * p + q).toNat → c' (th + 5) j = c (th + 5) j) ∧ ∀ x y z : Int, c (th + 5) (6 * p + b).toNat = wvC x → c (th + 5) (6 * b + q).toNat = wvC y → c (th + 5) (6 * p + q).toNat = wvC z → 0 ≤ x → x ≤ 100000 → 0 ≤ y → y ≤ 100000 → 0 ≤ z → z ≤ 100000 → (x < 100000 → y < 100000 → x + y < 100000) → c' (th + 5) (6 * p + q).toNat = wvC (imn z (x + y))) := fun hs =>
    TT_some.mpr ⟨fun _ _ => rfl, fun _ _ => rfl, fun x y z a1 a2 a3 a4 a5 a6 a7 a8 a9 a10 => by rw [hs x y z a1 a2 a3 a4 a5 a6 a7 a8 a9 a10]; exact a3⟩
  have goes : (∀ x y z : Int, c (th + 5) (6 * p + b).toNat = wvC x → c (th + 5) (6 * b + q).toNat = wvC y → c (th + 5) (6 * p + q).toNat = wvC z → 0 ≤ x → x ≤ 100000 → 0 ≤ y → y ≤ 100000 → 0 ≤ z → z ≤ 100000 → (x < 100000 → y < 100000 → x + y < 100000) → w32 (c (th + 5) (6 * p + b).toNat + c (th + 5) (6 * b + q).toNat) = wvC (imn z (x + y))) → TT (bn (mst c (th + 5) (6 * p + q).toNat (w32 (c (th + 5) (6 * p + b).toNat + c (th + 5) (6 * b + q).toNat))) fun m2 => some (0, m2)) (fun _ c' => (∀ a, a ≠ th + 5 → c' a = c a) ∧ (∀ j, j ≠ (6 * p + q).toNat → c' (th + 5) j = c (th + 5) j) ∧ ∀ x y z : Int, c (th + 5) (6 * p + b).toNat = wvC x → c (th + 5) (6 * b + q).toNat = wvC y → c (th + 5) (6 * p + q).toNat = wvC z → 0 ≤ x → x ≤ 100000 → 0 ≤ y → y ≤ 100000 → 0 ≤ z → z ≤ 100000 → (x < 100000 → y < 100000 → x + y < 100000) → c' (th + 5) (6 * p + q).toNat = wvC (imn z (x + y))) := fun hs =>
    TT_some.mpr ⟨fun a ha => mst_ne ha, fun j hj => mst_miss hj, fun x y z a1 a2 a3 a4 a5 a6 a7 a8 a9 a10 => by rw [mst_hit]; exact hs x y z a1 a2 a3 a4 a5 a6 a7 a8 a9 a10⟩
  have w1 : ∀ x, 0 ≤ x → (wvC x = -1 ↔ 100000 ≤ x) := fun x x0 => by
    unfold wvC
    by_cases g : x < 100000
    · rw [if_pos g]; omega
    · rw [if_neg g]; omega
  have w2 : ∀ x, x < 100000 → wvC x = x := fun x g => by unfold wvC; rw [if_pos g]
  refine TT_if (fun g => stay fun x y z a1 a2 a3 a4 a5 a6 a7 a8 a9 a10 => ?_) (fun g => ?_)
  · rw [a1] at g
    have := (w1 x a4).mp g
    unfold imn
    rw [if_neg (by omega)]
  refine TT_if (fun g2 => stay fun x y z a1 a2 a3 a4 a5 a6 a7 a8 a9 a10 => ?_) (fun g2 => ?_)
  · rw [a2] at g2
    have := (w1 y a6).mp g2
    unfold imn
    rw [if_neg (by omega)]
  rw [if_pos (by omega : 0 ≤ 6 * p + q ∧ 6 * p + q < 36)]
  have sm : ∀ x y z : Int, c (th + 5) (6 * p + b).toNat = wvC x → c (th + 5) (6 * b + q).toNat = wvC y → 0 ≤ x → 0 ≤ y → (x < 100000 → y < 100000 → x + y < 100000) → w32 (c (th + 5) (6 * p + b).toNat + c (th + 5) (6 * b + q).toNat) = x + y ∧ x + y < 100000 := fun x y z a1 a2 a4 a6 a10 => by
    rw [a1] at g
    rw [a2] at g2
    have h1 : x < 100000 := by
      by_cases h : x < 100000
      · exact h
      · exact absurd ((w1 x a4).mpr (by omega)) g
    have h2 : y < 100000 := by
      by_cases h : y < 100000
      · exact h
      · exact absurd ((w1 y a6).mpr (by omega)) g2
    have h3 := a10 h1 h2
    rw [a1, a2, w2 x h1, w2 y h2, w32_in (by omega) (by omega)]
    exact ⟨rfl, h3⟩
  refine TT_if (fun g3 => goes fun x y z a1 a2 a3 a4 a5 a6 a7 a8 a9 a10 => ?_) (fun g3 => ?_)
  · obtain ⟨s1, s2⟩ := sm x y z a1 a2 a4 a6 a10
    rw [a3] at g3
    have := (w1 z a8).mp g3
    unfold imn
    rw [s1, if_pos (by omega), w2 _ s2]
  refine TT_if (fun g4 => goes fun x y z a1 a2 a3 a4 a5 a6 a7 a8 a9 a10 => ?_) (fun g4 => stay fun x y z a1 a2 a3 a4 a5 a6 a7 a8 a9 a10 => ?_)
  · obtain ⟨s1, s2⟩ := sm x y z a1 a2 a4 a6 a10
    rw [a3] at g3 g4
    have hz : z < 100000 := by
      by_cases h : z < 100000
      · exact h
      · exact absurd ((w1 z a8).mpr (by omega)) g3
    rw [w2 z hz, s1] at g4
    unfold imn
    rw [s1, if_pos g4, w2 _ s2]
  · obtain ⟨s1, s2⟩ := sm x y z a1 a2 a4 a6 a10
    rw [a3] at g3 g4
    have hz : z < 100000 := by
      by_cases h : z < 100000
      · exact h
      · exact absurd ((w1 z a8).mpr (by omega)) g3
    rw [w2 z hz, s1] at g4
    unfold imn
    rw [if_neg g4]
theorem findWays_ok {th : Nat} {c : Mm} (n0 : 0 ≤ c th 0) (n6 : c th 0 ≤ 6) : TT (fn_Hills_findWays th c) (fun _ c' => (∀ a, a ≠ th + 5 → c' a = c a) ∧ (PG (c th 0) (c (th + 4)) → ∀ p q : Int, 0 ≤ p → p < c th 0 → 0 ≤ q → q < c th 0 → c' (th + 5) (6 * p + q).toNat = wvC (rnds (c (th + 4)) (c th 0).toNat p q))) := by
  unfold fn_Hills_findWays
  refine lp_inv1 (lp := lp_Hills_findWays_2 th) (bo := bo_Hills_findWays_2 th) (fun _ => rfl) (fun v c' => 0 ≤ v ∧ v ≤ c th 0 ∧ (∀ a, a ≠ th + 5 → c' a = c a) ∧ (PG (c th 0) (c (th + 4)) → ∀ p q : Int, 0 ≤ p → p < v → 0 ≤ q → q < c th 0 → c' (th + 5) (6 * p + q).toNat = wvC (W0 (c (th + 4)) p q))) (fun v _ => (6 - v).toNat) ?_ FU 0 c ⟨by omega, by omega, fun _ _ => rfl, fun _ p q p0 p1 => by omega⟩ (by decide)
  intro k v c1 hI hk
  obtain ⟨v0, v1, f1, f2⟩ := hI
  have ec : ∀ c' : Mm, (∀ a, a ≠ th + 5 → c' a = c a) → c' th 0 = c th 0 := fun c' h => by rw [h th (by omega)]
  unfold bo_Hills_findWays_2
  rw [ec c1 f1]
  refine TT_if (fun g => ?_) (fun g => ?_)
  · refine lp_inv2 (lp := lp_Hills_findWays_12 th k) (bo := bo_Hills_findWays_12 th k) (fun _ => rfl) (fun v' u c' => v' = v ∧ 0 ≤ u ∧ u ≤ c th 0 ∧ (∀ a, a ≠ th + 5 → c' a = c a) ∧ (PG (c th 0) (c (th + 4)) → ∀ p q : Int, 0 ≤ p → 0 ≤ q → q < c th 0 → (p < v ∨ (p = v ∧ q < u)) → c' (th + 5) (6 * p + q).toNat = wvC (W0 (c (th + 4)) p q))) (fun _ u _ => (6 - u).toNat) ?_ FU v 0 c1 ⟨rfl, by omega, by omega, f1, fun hp p q p0 q0 q1 z => f2 hp p q p0 (by omega) q0 q1⟩ (by decide)
    intro k12 v' u c2 hI2 hk2
    obtain ⟨rfl, u0, u1, g1, g2⟩ := hI2
    unfold bo_Hills_findWays_12 bo_Hills_findWays_67
    rw [ec c2 g1]
    refine TT_if (fun gu => ?_) (fun gu => ?_)
    · have ev : v' * 6 + u = 6 * v' + u := by omega
      rw [w32_in (x := v' * 6) (by omega) (by omega), w32_in (x := v' * 6 + u) (by omega) (by omega), ev, if_pos (by omega : 0 ≤ 6 * v' + u ∧ 6 * v' + u < 36), bn_eq, g1 (th + 4) (by omega)]
      have step : ∀ x, (PG (c th 0) (c (th + 4)) → x = wvC (W0 (c (th + 4)) v' u)) → TT (bo_Hills_findWays_60 th k k12 v' u (th + 5) (6 * v' + u) x c2) (fun _ c' => (∀ a, a ≠ th + 5 → c' a = c a) ∧ (PG (c th 0) (c (th + 4)) → ∀ p q : Int, 0 ≤ p → p < c th 0 → 0 ≤ q → q < c th 0 → c' (th + 5) (6 * p + q).toNat = wvC (rnds (c (th + 4)) (c th 0).toNat p q))) := fun x hx => by
        unfold bo_Hills_findWays_60
        rw [if_pos (by omega : 0 ≤ 6 * v' + u ∧ 6 * v' + u < 36), bn_eq, w32_in (x := u + 1) (by omega) (by omega)]
        refine hk2 _ _ _ ⟨rfl, by omega, by omega, fun a ha => by rw [mst_ne ha]; exact g1 a ha, fun hp p q p0 q0 q1 z => ?_⟩ (by omega)
        rw [mst_self]
        by_cases y : 6 * p + q = 6 * v' + u
        · have e1 : p = v' := by omega
          have e2 : q = u := by omega
          rw [if_pos (by omega), e1, e2]
          exact hx hp
        · rw [if_neg (by omega)]
          exact g2 hp p q p0 q0 q1 (by omega)
      refine TT_if (fun y => step 0 fun hp => ?_) (fun y => TT_if (fun x => step _ fun hp => ?_) (fun x => step _ fun hp => ?_))
      · unfold W0 wvC
        rw [if_pos y, if_pos (by omega)]
      · have := hp v' u (by omega) (by omega) (by omega) (by omega)
        unfold W0 wvC
        rw [if_neg y, if_pos x, if_pos (by omega)]
      · unfold W0 wvC
        rw [if_neg y, if_neg x, if_neg (by omega)]
    · rw [w32_in (x := v' + 1) (by omega) (by omega)]
      exact hk _ _ ⟨by omega, by omega, g1, fun hp p q p0 p1 q0 q1 => g2 hp p q p0 q0 q1 (by omega)⟩ (by omega)
  · unfold bo_Hills_findWays_73
    refine lp_inv1 (lp := lp_Hills_findWays_75 th) (bo := bo_Hills_findWays_75 th) (fun _ => rfl) (fun b c' => 0 ≤ b ∧ b ≤ c th 0 ∧ (∀ a, a ≠ th + 5 → c' a = c a) ∧ (PG (c th 0) (c (th + 4)) → ∀ p q : Int, 0 ≤ p → p < c th 0 → 0 ≤ q → q < c th 0 → c' (th + 5) (6 * p + q).toNat = wvC (rnds (c (th + 4)) b.toNat p q))) (fun b _ => (6 - b).toNat) ?_ FU 0 c1 ⟨by omega, by omega, f1, fun hp p q p0 p1 q0 q1 => f2 hp p q p0 (by omega) q0 q1⟩ (by decide)
    intro kb b c2 hI2 hkb
    obtain ⟨b0, b1, g1, g2⟩ := hI2
    unfold bo_Hills_findWays_75
    rw [ec c2 g1]
    refine TT_if (fun gb => ?_) (fun gb => ?_)
    · have eb : rnds (c (th + 4)) (b + 1).toNat = rnd b (rnds (c (th + 4)) b.toNat) := by
        have e : (b + 1).toNat = b.toNat + 1 := by omega
        have e2 : ((b.toNat : Nat) : Int) = b := by omega
        rw [e]
        show rnd ((b.toNat : Nat) : Int) _ = _
        rw [e2]
      refine lp_inv2 (lp := lp_Hills_findWays_85 th kb) (bo := bo_Hills_findWays_85 th kb) (fun _ => rfl) (fun b' u c' => b' = b ∧ 0 ≤ u ∧ u ≤ c th 0 ∧ (∀ a, a ≠ th + 5 → c' a = c a) ∧ (PG (c th 0) (c (th + 4)) → ∀ p q : Int, 0 ≤ p → p < c th 0 → 0 ≤ q → q < c th 0 → c' (th + 5) (6 * p + q).toNat = wvC (if p < u then rnd b (rnds (c (th + 4)) b.toNat) p q else rnds (c (th + 4)) b.toNat p q))) (fun _ u _ => (6 - u).toNat) ?_ FU b 0 c2 ⟨rfl, by omega, by omega, g1, fun hp p q p0 p1 q0 q1 => by rw [if_neg (by omega)]; exact g2 hp p q p0 p1 q0 q1⟩ (by decide)
      intro k85 b' u c3 hI3 hk3
      obtain ⟨rfl, u0, u1, h1, h2⟩ := hI3
      unfold bo_Hills_findWays_85 bo_Hills_findWays_122
      rw [ec c3 h1]
      refine TT_if (fun gu => ?_) (fun gu => ?_)
      · refine lp_inv3 (lp := lp_Hills_findWays_95 th kb k85) (bo := bo_Hills_findWays_95 th kb k85) (fun _ => rfl) (fun b2 u2 t c' => b2 = b' ∧ u2 = u ∧ 0 ≤ t ∧ t ≤ c th 0 ∧ (∀ a, a ≠ th + 5 → c' a = c a) ∧ (PG (c th 0) (c (th + 4)) → ∀ p q : Int, 0 ≤ p → p < c th 0 → 0 ≤ q → q < c th 0 → c' (th + 5) (6 * p + q).toNat = wvC (if p < u ∨ (p = u ∧ q < t) then rnd b' (rnds (c (th + 4)) b'.toNat) p q else rnds (c (th + 4)) b'.toNat p q))) (fun _ _ t _ => (6 - t).toNat) ?_ FU b' u 0 c3 ⟨rfl, rfl, by omega, by omega, h1, fun hp p q p0 p1 q0 q1 => by
          rw [h2 hp p q p0 p1 q0 q1]
          congr 1
          by_cases y : p < u
          · rw [if_pos y, if_pos (Or.inl y)]
          · rw [if_neg y, if_neg (by omega)]⟩ (by decide)
        intro k95 b2 u2 t c4 hI4 hk4
        obtain ⟨rfl, rfl, t0, t1, j1, j2⟩ := hI4
        unfold bo_Hills_findWays_95 bo_Hills_findWays_116
        rw [ec c4 j1]
        refine TT_if (fun gt => ?_) (fun gt => ?_)
        · refine TT_call (shorten_ok (th := th) (c := c4) b0 (by omega) u0 (by omega) t0 (by omega)) (fun r c5 q => ?_)
          obtain ⟨q1, q2, q3⟩ := q
          rw [w32_in (x := t + 1) (by omega) (by omega)]
          refine hk4 _ _ _ _ ⟨rfl, rfl, by omega, by omega, fun a ha => (q1 a ha).trans (j1 a ha), fun hp p q p0 p1 q0 q1' => ?_⟩ (by omega)
          by_cases y : 6 * p + q = 6 * u2 + t
          · have e1 : p = u2 := by omega
            have e2 : q = t := by omega
            subst e1 e2
            have G := GW_all hp b2.toNat (by omega)
            obtain ⟨r1, r2⟩ := rnd_b G b0 (by omega)
            have B := Bn_6 b2.toNat (by omega)
            have s1 := G p b2 p0 (by omega) b0 (by omega)
            have s2 := G b2 q b0 (by omega) q0 (by omega)
            have s3 := G p q p0 (by omega) q0 (by omega)
            rw [if_pos (by omega), q3 (rnds (c (th + 4)) b2.toNat p b2) (rnds (c (th + 4)) b2.toNat b2 q) (rnds (c (th + 4)) b2.toNat p q) ?_ ?_ ?_ s1.1 s1.2.1 s2.1 s2.2.1 s3.1 s3.2.1 (fun a1 a2 => by have := s1.2.2.2.2.1 a1; have := s2.2.2.2.2.1 a2; omega)]
            · rfl
            · rw [j2 hp p b2 p0 p1 b0 (by omega), r1]
              congr 1
              split <;> rfl
            · rw [j2 hp b2 q b0 (by omega) q0 q1', r2]
              congr 1
              split <;> rfl
            · rw [j2 hp p q p0 p1 q0 q1', if_neg (by omega)]
          · rw [q2 _ (by omega), j2 hp p q p0 p1 q0 q1']
            congr 1
            by_cases x : p < u2 ∨ (p = u2 ∧ q < t)
            · rw [if_pos x, if_pos (by omega)]
            · rw [if_neg x, if_neg (by omega)]
        · rw [w32_in (x := u2 + 1) (by omega) (by omega)]
          refine hk3 _ _ _ ⟨rfl, by omega, by omega, j1, fun hp p q p0 p1 q0 q1 => ?_⟩ (by omega)
          rw [j2 hp p q p0 p1 q0 q1]
          congr 1
          by_cases x : p < u2 + 1
          · rw [if_pos x, if_pos (by omega)]
          · rw [if_neg x, if_neg (by omega)]
      · rw [w32_in (x := b' + 1) (by omega) (by omega)]
        refine hkb _ _ ⟨by omega, by omega, h1, fun hp p q p0 p1 q0 q1 => ?_⟩ (by omega)
        rw [h2 hp p q p0 p1 q0 q1, if_pos (by omega), eb]
    · have eb : b = c th 0 := by omega
      refine TT_some.mpr ⟨g1, fun hp p q p0 p1 q0 q1 => ?_⟩
      rw [g2 hp p q p0 p1 q0 q1, eb]
end Wz
