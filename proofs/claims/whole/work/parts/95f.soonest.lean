/-! soonest. -/
section So
variable {f : Int → Int → Int → Int} {m : Mm}
theorem lor_0 {x : Int} (h : okL x) : lor x 0 = x := BB_inj (okL_lor _ _) h (by rw [BB_or, BB_0]; simp)
/-- minutes to a place that is next -/
def mnP (m : Mm) (sn p q : Int) : Int := if q = p then 1 else if sn = 0 then m 209 (6 * p + q).toNat else 2 * m 209 (6 * p + q).toNat
theorem mnP_r (hH : HD m) {sn p q : Int} (p0 : 0 ≤ p) (p1 : p < 6) (q0 : 0 ≤ q) (q1 : q < 6) : 0 ≤ mnP m sn p q ∧ mnP m sn p q ≤ 60 := by
  have := hH.2.2.2.1 p q p0 p1 q0 q1
  unfold mnP
  split
  · omega
  · split <;> omega
/-- both hold the same sets -/
def QSo (c d : Mm) : Prop := ∀ p u : Int, 0 ≤ p → p < 6 → 0 ≤ u → u < 240 → c 106 (240 * p + u).toNat = d 259 (6 * u + p).toNat ∧ okL (d 259 (6 * u + p).toNat)
theorem c_spread {hc : Nat} {c : Mm} {sn p t sets : Int} (hH : HD m) (e0 : c hc 0 = m 205 0) (hp : ∀ q : Int, 0 ≤ q → q < 6 → c (hc + 4) (6 * p + q).toNat = m 209 (6 * p + q).toNat) (h106 : hc ≠ 106 ∧ hc + 4 ≠ 106) (p0 : 0 ≤ p) (p1 : p < 6) (t0 : 0 ≤ t) (t1 : t < 240) : ∃ (r : Int) (c' : Mm), fn_Sight_spread hc sn p t sets c = some (r, c') ∧ (∀ a, a ≠ 106 → c' a = c a) ∧ ∀ q u : Int, 0 ≤ q → q < 6 → 0 ≤ u → u < 240 → c' 106 (240 * q + u).toNat = if q < m 205 0 ∧ 0 < mnP m sn p q ∧ u = t + mnP m sn p q then lor (c 106 (240 * q + u).toNat) sets else c 106 (240 * q + u).toNat := by
  have hn := hH.1
  have key : TT (fn_Sight_spread hc sn p t sets c) (fun _ c' => (∀ a, a ≠ 106 → c' a = c a) ∧ ∀ q u : Int, 0 ≤ q → q < 6 → 0 ≤ u → u < 240 → c' 106 (240 * q + u).toNat = if q < m 205 0 ∧ 0 < mnP m sn p q ∧ u = t + mnP m sn p q then lor (c 106 (240 * q + u).toNat) sets else c 106 (240 * q + u).toNat) := by
    unfold fn_Sight_spread
    refine lp_inv1 (bo := bo_Sight_spread_3 hc sn p t sets) (fun _ => rfl) (fun i c' => 0 ≤ i ∧ i ≤ m 205 0 ∧ (∀ a, a ≠ 106 → c' a = c a) ∧ ∀ q u : Int, 0 ≤ q → q < 6 → 0 ≤ u → u < 240 → c' 106 (240 * q + u).toNat = if q < i ∧ 0 < mnP m sn p q ∧ u = t + mnP m sn p q then lor (c 106 (240 * q + u).toNat) sets else c 106 (240 * q + u).toNat) (fun i _ => (6 - i).toNat) ?_ FU 0 c ⟨by omega, by omega, fun _ _ => rfl, fun q u q0 q1 u0 u1 => by rw [if_neg (by omega)]⟩ (by decide)
    intro k i c' hI hk
    obtain ⟨i0, i1, h1, h2⟩ := hI
    unfold bo_Sight_spread_3
    rw [h1 hc h106.1, e0]
    refine TT_if (fun g => ?_) (fun g => ?_)
    · have hi := hp i i0 (by omega)
      have e6 : p * 6 + i = 6 * p + i := by omega
      have hr := mnP_r (sn := sn) hH p0 p1 i0 (by omega : i < 6)
      have hd := hH.2.2.2.1 p i p0 p1 i0 (by omega)
      rw [w32_in (x := p * 6) (by omega) (by omega), w32_in (x := p * 6 + i) (by omega) (by omega), if_pos (by omega), bn_eq, h1 (hc + 4) h106.2, e6, hi]
      have fin : ∀ x : Int, x = mnP m sn p i → TT (bo_Sight_spread_49 hc sn p t sets k i x c') (fun _ c' => (∀ a, a ≠ 106 → c' a = c a) ∧ ∀ q u : Int, 0 ≤ q → q < 6 → 0 ≤ u → u < 240 → c' 106 (240 * q + u).toNat = if q < m 205 0 ∧ 0 < mnP m sn p q ∧ u = t + mnP m sn p q then lor (c 106 (240 * q + u).toNat) sets else c 106 (240 * q + u).toNat) := by
        intro x hx
        subst hx
        have stay : (¬ (0 < mnP m sn p i ∧ t + mnP m sn p i < 240)) → TT (bo_Sight_spread_89 hc sn p t sets k i c') (fun _ c' => (∀ a, a ≠ 106 → c' a = c a) ∧ ∀ q u : Int, 0 ≤ q → q < 6 → 0 ≤ u → u < 240 → c' 106 (240 * q + u).toNat = if q < m 205 0 ∧ 0 < mnP m sn p q ∧ u = t + mnP m sn p q then lor (c 106 (240 * q + u).toNat) sets else c 106 (240 * q + u).toNat) := by
          intro z
          unfold bo_Sight_spread_89
          rw [w32_in (by omega) (by omega)]
          refine hk _ _ ⟨by omega, by omega, h1, fun q u q0 q1 u0 u1 => ?_⟩ (by omega)
          rw [h2 q u q0 q1 u0 u1]
          by_cases y : q < i ∧ 0 < mnP m sn p q ∧ u = t + mnP m sn p q
          · rw [if_pos y, if_pos ⟨by omega, y.2⟩]
          · rw [if_neg y, if_neg]
            intro y2
            by_cases y3 : q = i
            · subst y3; omega
            · exact y ⟨by omega, y2.2⟩
        unfold bo_Sight_spread_49
        refine TT_if (fun g2 => ?_) (fun g2 => stay (fun z => g2 z.1))
        rw [w32_in (x := t + mnP m sn p i) (by omega) (by omega)]
        refine TT_if (fun g3 => ?_) (fun g3 => stay (fun z => g3 z.2))
        have e : i * 240 + t + mnP m sn p i = 240 * i + (t + mnP m sn p i) := by omega
        rw [w32_in (x := i * 240) (by omega) (by omega), w32_in (x := i * 240 + t) (by omega) (by omega), w32_in (x := i * 240 + t + mnP m sn p i) (by omega) (by omega), e, bn_eq, if_pos (by omega), if_pos (by omega), bn_eq]
        unfold bo_Sight_spread_89
        rw [w32_in (by omega) (by omega)]
        refine hk _ _ ⟨by omega, by omega, fun a ha => by rw [mst_ne ha]; exact h1 a ha, fun q u q0 q1 u0 u1 => ?_⟩ (by omega)
        by_cases y3 : q = i ∧ u = t + mnP m sn p i
        · obtain ⟨rfl, rfl⟩ := y3
          rw [mst_hit, h2 _ _ q0 q1 u0 u1, if_neg (by omega), if_pos ⟨by omega, g2, rfl⟩]
        · rw [mst_miss (by omega), h2 q u q0 q1 u0 u1]
          by_cases y : q < i ∧ 0 < mnP m sn p q ∧ u = t + mnP m sn p q
          · rw [if_pos y, if_pos ⟨by omega, y.2⟩]
          · rw [if_neg y, if_neg]
            intro y2
            by_cases y4 : q = i
            · subst y4; exact y3 ⟨rfl, y2.2.2⟩
            · exact y ⟨by omega, y2.2⟩
      refine TT_if (fun a => fin 1 (by unfold mnP; rw [if_pos a])) (fun a => ?_)
      refine TT_if (fun b => fin _ (by unfold mnP; rw [if_neg a, if_pos b])) (fun b => ?_)
      rw [w32_in (by omega) (by omega)]
      exact fin _ (by unfold mnP; rw [if_neg a, if_neg b])
    · have e : i = m 205 0 := by omega
      subst e
      exact TT_some.mpr ⟨h1, h2⟩
  obtain ⟨r, c', h, q⟩ := key
  exact ⟨r, c', h, q⟩
theorem m_spread {a b s v4 p t sets : Int} {d : Mm} {k99 : Int → Int → Mm → Res} {k110 : Int → Int → Int → Mm → Res} (hH : HD m) {sn : Int} (hv : v4 = if sn = 0 then 1 else 2) (e205 : d 205 = m 205) (e209 : d 209 = m 209) (p0 : 0 ≤ p) (p1 : p < 6) (t0 : 0 ≤ t) (t1 : t < 240) : ∃ d' : Mm, lp_Model_soonest_217 a b s k99 k110 FU v4 t p sets 0 d = bo_Model_soonest_297 a b s k99 k110 v4 t p d' ∧ (∀ k, k ≠ 259 → d' k = d k) ∧ ∀ q u : Int, 0 ≤ q → q < 6 → 0 ≤ u → u < 240 → d' 259 (6 * u + q).toNat = if q ≠ p ∧ q < m 205 0 ∧ 0 < mnP m sn p q ∧ u = t + mnP m sn p q then lor (d 259 (6 * u + q).toNat) sets else d 259 (6 * u + q).toNat := by
  have hn := hH.1
  have key : ∀ (j n : Nat) (i : Int) (e : Mm), i + j = m 205 0 → 0 ≤ i → j < n → (∀ k, k ≠ 259 → e k = d k) → (∀ q u : Int, 0 ≤ q → q < 6 → 0 ≤ u → u < 240 → e 259 (6 * u + q).toNat = if q ≠ p ∧ q < i ∧ 0 < mnP m sn p q ∧ u = t + mnP m sn p q then lor (d 259 (6 * u + q).toNat) sets else d 259 (6 * u + q).toNat) → ∃ d' : Mm, lp_Model_soonest_217 a b s k99 k110 n v4 t p sets i e = bo_Model_soonest_297 a b s k99 k110 v4 t p d' ∧ (∀ k, k ≠ 259 → d' k = d k) ∧ ∀ q u : Int, 0 ≤ q → q < 6 → 0 ≤ u → u < 240 → d' 259 (6 * u + q).toNat = if q ≠ p ∧ q < m 205 0 ∧ 0 < mnP m sn p q ∧ u = t + mnP m sn p q then lor (d 259 (6 * u + q).toNat) sets else d 259 (6 * u + q).toNat := by
    intro j
    induction j with
    | zero =>
      intro n i e h1 h2 h3 h4 h5
      obtain ⟨k, rfl⟩ : ∃ k, n = k + 1 := ⟨n - 1, by omega⟩
      have ei : i = m 205 0 := by omega
      subst ei
      refine ⟨e, ?_, h4, h5⟩
      show bo_Model_soonest_217 _ _ _ _ _ _ _ _ _ _ _ _ = _
      unfold bo_Model_soonest_217
      rw [h4 205 (by omega), e205, tn0, if_neg (by omega)]
    | succ j ih =>
      intro n i e h1 h2 h3 h4 h5
      obtain ⟨k, rfl⟩ : ∃ k, n = k + 1 := ⟨n - 1, by omega⟩
      have hd := hH.2.2.2.1 p i p0 p1 h2 (by omega)
      have hr := mnP_r (sn := sn) hH p0 p1 h2 (by omega : i < 6)
      have hmn : i ≠ p → m 209 (6 * p + i).toNat * v4 = mnP m sn p i := by
        intro z
        unfold mnP
        rw [if_neg z, hv]
        split <;> omega
      have hv4 : 1 ≤ v4 ∧ v4 ≤ 2 := by rw [hv]; split <;> omega
      have hpv : 0 ≤ m 209 (6 * p + i).toNat * v4 ∧ m 209 (6 * p + i).toNat * v4 ≤ 60 := by
        have : v4 = 1 ∨ v4 = 2 := by omega
        rcases this with z | z <;> rw [z] <;> omega
      have eM : lp_Model_soonest_217 a b s k99 k110 (k + 1) v4 t p sets i e = if 0 < m 209 (6 * p + i).toNat then (if t + m 209 (6 * p + i).toNat * v4 < 240 then lp_Model_soonest_217 a b s k99 k110 k v4 t p sets (i + 1) (mst e 259 (6 * (t + m 209 (6 * p + i).toNat * v4) + i).toNat (lor (e 259 (6 * (t + m 209 (6 * p + i).toNat * v4) + i).toNat) sets)) else lp_Model_soonest_217 a b s k99 k110 k v4 t p sets (i + 1) e) else lp_Model_soonest_217 a b s k99 k110 k v4 t p sets (i + 1) e := by
        show bo_Model_soonest_217 _ _ _ _ _ _ _ _ _ _ _ _ = _
        unfold bo_Model_soonest_217 bo_Model_soonest_291
        rw [h4 205 (by omega), e205, tn0, if_pos (by omega), w32_in (x := 6 * p) (by omega) (by omega), w32_in (x := 6 * p + i) (by omega) (by omega), if_pos (by omega), h4 209 (by omega), e209]
        generalize m 209 (6 * p + i).toNat * v4 = pv at *
        rw [w32_in (x := pv) (by omega) (by omega), w32_in (x := t + pv) (by omega) (by omega), bn_eq, if_pos (by omega), w32_in (x := i + 1) (by omega) (by omega)]
        by_cases g1 : 0 < m 209 (6 * p + i).toNat
        · rw [if_pos g1, if_pos g1]
          by_cases g2 : t + pv < 240
          · rw [if_pos g2, if_pos g2, w32_in (x := 6 * (t + pv)) (by omega) (by omega), w32_in (x := 6 * (t + pv) + i) (by omega) (by omega), bn_eq, if_pos (by omega), if_pos (by omega), bn_eq]
          · rw [if_neg g2, if_neg g2]
        · rw [if_neg g1, if_neg g1]
      rw [eM]
      have keep : ¬ (i ≠ p ∧ 0 < mnP m sn p i ∧ t + mnP m sn p i < 240) → ∀ q u : Int, 0 ≤ q → q < 6 → 0 ≤ u → u < 240 → e 259 (6 * u + q).toNat = if q ≠ p ∧ q < i + 1 ∧ 0 < mnP m sn p q ∧ u = t + mnP m sn p q then lor (d 259 (6 * u + q).toNat) sets else d 259 (6 * u + q).toNat := by
        intro z q u q0 q1 u0 u1
        rw [h5 q u q0 q1 u0 u1]
        by_cases y : q ≠ p ∧ q < i ∧ 0 < mnP m sn p q ∧ u = t + mnP m sn p q
        · rw [if_pos y, if_pos ⟨y.1, by omega, y.2.2⟩]
        · rw [if_neg y, if_neg]
          intro y2
          by_cases y3 : q = i
          · subst y3; exact z ⟨y2.1, y2.2.2.1, by omega⟩
          · exact y ⟨y2.1, by omega, y2.2.2⟩
      by_cases g1 : 0 < m 209 (6 * p + i).toNat
      · have hip : i ≠ p := by
          intro z
          have := hd.2.2 z.symm
          omega
        have hm2 := hmn hip
        have hmp : 0 < mnP m sn p i := by
          rw [← hm2]
          have : v4 = 1 ∨ v4 = 2 := by omega
          rcases this with z | z <;> rw [z] <;> omega
        rw [if_pos g1, hm2]
        by_cases g2 : t + mnP m sn p i < 240
        · rw [if_pos g2]
          refine ih k (i + 1) _ (by omega) (by omega) (by omega) (fun k hk => by rw [mst_ne hk]; exact h4 k hk) (fun q u q0 q1 u0 u1 => ?_)
          by_cases y3 : q = i ∧ u = t + mnP m sn p i
          · obtain ⟨rfl, rfl⟩ := y3
            rw [mst_hit, h5 _ _ q0 q1 u0 u1, if_neg (by omega), if_pos ⟨hip, by omega, hmp, rfl⟩]
          · rw [mst_miss (by omega), h5 q u q0 q1 u0 u1]
            by_cases y : q ≠ p ∧ q < i ∧ 0 < mnP m sn p q ∧ u = t + mnP m sn p q
            · rw [if_pos y, if_pos ⟨y.1, by omega, y.2.2⟩]
            · rw [if_neg y, if_neg]
              intro y2
              by_cases y4 : q = i
              · subst y4; exact y3 ⟨rfl, y2.2.2.2⟩
              · exact y ⟨y2.1, by omega, y2.2.2⟩
        · rw [if_neg g2]
          exact ih k (i + 1) e (by omega) (by omega) (by omega) h4 (keep (fun z => g2 z.2.2))
      · rw [if_neg g1]
        refine ih k (i + 1) e (by omega) (by omega) (by omega) h4 (keep (fun z => ?_))
        have hp0 : m 209 (6 * p + i).toNat = 0 := by omega
        have := hmn z.1
        rw [hp0, Int.zero_mul] at this
        omega
  exact key (m 205 0).toNat FU 0 d (by omega) (by omega) (by show (m 205 0).toNat < 2000; omega) (fun _ _ => rfl) (fun q u q0 q1 u0 u1 => by rw [if_neg (by omega)])
end So
