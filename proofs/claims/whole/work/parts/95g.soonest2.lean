/-! The call soonest. -/
section Sp2
variable {f : Int → Int → Int → Int} {m : Mm}
theorem fillJ_ok {n a : Nat} {x : Int} {m : Mm} (hn : n < 1990) : TT (fn_Arrays_fillJ n a x m) (fun _ m' => (∀ b, b ≠ a → m' b = m b) ∧ (∀ j, j < n → m' a j = x) ∧ ∀ j, n ≤ j → m' a j = m a j) := by
  unfold fn_Arrays_fillJ
  rw [bn_eq]
  refine lp_inv2 (bo := bo_Arrays_fillJ_6 n a x) (fun _ => rfl) (fun i e m' => e = (n : Int) ∧ 0 ≤ i ∧ i ≤ n ∧ (∀ b, b ≠ a → m' b = m b) ∧ (∀ j : Nat, (j : Int) < i → m' a j = x) ∧ ∀ j : Nat, i ≤ (j : Int) → m' a j = m a j) (fun i _ _ => (n - i).toNat) ?_ FU 0 (n : Int) m ⟨rfl, by omega, by omega, fun _ _ => rfl, fun j hj => by omega, fun _ _ => rfl⟩ (by show ((n : Int) - 0).toNat < 2000; omega)
  intro k i e m' hI hk
  obtain ⟨rfl, i0, i1, h1, h2, h3⟩ := hI
  unfold bo_Arrays_fillJ_6
  refine TT_if (fun c => ?_) (fun c => ?_)
  · refine TT_gd ⟨i0, c⟩ ?_
    simp (disch := omega) only [bn_eq, w32_in]
    refine hk _ _ _ ⟨rfl, by omega, by omega, fun b hb => ?_, fun j hj => ?_, fun j hj => ?_⟩ (by omega)
    · rw [mst_ne hb]; exact h1 b hb
    · by_cases d : j = i.toNat
      · subst d; exact mst_hit
      · rw [mst_miss d]; exact h2 j (by omega)
    · rw [mst_miss (by omega)]; exact h3 j (by omega)
  · exact TT_some.mpr ⟨h1, fun j hj => h2 j (by omega), fun j hj => h3 j (by omega)⟩
theorem and_r {x y : Int} (h0 : 0 ≤ x) (h1 : x < 64) (h2 : 0 ≤ y) (h3 : y < 64) : 0 ≤ iand x y ∧ iand x y < 64 := by
  obtain ⟨a, ha, rfl⟩ := nn h0 (n := 64) h1
  obtain ⟨b, hb, rfl⟩ := nn h2 (n := 64) h3
  exact (bt_or_all a ha b hb).2
/-- the search, from a minute on -/
theorem search_rel (hH : HD m) {S : Nat → Int} {hc : Nat} (hc0 : hc = 4 ∨ hc = 41) {c0 d0 : Mm} (e0 : c0 hc 0 = m 205 0) (hp : ∀ p q : Int, 0 ≤ p → p < 6 → 0 ≤ q → q < 6 → c0 (hc + 4) (6 * p + q).toNat = m 209 (6 * p + q).toNat) (hs : SgO m S c0) (hm : MO m S d0) {sn v4 a b some_ : Int} (hv : v4 = if sn = 0 then 1 else 2) (s0 : 0 ≤ some_) (s1 : some_ < 64) : ∀ (j n n' : Nat) (t : Int) (c d : Mm), t + j = 240 → 0 ≤ t → j < n → j < n' → (∀ k, k ≠ 106 → c k = c0 k) → (∀ k, k ≠ 259 → d k = d0 k) → QSo c d → ∃ (y : Int) (c' d' : Mm), lp_Sight_firstToHaveMet_26 hc sn a b some_ n t c = some (y, c') ∧ lp_Model_soonest_99 a b some_ n' v4 t d = some (y, d') ∧ (∀ k, k ≠ 106 → c' k = c0 k) ∧ ∀ k, k ≠ 259 → d' k = d0 k := by
  have hn := hH.1
  have e205 : d0 205 = m 205 := hm.1 205 (by omega) (by omega)
  have e209 : d0 209 = m 209 := hm.1 209 (by omega) (by omega)
  intro j
  induction j with
  | zero =>
    intro n n' t c d h1 h2 h3 h4 h5 h6 h7
    obtain ⟨k, rfl⟩ : ∃ k, n = k + 1 := ⟨n - 1, by omega⟩
    obtain ⟨k', rfl⟩ : ∃ k, n' = k + 1 := ⟨n' - 1, by omega⟩
    refine ⟨-1, c, d, ?_, ?_, h5, h6⟩
    · show bo_Sight_firstToHaveMet_26 _ _ _ _ _ _ _ _ = _
      unfold bo_Sight_firstToHaveMet_26
      rw [if_neg (by omega)]
    · show bo_Model_soonest_99 _ _ _ _ _ _ _ = _
      unfold bo_Model_soonest_99
      rw [if_neg (by omega)]
  | succ j ih =>
    intro n n' t c d h1 h2 h3 h4 h5 h6 h7
    obtain ⟨k, rfl⟩ : ∃ k, n = k + 1 := ⟨n - 1, by omega⟩
    obtain ⟨k', rfl⟩ : ∃ k, n' = k + 1 := ⟨n' - 1, by omega⟩
    have eC : lp_Sight_firstToHaveMet_26 hc sn a b some_ (k + 1) t c = lp_Sight_firstToHaveMet_37 hc sn a b some_ (lp_Sight_firstToHaveMet_26 hc sn a b some_ k) FU t 0 c := by
      show bo_Sight_firstToHaveMet_26 _ _ _ _ _ _ _ _ = _
      unfold bo_Sight_firstToHaveMet_26
      rw [if_pos (by omega)]
    have eM : lp_Model_soonest_99 a b some_ (k' + 1) v4 t d = lp_Model_soonest_110 a b some_ (lp_Model_soonest_99 a b some_ k') FU v4 t 0 d := by
      show bo_Model_soonest_99 _ _ _ _ _ _ _ = _
      unfold bo_Model_soonest_99
      rw [if_pos (by omega)]
    rw [eC, eM]
    have key : ∀ (q x x' : Nat) (p : Int) (c d : Mm), p + q = m 205 0 → 0 ≤ p → q < x → q < x' → (∀ k, k ≠ 106 → c k = c0 k) → (∀ k, k ≠ 259 → d k = d0 k) → QSo c d → ∃ (y : Int) (c' d' : Mm), lp_Sight_firstToHaveMet_37 hc sn a b some_ (lp_Sight_firstToHaveMet_26 hc sn a b some_ k) x t p c = some (y, c') ∧ lp_Model_soonest_110 a b some_ (lp_Model_soonest_99 a b some_ k') x' v4 t p d = some (y, d') ∧ (∀ k, k ≠ 106 → c' k = c0 k) ∧ ∀ k, k ≠ 259 → d' k = d0 k := by
      intro q
      induction q with
      | zero =>
        intro x x' p c d g1 g2 g3 g4 g5 g6 g7
        obtain ⟨y, rfl⟩ : ∃ k, x = k + 1 := ⟨x - 1, by omega⟩
        obtain ⟨y', rfl⟩ : ∃ k, x' = k + 1 := ⟨x' - 1, by omega⟩
        have eC : lp_Sight_firstToHaveMet_37 hc sn a b some_ (lp_Sight_firstToHaveMet_26 hc sn a b some_ k) (y + 1) t p c = lp_Sight_firstToHaveMet_26 hc sn a b some_ k (t + 1) c := by
          show bo_Sight_firstToHaveMet_37 _ _ _ _ _ _ _ _ _ _ = _
          unfold bo_Sight_firstToHaveMet_37 bo_Sight_firstToHaveMet_116
          rw [g5 hc (by omega), e0, if_neg (by omega), w32_in (by omega) (by omega)]
        have eM : lp_Model_soonest_110 a b some_ (lp_Model_soonest_99 a b some_ k') (y' + 1) v4 t p d = lp_Model_soonest_99 a b some_ k' v4 (t + 1) d := by
          show bo_Model_soonest_110 _ _ _ _ _ _ _ _ _ = _
          unfold bo_Model_soonest_110 bo_Model_soonest_303
          rw [g6 205 (by omega), e205, tn0, if_neg (by omega), w32_in (by omega) (by omega)]
        rw [eC, eM]
        exact ih k k' (t + 1) c d (by omega) (by omega) (by omega) (by omega) g5 g6 g7
      | succ q ihq =>
        intro x x' p c d g1 g2 g3 g4 g5 g6 g7
        obtain ⟨y, rfl⟩ : ∃ k, x = k + 1 := ⟨x - 1, by omega⟩
        obtain ⟨y', rfl⟩ : ∃ k, x' = k + 1 := ⟨x' - 1, by omega⟩
        have p6 : p < 6 := by omega
        have t240 : t < 240 := by omega
        obtain ⟨z1, z2⟩ := g7 p t g2 p6 h2 t240
        have hset := setS_b (S := S) hH t p
        have hand := and_r hset.1 hset.2.1 s0 s1
        have hsC : SgO m S c ∨ True := Or.inr trivial
        have eAt : fn_Sight_at p t c = some (setS m S t p, c) := sightAt_eq (fun p' u' a1 a2 a3 a4 => by rw [g5 105 (by omega)]; exact hs p' u' a1 a2 a3 a4) g2 p6 h2 t240
        have hmd : MO m S d := MO_congr hm (fun k _ _ _ _ => g6 k (by omega))
        have eTh := m_thereAt (p := p) hH hmd h2 t240
        obtain ⟨r, c2, sp1, sp2, sp3⟩ := c_spread (hc := hc) (sn := sn) (sets := grw (d 259 (6 * t + p).toNat) (iand (setS m S t p) some_)) (c := c) hH (by rw [g5 hc (by omega)]; exact e0) (fun q q0 q1 => by rw [g5 (hc + 4) (by omega)]; exact hp p q g2 p6 q0 q1) (by omega) g2 p6 h2 t240
        have hgo := grw_okL (d 259 (6 * t + p).toNat) (iand (setS m S t p) some_)
        have hg0 := grw_0 (iand (setS m S t p) some_)
        have ep : p * 240 + t = 240 * p + t := by omega
        have eC : lp_Sight_firstToHaveMet_37 hc sn a b some_ (lp_Sight_firstToHaveMet_26 hc sn a b some_ k) (y + 1) t p c = if lb (grw (d 259 (6 * t + p).toNat) (iand (setS m S t p) some_)) some_ = false then (if grw (d 259 (6 * t + p).toNat) (iand (setS m S t p) some_) = 0 then lp_Sight_firstToHaveMet_37 hc sn a b some_ (lp_Sight_firstToHaveMet_26 hc sn a b some_ k) y t (p + 1) c else lp_Sight_firstToHaveMet_37 hc sn a b some_ (lp_Sight_firstToHaveMet_26 hc sn a b some_ k) y t (p + 1) c2) else some (t, c) := by
          show bo_Sight_firstToHaveMet_37 _ _ _ _ _ _ _ _ _ _ = _
          unfold bo_Sight_firstToHaveMet_37 bo_Sight_firstToHaveMet_110
          rw [g5 hc (by omega), e0, if_pos (by omega), w32_in (x := p * 240) (by omega) (by omega), w32_in (x := p * 240 + t) (by omega) (by omega), if_pos (by omega), eAt, bd_some, ep, z1, c_join z2, bd_some, w32_in (x := p + 1) (by omega) (by omega)]
          generalize grw (d 259 (6 * t + p).toNat) (iand (setS m S t p) some_) = w at *
          by_cases y1 : lb w some_ = false
          · rw [if_pos ((lb_if0 s0 s1).mpr y1), if_pos y1]
            by_cases y2 : w = 0
            · rw [if_pos (lcm_0.mpr y2), if_pos y2]
            · rw [if_neg (fun z => y2 (lcm_0.mp z)), if_neg y2, sp1, bd_some]
          · rw [if_neg (fun z => y1 ((lb_if0 s0 s1).mp z)), if_neg y1]
        -- the reference's step
        generalize hd1 : (if t + 1 < 240 then mst d 259 (6 * (t + 1) + p).toNat (lor (d 259 (6 * (t + 1) + p).toNat) (grw (d 259 (6 * t + p).toNat) (iand (setS m S t p) some_))) else d) = d1
        have e1 : ∀ k, k ≠ 259 → d1 k = d k := fun k hk => by
          rw [← hd1]
          split
          · exact mst_ne hk
          · rfl
        obtain ⟨d2, w1, w2, w3⟩ := m_spread (a := a) (b := b) (s := some_) (v4 := v4) (p := p) (t := t) (sets := grw (d 259 (6 * t + p).toNat) (iand (setS m S t p) some_)) (d := d1) (k99 := lp_Model_soonest_99 a b some_ k') (k110 := lp_Model_soonest_110 a b some_ (lp_Model_soonest_99 a b some_ k') y') hH (sn := sn) hv (by rw [e1 205 (by omega), g6 205 (by omega)]; exact e205) (by rw [e1 209 (by omega), g6 209 (by omega)]; exact e209) g2 p6 h2 t240
        have eM : lp_Model_soonest_110 a b some_ (lp_Model_soonest_99 a b some_ k') (y' + 1) v4 t p d = if d 259 (6 * t + p).toNat = 0 then lp_Model_soonest_110 a b some_ (lp_Model_soonest_99 a b some_ k') y' v4 t (p + 1) d else if lb (grw (d 259 (6 * t + p).toNat) (iand (setS m S t p) some_)) some_ = true then some (t, d) else lp_Model_soonest_110 a b some_ (lp_Model_soonest_99 a b some_ k') y' v4 t (p + 1) d2 := by
          show bo_Model_soonest_110 _ _ _ _ _ _ _ _ _ = _
          unfold bo_Model_soonest_110 bo_Model_soonest_214
          rw [g6 205 (by omega), e205, tn0, if_pos (by omega), w32_in (x := 6 * t) (by omega) (by omega), w32_in (x := 6 * t + p) (by omega) (by omega), if_pos (by omega : 0 ≤ 6 * t + p ∧ 6 * t + p < 1440)]
          by_cases y0 : d 259 (6 * t + p).toNat = 0
          · rw [if_pos (lcm_0.mpr y0), if_pos y0]
            unfold bo_Model_soonest_297
            rw [w32_in (x := p + 1) (by omega) (by omega)]
          · rw [if_neg (fun z => y0 (lcm_0.mp z)), if_neg y0, if_pos (by omega : 0 ≤ 6 * t + p ∧ 6 * t + p < 1440), eTh, bd_some, m_grown, bd_some, w32_in (x := t + 1) (by omega) (by omega)]
            by_cases y1 : lb (grw (d 259 (6 * t + p).toNat) (iand (setS m S t p) some_)) some_ = true
            · rw [if_pos ((lb_if1 s0 s1).mpr y1), if_pos y1]
            · rw [if_neg (fun z => y1 ((lb_if1 s0 s1).mp z)), if_neg y1]
              have fin : lp_Model_soonest_217 a b some_ (lp_Model_soonest_99 a b some_ k') (lp_Model_soonest_110 a b some_ (lp_Model_soonest_99 a b some_ k') y') FU v4 t p (grw (d 259 (6 * t + p).toNat) (iand (setS m S t p) some_)) 0 d1 = lp_Model_soonest_110 a b some_ (lp_Model_soonest_99 a b some_ k') y' v4 t (p + 1) d2 := by
                rw [w1]
                unfold bo_Model_soonest_297
                rw [w32_in (x := p + 1) (by omega) (by omega)]
              rw [← fin, ← hd1]
              by_cases y2 : t + 1 < 240
              · rw [if_pos y2, if_pos y2, w32_in (x := 6 * (t + 1)) (by omega) (by omega), w32_in (x := 6 * (t + 1) + p) (by omega) (by omega), bn_eq, if_pos (by omega), if_pos (by omega), bn_eq]
              · rw [if_neg y2, if_neg y2]
        have hQ2 : QSo c2 d2 := by
          intro q' u q0 q1 u0 u1
          obtain ⟨x1, x2⟩ := g7 q' u q0 q1 u0 u1
          have hmp : mnP m sn p p = 1 := by unfold mnP; rw [if_pos rfl]
          have ed1 : d1 259 (6 * u + q').toNat = if q' = p ∧ u = t + 1 then lor (d 259 (6 * u + q').toNat) (grw (d 259 (6 * t + p).toNat) (iand (setS m S t p) some_)) else d 259 (6 * u + q').toNat := by
            rw [← hd1]
            by_cases y2 : t + 1 < 240
            · rw [if_pos y2]
              by_cases y3 : q' = p ∧ u = t + 1
              · obtain ⟨rfl, rfl⟩ := y3
                rw [mst_hit, if_pos ⟨rfl, rfl⟩]
              · rw [mst_miss (by omega), if_neg y3]
            · rw [if_neg y2, if_neg (by omega)]
          rw [sp3 q' u q0 q1 u0 u1, w3 q' u q0 q1 u0 u1, x1, ed1]
          by_cases y4 : q' = p
          · subst y4
            rw [hmp]
            by_cases y5 : u = t + 1
            · rw [if_pos ⟨by omega, by omega, y5⟩, if_neg (fun z => z.1 rfl), if_pos ⟨rfl, y5⟩]
              exact ⟨rfl, okL_lor _ _⟩
            · rw [if_neg (fun z => y5 z.2.2), if_neg (fun z => z.1 rfl), if_neg (fun z => y5 z.2)]
              exact ⟨rfl, x2⟩
          · rw [if_neg (c := q' = p ∧ u = t + 1) (fun z => y4 z.1)]
            by_cases y5 : q' < m 205 0 ∧ 0 < mnP m sn p q' ∧ u = t + mnP m sn p q'
            · rw [if_pos y5, if_pos ⟨y4, y5⟩]
              exact ⟨rfl, okL_lor _ _⟩
            · rw [if_neg y5, if_neg (fun z => y5 z.2)]
              exact ⟨rfl, x2⟩
        have f2 : ∀ k, k ≠ 106 → c2 k = c0 k := fun k hk => (sp2 k hk).trans (g5 k hk)
        have f3 : ∀ k, k ≠ 259 → d2 k = d0 k := fun k hk => (w2 k hk).trans ((e1 k hk).trans (g6 k hk))
        rw [eC, eM]
        by_cases y0 : d 259 (6 * t + p).toNat = 0
        · have e : grw (d 259 (6 * t + p).toNat) (iand (setS m S t p) some_) = 0 := by rw [y0]; exact hg0
          have el : lb 0 some_ = false := by unfold lb; rw [BB_0]; simp
          rw [e, if_pos el, if_pos rfl, if_pos y0]
          exact ihq y y' (p + 1) c d (by omega) (by omega) (by omega) (by omega) g5 g6 g7
        · rw [if_neg y0]
          by_cases y1 : lb (grw (d 259 (6 * t + p).toNat) (iand (setS m S t p) some_)) some_ = true
          · rw [if_neg (by rw [y1]; decide), if_pos y1]
            exact ⟨t, c, d, rfl, rfl, g5, g6⟩
          · have y1' : lb (grw (d 259 (6 * t + p).toNat) (iand (setS m S t p) some_)) some_ = false := by
              cases z : lb (grw (d 259 (6 * t + p).toNat) (iand (setS m S t p) some_)) some_ with
              | false => rfl
              | true => exact absurd z y1
            rw [if_pos y1', if_neg y1]
            by_cases y2 : grw (d 259 (6 * t + p).toNat) (iand (setS m S t p) some_) = 0
            · rw [if_pos y2]
              refine ihq y y' (p + 1) c d2 (by omega) (by omega) (by omega) (by omega) g5 f3 (fun q' u q0 q1 u0 u1 => ?_)
              obtain ⟨x1, x2⟩ := g7 q' u q0 q1 u0 u1
              obtain ⟨v1, v2⟩ := hQ2 q' u q0 q1 u0 u1
              refine ⟨?_, v2⟩
              rw [← v1, sp3 q' u q0 q1 u0 u1, y2, x1, lor_0 x2]
              split <;> rfl
            · rw [if_neg y2]
              exact ihq y y' (p + 1) c2 d2 (by omega) (by omega) (by omega) (by omega) f2 f3 hQ2
    exact key (m 205 0).toNat FU FU 0 c d (by omega) (by omega) (by show (m 205 0).toNat < 2000; omega) (by show (m 205 0).toNat < 2000; omega) h5 h6 h7
theorem m_zero {a b s v4 : Int} {d0 : Mm} : ∃ d1 : Mm, lp_Model_soonest_62 a b s FU v4 0 d0 = bo_Model_soonest_84 a b s v4 d1 ∧ (∀ k, k ≠ 259 → d1 k = d0 k) ∧ ∀ j : Nat, j < 1440 → d1 259 j = 0 := by
  have key : ∀ (j n : Nat) (i : Int) (d : Mm), i + j = 1440 → 0 ≤ i → j < n → (∀ k, k ≠ 259 → d k = d0 k) → (∀ q : Nat, (q : Int) < i → d 259 q = 0) → ∃ d1 : Mm, lp_Model_soonest_62 a b s n v4 i d = bo_Model_soonest_84 a b s v4 d1 ∧ (∀ k, k ≠ 259 → d1 k = d0 k) ∧ ∀ j : Nat, j < 1440 → d1 259 j = 0 := by
    intro j
    induction j with
    | zero =>
      intro n i d h1 h2 h3 h4 h5
      obtain ⟨k, rfl⟩ : ∃ k, n = k + 1 := ⟨n - 1, by omega⟩
      refine ⟨d, ?_, h4, fun q hq => h5 q (by omega)⟩
      show bo_Model_soonest_62 _ _ _ _ _ _ _ = _
      unfold bo_Model_soonest_62
      rw [if_neg (by omega)]
    | succ j ih =>
      intro n i d h1 h2 h3 h4 h5
      obtain ⟨k, rfl⟩ : ∃ k, n = k + 1 := ⟨n - 1, by omega⟩
      have e : lp_Model_soonest_62 a b s (k + 1) v4 i d = lp_Model_soonest_62 a b s k v4 (i + 1) (mst d 259 i.toNat 0) := by
        show bo_Model_soonest_62 _ _ _ _ _ _ _ = _
        unfold bo_Model_soonest_62
        rw [if_pos (by omega), if_pos (by omega), bn_eq, w32_in (by omega) (by omega)]
      rw [e]
      refine ih k (i + 1) _ (by omega) (by omega) (by omega) (fun k hk => by rw [mst_ne hk]; exact h4 k hk) (fun q hq => ?_)
      by_cases g : q = i.toNat
      · subst g; exact mst_hit
      · rw [mst_miss g]; exact h5 q (by omega)
  exact key 1440 FU 0 d0 (by omega) (by omega) (by decide) (fun _ _ => rfl) (fun q hq => by omega)
theorem call_soonest (hR : RR f m m) (a b s : Int) : Both (fn_Clock_soonest a b s) (fn_Model_soonest a b s) m := by
  refine q_rel hR (fun d hE hd => ?_)
  have hH := hR.2.2.1.1
  have hS := hR.2.2.2.1
  have hn := hH.1
  have hc0 := RR_hc hR
  have er : ∀ k, 204 ≤ k → mst d 203 0 0 k = m k := fun k hk => by rw [mst_ne (by omega)]; exact hE k (by omega)
  have hq := th_FQM (d := d) (x := 0) (j := 0) (by omega) (by omega)
  obtain ⟨⟨n1, n2, n3⟩, -⟩ := shl_r hn.2.2.1 hn.2.2.2.1
  have no : ∀ {oc om : Res}, oc = some (-1, m) → om = some (-1, mst d 203 0 0) → ∃ x : Int, TT oc (fun r c' => r = x ∧ FQ m c' ∧ EqM m c') ∧ TT om (fun r d' => r = x ∧ FQM d d' ∧ EqC d d') := fun h1 h2 => ⟨-1, TT_of h1 ⟨rfl, FQ_refl, fun _ _ => rfl⟩, TT_of h2 ⟨rfl, hq⟩⟩
  have ew : m (m 0 2).toNat 1 = m 205 1 := hR.2.2.1.2.1.2.2.1
  unfold fn_Clock_soonest fn_Model_soonest
  rw [c_isPlace hR, bd_some, bn_eq, m_isPlace, bd_some, er 205 (by omega)]
  by_cases c1 : iR a (m 205 0) = 0
  · rw [if_pos c1, if_pos c1]
    exact no rfl rfl
  · rw [if_neg c1, if_neg c1, c_isMinute, bd_some, m_within, bd_some]
    rw [iR_0] at c1
    by_cases c2 : 0 ≤ b ∧ b < 240
    · have z1 : ¬ iR b 240 = 0 := by rw [iR_0]; omega
      rw [if_neg z1, if_neg (by omega : ¬ b < 0), if_neg (by omega : ¬ 239 < b), if_pos hc0.1, ew]
      by_cases c3 : s < 0
      · refine no ?_ ?_
        · rw [if_pos c3]
        · rw [if_neg (by decide : ¬ (1 : Int) = 0), if_pos c3]
      · rw [if_neg c3, if_neg c3, if_neg (by decide : ¬ (1 : Int) = 0)]
        unfold fn_Model_allWalkers
        rw [er 205 (by omega), tn1, n3, bd_some]
        by_cases c4 : s < ishl 1 (m 205 1)
        · rw [if_pos c4, if_neg (by omega : ¬ ishl 1 (m 205 1) - 1 < s)]
          obtain ⟨r1, k1, e1, q1, q2, q3⟩ := c_look hR
          obtain ⟨r2, d1, u1, u2, u3⟩ := m_go hR (FM2_mst (EqM_FM2 hE)) (er 245 (by omega))
          have hf := FR_FQM u3
          obtain ⟨l1, l2⟩ := Hl_FQ hR q2
          have e83 : k1 83 3 = m 245 3 := by rw [q2.1 83 (by omega) (by omega) (by omega) (by omega) (by omega) (by omega) (by omega)]; exact hS.1.2.2.2.1
          have d245 : d1 245 = m 245 := (u3 245 (by omega)).trans (er 245 (by omega))
          obtain ⟨r3, k2, e2, f1, f2, -⟩ := fillJ_ok (n := 1440) (a := 106) (x := 0) (m := k1) (by omega)
          have eM : (if d1 245 (3 : Int).toNat = 1 then bo_Model_soonest_57 a b s 2 d1 else bo_Model_soonest_57 a b s 1 d1) = bo_Model_soonest_57 a b s (if m 245 3 = 0 then 1 else 2) d1 := by
            rw [d245, tn3]
            rcases hS.2.2.2.1 with z | z
            · rw [z, if_neg (by decide : ¬ (0 : Int) = 1), if_pos rfl]
            · rw [z, if_pos rfl, if_neg (by decide : ¬ (1 : Int) = 0)]
          obtain ⟨d2, v1, v2, v3⟩ := m_zero (a := a) (b := b) (s := s) (v4 := if m 245 3 = 0 then 1 else 2) (d0 := d1)
          have ea : a * 240 + b = 240 * a + b := by omega
          have hQ : QSo (mst k2 106 (240 * a + b).toNat 1) (mst d2 259 (6 * b + a).toNat 1) := by
            intro p u p0 p1 u0 u1
            by_cases g : p = a ∧ u = b
            · obtain ⟨rfl, rfl⟩ := g
              rw [mst_hit, mst_hit]
              exact ⟨rfl, ⟨by decide, by decide⟩⟩
            · rw [mst_miss (by omega), mst_miss (by omega), f2 _ (by omega), v3 _ (by omega)]
              exact ⟨rfl, okL_0⟩
          obtain ⟨y, c', d', w1, w2, w3, w4⟩ := search_rel (a := a) (b := b) (some_ := s) (sn := m 245 3) (v4 := if m 245 3 = 0 then 1 else 2) hH hc0.2 (c0 := k1) (d0 := d1) (S := m 245) l1.2.1.2.1 l1.2.2.2.2.2.1 q1 u2 rfl (by omega) (by omega) (240 - b).toNat FU FU b (mst k2 106 (240 * a + b).toNat 1) (mst d2 259 (6 * b + a).toNat 1) (by omega) c2.1 (by show (240 - b).toNat < 2000; omega) (by show (240 - b).toNat < 2000; omega) (fun k hk => by rw [mst_ne hk]; exact f1 k hk) (fun k hk => by rw [mst_ne hk]; exact v2 k hk) hQ
          rw [e1, bd_some, l2, if_pos hc0.1, u1, bd_some, eM]
          unfold fn_Sight_firstToHaveMet bo_Model_soonest_57
          rw [e2, bd_some, e83, w32_in (x := a * 240) (by omega) (by omega), w32_in (x := a * 240 + b) (by omega) (by omega), if_pos (by omega), ea, bn_eq, w1, bd_some, v1]
          unfold bo_Model_soonest_84
          rw [w32_in (x := 6 * b) (by omega) (by omega), w32_in (x := 6 * b + a) (by omega) (by omega), if_pos (by omega), bn_eq, w2]
          refine ⟨y, TT_some.mpr ⟨rfl, FQ_trans q2 ⟨fun a _ _ a1 _ _ _ _ => w3 a (by omega), fun j _ => by rw [w3 0 (by omega)], fun j _ => by rw [w3 14 (by omega)], fun j _ => by rw [w3 51 (by omega)]⟩, EqM_trans q3 (fun a ha => w3 a (by omega))⟩, TT_some.mpr ⟨rfl, FQM_trans (FQM_trans hq.1 hf.1) ⟨fun a _ _ _ a1 => w4 a (by omega), by rw [w4 203 (by omega)], by rw [w4 203 (by omega)]⟩, EqC_trans (EqC_trans hq.2 hf.2) (fun a ha => w4 a (by omega))⟩⟩
        · rw [if_neg c4, if_pos (by omega : ishl 1 (m 205 1) - 1 < s)]
          exact no rfl rfl
    · have z1 : iR b 240 = 0 := by rw [iR_0]; omega
      have z2 : (if b < 0 then (0 : Int) else if 239 < b then 0 else 1) = 0 := by split <;> (try split) <;> omega
      rw [if_pos z1, z2, if_pos rfl]
      exact no rfl rfl
end Sp2
