/-! The call judged. -/
section Jv
variable {f : Int → Int → Int → Int} {m : Mm}
theorem YR_64 {d kC kM kM' : Mm} {S : Nat → Int} (h : YR m d S kC kM) (e : ∀ a, a ≠ 203 → kM' a = kM a) (e2 : ∀ j, j ≠ 64 → kM' 203 j = kM 203 j) : YR m d S kC kM' := by
  obtain ⟨h1, h2, h3, h4, h5, h6, h7, h8, h9, h10⟩ := h
  refine ⟨h1, h2, h3, fun a a0 a1 a2 a3 a4 => ?_, ?_, ?_, fun a ha => ?_, ?_, fun j hj => ?_, h10⟩
  · rw [e a (by omega)]; exact h4 a a0 a1 a2 a3 a4
  · rw [e2 1 (by omega)]; exact h5
  · rw [e2 58 (by omega)]; exact h6
  · rw [e a (by omega)]; exact h7 a ha
  · rw [e 245 (by omega)]; exact h8
  · rw [e 246 (by omega)]; exact h9 j hj
theorem call_judged (hR : RR f m m) (p : Int) : Both (fn_Clock_judged p) (fn_Model_judged p) m := by
  refine q_rel hR (fun d hE hd => ?_)
  have hH := hR.2.2.1.1
  have hn := hH.1
  have hc0 := RR_hc hR
  have er : ∀ k, 204 ≤ k → mst d 203 0 0 k = m k := fun k hk => by rw [mst_ne (by omega)]; exact hE k (by omega)
  have hq := th_FQM (d := d) (x := 0) (j := 0) (by omega) (by omega)
  obtain ⟨z1, z2, z3, z4⟩ := hR.2.2.2.2.1
  have e0 : (0 : Int).toNat = 0 := rfl
  rw [e0] at z1 z2 z3 z4
  unfold fn_Clock_judged fn_Model_judged
  rw [bn_eq, m_within, bd_some]
  by_cases c1 : p < 0
  · rw [if_pos c1, if_pos c1, if_pos rfl]
    exact ⟨-2, TT_some.mpr ⟨rfl, FQ_refl, fun _ _ => rfl⟩, TT_some.mpr ⟨rfl, hq⟩⟩
  · by_cases c2 : 2 < p
    · rw [if_neg c1, if_pos c2, if_neg c1, if_pos c2, if_pos rfl]
      exact ⟨-2, TT_some.mpr ⟨rfl, FQ_refl, fun _ _ => rfl⟩, TT_some.mpr ⟨rfl, hq⟩⟩
    · rw [if_neg c1, if_neg c2, if_neg c1, if_neg c2, if_pos hc0.1, if_neg (by decide : ¬ (1 : Int) = 0)]
      obtain ⟨r1, k1, e1, g1, g2, g3⟩ := begin_ok hR FQ_refl (fun _ _ => rfl)
      obtain ⟨r2, d1, u1, u2, u3⟩ := copies_ok (na := 16) (nb := 16) (a := 245) (b := 246) (p := 0) (q := 0) (m := mst d 203 0 0) (by omega) (by omega) (by omega) (by omega) (by omega) (by omega) (by omega)
      have ed : ∀ k, 204 ≤ k → k ≠ 246 → d1 k = m k := fun k k0 k1 => (u2 k k1).trans (er k k0)
      obtain ⟨r3, d2, v1, v2, v3⟩ := fresh_ok hH (ed 205 (by omega) (by omega)) (ed 218 (by omega) (by omega)) (fun j _ => by rw [ed 245 (by omega) (by omega)])
      rw [e1, bd_some, u1, bd_some, v1, bd_some]
      have hY0 : YR m d (frS m) k1 d2 := by
        refine ⟨g1, g2, g3, fun a a0 a1 a2 a3 a4 => ?_, ?_, ?_, fun a ha => ?_, v3, fun j hj => ?_, fun j hj => ?_⟩
        · rw [v2 a a2]; exact ed a a0 a3
        · rw [v2 203 (by omega), u2 203 (by omega), mst_miss (by omega)]
        · rw [v2 203 (by omega), u2 203 (by omega), mst_miss (by omega)]
        · rw [v2 a (by omega), u2 a (by omega), mst_ne (by omega)]
        · rw [v2 246 (by omega), u3 j, if_pos (by omega), er 245 (by omega)]
          congr 1
          omega
        · unfold frS
          rw [if_pos hj]
      have key : ∀ (j n n' : Nat) (a b i : Int) (S : Nat → Int) (kC kM : Mm), i + j = m 236 0 → 0 ≤ i → j < n → j < n' → -1 ≤ a → -1 ≤ b → YR m d S kC kM → ∃ y : Int, TT (lp_Clock_judged_39 p n a b i kC) (fun r c' => r = y ∧ FQ m c' ∧ EqM m c') ∧ TT (lp_Model_judged_41 p n' a b i kM) (fun r d' => r = y ∧ FQM d d' ∧ EqC d d') := by
        intro j
        induction j with
        | zero =>
          intro n n' a b i S kC kM h1 h2 h3 h4 ha hb hY
          obtain ⟨k, rfl⟩ : ∃ k, n = k + 1 := ⟨n - 1, by omega⟩
          obtain ⟨k', rfl⟩ : ∃ k, n' = k + 1 := ⟨n' - 1, by omega⟩
          obtain ⟨r, kM', w1, w2, w3⟩ := YR_back hE hY
          have q86 : kC 86 0 = m 236 0 := by rw [hY.1.1 86 (by omega) (by omega) (by omega) (by omega) (by omega) (by omega) (by omega)]; exact z1
          have q236 : kM 236 = m 236 := hY.2.2.2.1 236 (by omega) (by omega) (by omega) (by omega) (by omega)
          have q245 : kM 245 = S := hY.2.2.2.2.2.2.2.1
          have eC : lp_Clock_judged_39 p (k + 1) a b i kC = some (if p = 2 then S 1 else if p = 0 then a else b, kC) := by
            show bo_Clock_judged_39 _ _ _ _ _ _ = _
            unfold bo_Clock_judged_39 bo_Clock_judged_162
            rw [q86, if_neg (by omega), hY.2.2.1.1.2.1]
            split
            · rfl
            · split <;> rfl
          have eM : lp_Model_judged_41 p (k' + 1) a b i kM = some (if p = 0 then a else if p = 1 then b else S 1, kM') := by
            show bo_Model_judged_41 _ _ _ _ _ _ = _
            unfold bo_Model_judged_41 bo_Model_judged_99
            rw [q236, tn0, if_neg (by omega), bn_eq, w1, bd_some, q245, tn1]
            split
            · rfl
            · split <;> rfl
          refine ⟨_, TT_of eC ⟨rfl, hY.1, hY.2.1⟩, TT_of eM ⟨?_, w2, w3⟩⟩
          have hc : p = 0 ∨ p = 1 ∨ p = 2 := by omega
          rcases hc with rfl | rfl | rfl <;> rfl
        | succ j ih =>
          intro n n' a b i S kC kM h1 h2 h3 h4 ha hb hY
          obtain ⟨k, rfl⟩ : ∃ k, n = k + 1 := ⟨n - 1, by omega⟩
          obtain ⟨k', rfl⟩ : ∃ k, n' = k + 1 := ⟨n' - 1, by omega⟩
          obtain ⟨y1, y2, y3, y4, y5, y6⟩ := z4 i h2 (by omega)
          have ei : (30 * 0 + i).toNat = i.toNat := by omega
          rw [ei] at y1 y2 y3
          have q86 : kC 86 0 = m 236 0 := by rw [hY.1.1 86 (by omega) (by omega) (by omega) (by omega) (by omega) (by omega) (by omega)]; exact z1
          have q87 : kC 87 = m 87 := hY.1.1 87 (by omega) (by omega) (by omega) (by omega) (by omega) (by omega) (by omega)
          have q0 : kC 0 2 = m 0 2 := hY.1.2.1 2 (by omega)
          have q236 : kM 236 = m 236 := hY.2.2.2.1 236 (by omega) (by omega) (by omega) (by omega) (by omega)
          have q237 : kM 237 = m 237 := hY.2.2.2.1 237 (by omega) (by omega) (by omega) (by omega) (by omega)
          by_cases g4 : m 237 i.toNat = 4
          · -- a day
            obtain ⟨t1, t3, x1, x2, x3, x5, a1, a2, a3, a4, a5, a6, a7, a8, a9, a10, a11, a12⟩ := YR_day hR hY
            have r237 : x5 237 = m 237 := a10.2.2.2.1 237 (by omega) (by omega) (by omega) (by omega) (by omega)
            have ecan : fn_Lines_can 86 i (m 0 2).toNat 95 kC = some (1, kC) := by
              unfold fn_Lines_can
              rw [if_pos (by omega), q87, y1, g4]
              rfl
            have eday : fn_Lines_isDay 86 i kC = some (1, kC) := by
              unfold fn_Lines_isDay
              rw [if_pos (by omega), q87, y1, if_pos g4]
            have ego : fn_Model_goes i kM = some (1, x5) := by
              unfold fn_Model_goes
              rw [if_pos (by omega), bn_eq, if_pos (by omega), bn_eq, if_pos (by omega), bn_eq, q237, g4, if_neg (by decide), if_neg (by decide), if_neg (by decide), if_neg (by decide), a7, bd_some]
            have hmi := (mi_r (H := m) (S := S) (m 205 2) hn.2.2.2.2.1).1
            change 0 ≤ miS m S at hmi
            have eC : lp_Clock_judged_39 p (k + 1) a b i kC = lp_Clock_judged_39 p k a (if b = -1 then (if 0 < miS m S then i else b) else b) (i + 1) x3 := by
              show bo_Clock_judged_39 _ _ _ _ _ _ = _
              unfold bo_Clock_judged_39
              rw [q86, if_pos (by omega), q0, if_pos hc0.1, ecan, bd_some, if_neg (by decide), eday, bd_some, if_neg (by decide), q0, if_pos hc0.1, a1, bd_some]
              unfold bo_Clock_judged_125 bo_Clock_judged_127 bo_Clock_judged_156
              rw [a2, bd_some, w32_in (x := i + 1) (by omega) (by omega)]
              rw [a3, bd_some, a6, bd_some]
              by_cases s1 : b = -1
              · rw [if_pos s1, if_pos s1]
                by_cases s2 : 0 < miS m S
                · rw [if_pos s2, if_pos s2]
                · rw [if_neg s2, if_neg s2, bd_some, a6, bd_some]
              · rw [if_neg s1, if_neg s1, bd_some, a6, bd_some]
            have eM : lp_Model_judged_41 p (k' + 1) a b i kM = lp_Model_judged_41 p k' a (if b = -1 then (if 0 < miS m S then i else b) else b) (i + 1) x5 := by
              show bo_Model_judged_41 _ _ _ _ _ _ = _
              unfold bo_Model_judged_41 bo_Model_judged_68 bo_Model_judged_93
              rw [q236, tn0, if_pos (by omega), ego, bd_some, if_neg (by decide : ¬ (1 : Int) = 0), if_pos (by omega), r237, if_pos g4, a8, w32_in (x := i + 1) (by omega) (by omega)]
              by_cases s2 : 0 < miS m S
              · rw [if_pos s2]
                by_cases s1 : b = -1
                · rw [if_pos (by omega : b < 0), if_pos s1, if_pos s2]
                · rw [if_neg (by omega : ¬ b < 0), if_neg s1]
              · rw [if_neg s2]
                by_cases s1 : b = -1
                · rw [if_pos s1, if_neg s2]
                · rw [if_neg s1]
            rw [eC, eM]
            exact ih k k' _ _ _ _ _ _ (by omega) (by omega) (by omega) (by omega) ha (by split <;> (try split) <;> omega) a10
          · obtain ⟨eday, hl⟩ := line_rel hR hY h2 (by omega) g4
            rcases hl with ⟨s1, s2⟩ | ⟨r, kC', kM', S', s1, s2, s3, s4, s5⟩
            · have eC : lp_Clock_judged_39 p (k + 1) a b i kC = lp_Clock_judged_39 p k (if a = -1 then i else a) b (i + 1) kC := by
                show bo_Clock_judged_39 _ _ _ _ _ _ = _
                unfold bo_Clock_judged_39 bo_Clock_judged_76 bo_Clock_judged_156
                rw [q86, if_pos (by omega), q0, if_pos hc0.1, s1, bd_some, if_pos rfl, w32_in (x := i + 1) (by omega) (by omega)]
                split <;> rfl
              have eM : lp_Model_judged_41 p (k' + 1) a b i kM = lp_Model_judged_41 p k' (if a = -1 then i else a) b (i + 1) kM := by
                show bo_Model_judged_41 _ _ _ _ _ _ = _
                unfold bo_Model_judged_41 bo_Model_judged_68 bo_Model_judged_93
                rw [q236, tn0, if_pos (by omega), s2, bd_some, if_pos rfl, w32_in (x := i + 1) (by omega) (by omega)]
                by_cases s : a = -1
                · rw [if_pos (by omega : a < 0), if_pos s, if_pos (by omega : 0 ≤ i ∧ i < 180), q237, if_neg g4]
                · rw [if_neg (by omega : ¬ a < 0), if_neg s, if_pos (by omega : 0 ≤ i ∧ i < 180), q237, if_neg g4]
              rw [eC, eM]
              exact ih k k' _ _ _ _ _ _ (by omega) (by omega) (by omega) (by omega) (by split <;> omega) hb hY
            · have r237 : kM' 237 = m 237 := s4.2.2.2.1 237 (by omega) (by omega) (by omega) (by omega) (by omega)
              have eC : lp_Clock_judged_39 p (k + 1) a b i kC = lp_Clock_judged_39 p k a b (i + 1) kC' := by
                show bo_Clock_judged_39 _ _ _ _ _ _ = _
                unfold bo_Clock_judged_39 bo_Clock_judged_156
                rw [q86, if_pos (by omega), q0, if_pos hc0.1, s1, bd_some, if_neg (by decide), eday, bd_some, if_pos rfl, s2, bd_some, w32_in (x := i + 1) (by omega) (by omega)]
              have eM : lp_Model_judged_41 p (k' + 1) a b i kM = lp_Model_judged_41 p k' a b (i + 1) kM' := by
                show bo_Model_judged_41 _ _ _ _ _ _ = _
                unfold bo_Model_judged_41 bo_Model_judged_68 bo_Model_judged_93
                rw [q236, tn0, if_pos (by omega), s3, bd_some, if_neg (by decide : ¬ (1 : Int) = 0), if_pos (by omega), r237, if_neg g4, w32_in (x := i + 1) (by omega) (by omega)]
              rw [eC, eM]
              exact ih k k' _ _ _ _ _ _ (by omega) (by omega) (by omega) (by omega) ha hb s4
      exact key (m 236 0).toNat FU FU (-1) (-1) 0 _ _ _ (by omega) (by omega) (by show (m 236 0).toNat < 2000; omega) (by show (m 236 0).toNat < 2000; omega) (by omega) (by omega) hY0
end Jv
