/-! see; marks. -/
section Mk
variable {f : Int → Int → Int → Int} {m : Mm}
theorem call_see (hR : RR f m m) (a b x : Int) (hx : x = 0 ∨ x = 1) : Both (fn_Clock_see a b x) (fn_Model_see a b x) m := by
  have hn := hR.2.2.1.1.1
  have er : ∀ d, EqM m d → ∀ k, 204 ≤ k → mst d 203 0 0 k = m k := fun d hE k hk => by rw [mst_ne (by omega)]; exact hE k (by omega)
  by_cases c1 : iR a (m 205 1) = 0
  · refine q_rel hR (fun d hE hd => ⟨0, ?_, ?_⟩)
    · unfold fn_Clock_see
      rw [c_isWalker hR, bd_some, if_pos c1]
      exact TT_some.mpr ⟨rfl, FQ_refl, fun _ _ => rfl⟩
    · unfold fn_Model_see
      rw [bn_eq, m_isWalker, bd_some, er d hE 205 (by omega), if_pos c1]
      exact TT_some.mpr ⟨rfl, th_FQM (by omega) (by omega)⟩
  · by_cases c2 : iR b (m 205 0) = 0
    · refine q_rel hR (fun d hE hd => ⟨0, ?_, ?_⟩)
      · unfold fn_Clock_see
        rw [c_isWalker hR, bd_some, if_neg c1, c_isPlace hR, bd_some, if_pos c2]
        exact TT_some.mpr ⟨rfl, FQ_refl, fun _ _ => rfl⟩
      · unfold fn_Model_see
        rw [bn_eq, m_isWalker, bd_some, er d hE 205 (by omega), if_neg c1, m_isPlace, bd_some, er d hE 205 (by omega), if_pos c2]
        exact TT_some.mpr ⟨rfl, th_FQM (by omega) (by omega)⟩
    · have c1' := c1
      have c2' := c2
      rw [iR_0] at c1' c2'
      obtain ⟨h1, h2, h3, h4, h5, h6, h7, h8, h9, h10⟩ := id hR
      obtain ⟨s1, s2, s3, s4, s5, s6⟩ := id h6
      have e0 : (0 : Int).toNat = 0 := rfl
      rw [e0] at s1 s2 s3 s6
      by_cases c3 : m 240 0 = 8
      · refine q_rel hR (fun d hE hd => ⟨0, ?_, ?_⟩)
        · unfold fn_Clock_see fn_Standing_addSeen
          rw [c_isWalker hR, bd_some, if_neg c1, c_isPlace hR, bd_some, if_neg c2, s1, if_neg (by omega), bd_some, if_pos rfl]
          exact TT_some.mpr ⟨rfl, FQ_refl, fun _ _ => rfl⟩
        · unfold fn_Model_see
          rw [bn_eq, m_isWalker, bd_some, er d hE 205 (by omega), if_neg c1, m_isPlace, bd_some, er d hE 205 (by omega), if_neg c2, er d hE 240 (by omega), tn0, if_pos c3]
          exact TT_some.mpr ⟨rfl, th_FQM (by omega) (by omega)⟩
      · have hb := b8_set s4 s5 (by omega : 0 ≤ m 240 0) (by omega)
        refine s_both (f := f) (x := 1) (C := fun c' => (∀ k, k ≠ 82 → k ≠ 90 → k ≠ 91 → c' k = m k) ∧ c' 90 = mst m 90 (m 240 0).toNat a 90 ∧ c' 91 = mst m 91 (m 240 0).toNat b 91 ∧ c' 82 3 = m 240 0 + 1 ∧ c' 82 6 = (if x = 0 then iand (m 82 6) (ixor (ishl 1 (m 240 0)) (-1)) else ior (m 82 6) (ishl 1 (m 240 0)))) ?_ (fun d hE => ?_)
        · unfold fn_Clock_see fn_Standing_addSeen
          rw [c_isWalker hR, bd_some, if_neg c1, c_isPlace hR, bd_some, if_neg c2, s1, if_pos (by omega), if_pos (by omega), bn_eq, mst_ne (by omega : 82 ≠ 82 + 8), s1, if_pos (by omega), bn_eq]
          have fin : ∀ y : Int, y = (if x = 0 then iand (m 82 6) (ixor (ishl 1 (m 240 0)) (-1)) else ior (m 82 6) (ishl 1 (m 240 0))) → TT (bd (bo_Standing_addSeen_63 82 a b x 82 y (mst (mst m (82 + 8) (m 240 0).toNat a) (82 + 9) (m 240 0).toNat b)) fun r5 m6 => if r5 = 0 then some (0, m6) else some (1, m6)) (fun r c' => r = 1 ∧ EqM m c' ∧ (∀ k, k ≠ 82 → k ≠ 90 → k ≠ 91 → c' k = m k) ∧ c' 90 = mst m 90 (m 240 0).toNat a 90 ∧ c' 91 = mst m 91 (m 240 0).toNat b 91 ∧ c' 82 3 = m 240 0 + 1 ∧ c' 82 6 = (if x = 0 then iand (m 82 6) (ixor (ishl 1 (m 240 0)) (-1)) else ior (m 82 6) (ishl 1 (m 240 0)))) := by
            intro y hy
            unfold bo_Standing_addSeen_63
            rw [bn_eq, mst_miss (by omega), mst_ne (by omega), mst_ne (by omega), s1, w32_in (by omega) (by omega), bn_eq, bd_some, if_neg (by decide)]
            refine TT_some.mpr ⟨rfl, fun k hk => ?_, fun k k0 k1 k2 => ?_, ?_, ?_, ?_, ?_⟩
            · rw [mst_ne (by omega), mst_ne (by omega), mst_ne (by omega), mst_ne (by omega)]
            · rw [mst_ne (by omega), mst_ne (by omega), mst_ne (by omega), mst_ne (by omega)]
            · rw [mst_ne (by omega), mst_ne (by omega), mst_ne (by omega)]
            · rw [mst_ne (by omega), mst_ne (by omega)]
              funext j
              by_cases g : j = (m 240 0).toNat
              · subst g; rw [mst_hit, mst_hit]
              · rw [mst_miss g, mst_miss g, mst_ne (by omega)]
            · rw [mst_hit]
            · rw [mst_miss (by omega), mst_hit]; exact hy
          rw [bd_ite]
          have e1 : mst (mst m (82 + 8) (m 240 0).toNat a) (82 + 9) (m 240 0).toNat b 82 = m 82 := by rw [mst_ne (by omega), mst_ne (by omega)]
          rw [e1, s1]
          exact TT_if (fun g => fin _ (by rw [if_pos g])) (fun g => fin _ (by rw [if_neg g]))
        · unfold fn_Model_see
          rw [bn_eq, m_isWalker, bd_some, er d hE 205 (by omega), if_neg c1, m_isPlace, bd_some, er d hE 205 (by omega), if_neg c2, er d hE 240 (by omega), tn0, if_neg c3, if_pos (by omega), bn_eq, mst_ne (by omega : 240 ≠ 241), er d hE 240 (by omega), if_pos (by omega), bn_eq, mst_ne (by omega : 240 ≠ 242), mst_ne (by omega : 240 ≠ 241), er d hE 240 (by omega), if_pos (by omega), if_pos hx, bn_eq, mst_ne (by omega : 240 ≠ 243), mst_ne (by omega : 240 ≠ 242), mst_ne (by omega : 240 ≠ 241), er d hE 240 (by omega), w32_in (by omega) (by omega), bn_eq]
          refine TT_some.mpr ⟨rfl, fun k hk => ?_, fun c' hc => ?_⟩
          · rw [mst_ne (by omega), mst_ne (by omega), mst_ne (by omega), mst_ne (by omega), mst_ne (by omega)]
          · obtain ⟨x1, x2, x3, x4, x5⟩ := hc
            have hR1 : RR f m (mst d 203 0 0) := RR_th (RR_E hR hE) (by omega) (by omega)
            generalize hd1 : mst d 203 0 0 = d1 at *
            have ed : ∀ k, 204 ≤ k → d1 k = m k := fun k hk => by rw [← hd1]; exact er d hE k hk
            generalize hd2 : mst (mst (mst (mst d1 241 (m 240 0).toNat a) 242 (m 240 0).toNat b) 243 (m 240 0).toNat x) 240 0 (m 240 0 + 1) = d2
            have e2 : ∀ k, k ≠ 240 → k ≠ 241 → k ≠ 242 → k ≠ 243 → d2 k = d1 k := fun k a0 a1 a2 a3 => by rw [← hd2, mst_ne a0, mst_ne a3, mst_ne a2, mst_ne a1]
            have e240 : d2 240 0 = m 240 0 + 1 := by rw [← hd2, mst_hit]
            have e240' : ∀ k, k ≠ 0 → d2 240 k = m 240 k := fun k hk => by rw [← hd2, mst_miss hk, mst_ne (by omega), mst_ne (by omega), mst_ne (by omega), ed 240 (by omega)]
            have e241 : ∀ k, d2 241 k = if k = (m 240 0).toNat then a else m 241 k := fun k => by
              rw [← hd2, mst_ne (by omega), mst_ne (by omega), mst_ne (by omega), mst_self, ed 241 (by omega)]
            have e242 : ∀ k, d2 242 k = if k = (m 240 0).toNat then b else m 242 k := fun k => by
              rw [← hd2, mst_ne (by omega), mst_ne (by omega), mst_self, mst_ne (by omega), ed 242 (by omega)]
            have e243 : ∀ k, d2 243 k = if k = (m 240 0).toNat then x else m 243 k := fun k => by
              rw [← hd2, mst_ne (by omega), mst_self, mst_ne (by omega), mst_ne (by omega), ed 243 (by omega)]
            obtain ⟨h1, h2, h3, h4, h5, h6, h7, h8, h9, h10⟩ := hR1
            have e205 : d2 205 = d1 205 := e2 205 (by omega) (by omega) (by omega) (by omega)
            have e205' : d2 205 = m 205 := e205.trans (ed 205 (by omega))
            refine ⟨TpR_congr h1 (by rw [x1 1 (by omega) (by omega) (by omega)]) (x1 2 (by omega) (by omega) (by omega)) (by rw [e2 203 (by omega) (by omega) (by omega) (by omega)]) (e2 204 (by omega) (by omega) (by omega) (by omega)), ?_, ?_, ?_, ?_, ⟨?_, ?_, ?_, ?_, ?_, fun i i0 i1 => ?_⟩, ?_, fun i i0 i1 => ?_, ?_, fun j => ?_⟩
            · rw [x1 0 (by omega) (by omega) (by omega)]; exact h2
            · rw [x1 0 (by omega) (by omega) (by omega)]
              have hc0 := h3.2.1.1
              exact HlR_congr h3 (fun k _ _ _ _ => x1 k (by omega) (by omega) (by omega)) (fun j _ => by rw [x1 _ (by omega) (by omega) (by omega)]) (fun k _ _ => e2 k (by omega) (by omega) (by omega) (by omega))
            · rw [e2 245 (by omega) (by omega) (by omega) (by omega)]
              exact StR_congr h4 (x1 _ (by omega) (by omega) (by omega)) (x1 _ (by omega) (by omega) (by omega)) (x1 _ (by omega) (by omega) (by omega)) e205
            · exact LnR_congr h5 (by rw [x1 _ (by omega) (by omega) (by omega)]) (x1 _ (by omega) (by omega) (by omega)) (x1 _ (by omega) (by omega) (by omega)) (x1 _ (by omega) (by omega) (by omega)) e205 (e2 _ (by omega) (by omega) (by omega) (by omega)) (e2 _ (by omega) (by omega) (by omega) (by omega)) (e2 _ (by omega) (by omega) (by omega) (by omega)) (e2 _ (by omega) (by omega) (by omega) (by omega))
            · rw [e0, e240, x4]
            · rw [e0, e240]; omega
            · rw [e0, e240]; omega
            · rw [x5]; split
              · exact hb.2.1.1
              · exact hb.1.1
            · rw [x5]; split
              · exact hb.2.1.2
              · exact hb.1.2
            · rw [e0, e240] at i1
              have ei : (8 * 0 + i).toNat = i.toNat := by omega
              rw [ei, e241, e242, e243, e205', x2, x3, x5]
              by_cases g : i = m 240 0
              · subst g
                rw [if_pos rfl, if_pos rfl, if_pos rfl, mst_hit, mst_hit]
                refine ⟨rfl, rfl, ?_, by omega, by omega, by omega, by omega⟩
                rcases hx with rfl | rfl
                · rw [if_pos rfl, ((hb.2.2 (m 240 0) i0 (by omega)).2), if_pos rfl]
                · rw [if_neg (by decide), ((hb.2.2 (m 240 0) i0 (by omega)).1), if_pos rfl]
              · obtain ⟨y1, y2, y3, y4, y5, y6, y7⟩ := s6 i i0 (by omega)
                rw [ei] at y1 y2 y3 y4 y5 y6 y7
                have gi : ¬ i.toNat = (m 240 0).toNat := by omega
                rw [if_neg gi, if_neg gi, if_neg gi, mst_miss (by omega), mst_miss (by omega)]
                refine ⟨y1, y2, ?_, y4, y5, y6, y7⟩
                rcases hx with rfl | rfl
                · rw [if_pos rfl, ((hb.2.2 i i0 (by omega)).2), if_neg g]; exact y3
                · rw [if_neg (by decide), ((hb.2.2 i i0 (by omega)).1), if_neg g]; exact y3
            · exact TdR_congr h7 (x1 _ (by omega) (by omega) (by omega)) e205 (e2 _ (by omega) (by omega) (by omega) (by omega))
            · obtain ⟨z1, z2, z3⟩ := h8 i i0 i1
              rw [e2 249 (by omega) (by omega) (by omega) (by omega), x1 (11 * i.toNat + 111) (by omega) (by omega) (by omega)]
              refine ⟨z1, z2, fun z => ?_⟩
              obtain ⟨y1, y2, y3, y4⟩ := z3 z
              have e7 : rowS d2 247 i = rowS d1 247 i := by unfold rowS; rw [e2 247 (by omega) (by omega) (by omega) (by omega)]
              rw [e7]
              refine ⟨StR_congr y1 (x1 _ (by omega) (by omega) (by omega)) (x1 _ (by omega) (by omega) (by omega)) (x1 _ (by omega) (by omega) (by omega)) e205, LnR_congr y2 (by rw [x1 _ (by omega) (by omega) (by omega)]) (x1 _ (by omega) (by omega) (by omega)) (x1 _ (by omega) (by omega) (by omega)) (x1 _ (by omega) (by omega) (by omega)) e205 (e2 _ (by omega) (by omega) (by omega) (by omega)) (e2 _ (by omega) (by omega) (by omega) (by omega)) (e2 _ (by omega) (by omega) (by omega) (by omega)) (e2 _ (by omega) (by omega) (by omega) (by omega)), ?_, TdR_congr y4 (x1 _ (by omega) (by omega) (by omega)) e205 (e2 _ (by omega) (by omega) (by omega) (by omega))⟩
              obtain ⟨t1, t2, t3, t4, t5, t6⟩ := y3
              have f240 : d2 240 (1 + i).toNat = d1 240 (1 + i).toNat := by rw [e240' _ (by omega), ed 240 (by omega)]
              refine ⟨?_, ?_, ?_, ?_, ?_, fun q q0 q1 => ?_⟩
              · rw [x1 _ (by omega) (by omega) (by omega), f240]; exact t1
              · rw [f240]; exact t2
              · rw [f240]; exact t3
              · rw [x1 _ (by omega) (by omega) (by omega)]; exact t4
              · rw [x1 _ (by omega) (by omega) (by omega)]; exact t5
              · rw [f240] at q1
                have := t6 q q0 q1
                rw [ed 241 (by omega), ed 242 (by omega), ed 243 (by omega), ed 205 (by omega)] at this
                rw [x1 (11 * i.toNat + 111) (by omega) (by omega) (by omega), x1 (11 * i.toNat + 111 + 8) (by omega) (by omega) (by omega), x1 (11 * i.toNat + 111 + 9) (by omega) (by omega) (by omega), e241, e242, e243, e205']
                have gi : ¬ (8 * (1 + i) + q).toNat = (m 240 0).toNat := by omega
                rw [if_neg gi, if_neg gi, if_neg gi]
                exact this
            · exact UnR_congr h9 (by rw [x1 _ (by omega) (by omega) (by omega)]) (by rw [x1 _ (by omega) (by omega) (by omega)]) (fun k _ _ => x1 k (by omega) (by omega) (by omega)) e205 (by rw [e2 203 (by omega) (by omega) (by omega) (by omega)]) (e2 _ (by omega) (by omega) (by omega) (by omega))
            · rw [e243]
              split
              · exact hx
              · have := h10 j
                rwa [ed 243 (by omega)] at this
end Mk
