/-! Calls that ask: walker, hour, count. -/
section Eb
theorem swi_out {x lo : Int} {os : List Res} {od : Res} (h : ¬ (lo ≤ x ∧ x < lo + os.length)) : swi x lo os od = od := if_neg h
variable {f : Int → Int → Int → Int} {m : Mm}
theorem call_walker (hR : RR f m m) (a b : Int) (hb : okI b) : Both (fn_Clock_walker a b) (fn_Model_walker a b) m := by
  refine q_rel hR (fun d hE hd => ?_)
  have hH := hR.2.2.1.1
  have hn := hH.1
  have hc0 := RR_hc hR
  have hb1 := hb.1
  have hb2 := hb.2
  unfold fn_Clock_walker fn_Model_walker
  rw [c_isWalker hR, bd_some, bn_eq, m_isWalker, bd_some]
  have er : ∀ k, 204 ≤ k → mst d 203 0 0 k = m k := fun k hk => by rw [mst_ne (by omega)]; exact hE k (by omega)
  have hq := th_FQM (d := d) (x := 0) (j := 0) (by omega) (by omega)
  rw [er 205 (by omega)]
  have both : ∀ {oc om : Res} (x : Int), oc = some (x, m) → om = some (x, mst d 203 0 0) → ∃ y : Int, TT oc (fun r c' => r = y ∧ FQ m c' ∧ EqM m c') ∧ TT om (fun r d' => r = y ∧ FQM d d' ∧ EqC d d') := fun x h1 h2 => ⟨x, TT_of h1 ⟨rfl, FQ_refl, fun _ _ => rfl⟩, TT_of h2 ⟨rfl, hq⟩⟩
  by_cases c1 : iR a (m 205 1) = 0
  · rw [if_pos c1, if_pos c1]
    exact both _ rfl rfl
  · rw [if_neg c1, if_neg c1]
    rw [iR_0] at c1
    have a0 : 0 ≤ a := by omega
    have a1 : a < m 205 1 := by omega
    obtain ⟨q0, q1, q2, q3, q4, q5, q6⟩ := hR.2.2.1.2.1.2.2.2.2.1 a a0 a1
    obtain ⟨k1, k2, k3, k4, k5, k6, k7, k8, k9, k10, k11, k12, k13⟩ := hH.2.1 a a0 a1
    obtain ⟨s0, s1, s2, s3, s4, s5⟩ := hR.2.2.2.1.1
    by_cases c2 : b < 0
    · rw [if_pos c2, if_pos c2]
      exact both _ rfl rfl
    · rw [if_neg c2, if_neg c2, if_pos hc0.1, if_pos (by omega)]
      have hc : b = 0 ∨ b = 1 ∨ b = 2 ∨ 3 ≤ b := by omega
      rcases hc with rfl | rfl | rfl | hc
      · refine both (m 210 a.toNat) ?_ ?_
        · show some (m ((m 0 2).toNat + 4 * a.toNat + 13) 0, m) = _
          rw [q0]
        · rw [if_pos (by decide), if_pos rfl, if_pos (by omega), er 210 (by omega)]
      · refine both (bt (m 245 2) a) ?_ ?_
        · show bd (fn_State_lives 83 a m) (fun r7 m8 => if r7 = 0 then some (0, m8) else some (1, m8)) = _
          unfold fn_State_lives
          rw [s2, bt_fold]
          rcases bt_01 hR.2.2.2.1.2.1 hR.2.2.2.1.2.2.1 a0 (by omega : a < 6) with z | z
          · rw [z, if_pos rfl, bd_some, if_pos rfl]
          · rw [z, if_neg (by decide), bd_some, if_neg (by decide)]
        · rw [if_pos (by decide), if_neg (by decide), if_pos rfl, er 245 (by omega), tn2, bt_fold]
      · refine both (m 245 (4 + a).toNat) ?_ ?_
        · show (if 0 ≤ a ∧ a < 6 then some (m 84 a.toNat, m) else none) = _
          rw [if_pos (by omega)]
          have := (s4 a a0 (by omega)).1
          rw [← this]
        · rw [if_pos (by decide), if_neg (by decide), if_neg (by decide), w32_in (by omega) (by omega), if_pos (by omega), er 245 (by omega)]
      · by_cases g : b - 3 < m 215 a.toNat
        · refine both (m 214 (4 * a + (b - 3)).toNat) ?_ ?_
          · rw [swi_out (by simp; omega), w32_in (by omega) (by omega), q4, if_pos g, if_pos (by omega), q5 (b - 3) (by omega) g]
          · have e : 4 * a + b - 3 = 4 * a + (b - 3) := by omega
            rw [if_neg (by omega), if_pos (by omega), er 215 (by omega), w32_in (x := b - 3) (by omega) (by omega), if_pos g, w32_in (x := 4 * a) (by omega) (by omega), w32_in (x := 4 * a + b) (by omega) (by omega), w32_in (x := 4 * a + b - 3) (by omega) (by omega), if_pos (by omega), er 214 (by omega), e]
        · refine both (-1) ?_ ?_
          · rw [swi_out (by simp; omega), w32_in (by omega) (by omega), q4, if_neg g]
          · rw [if_neg (by omega), if_pos (by omega), er 215 (by omega), w32_in (x := b - 3) (by omega) (by omega), if_neg g]
theorem call_hour (hR : RR f m m) (a b : Int) : Both (fn_Clock_hour a b) (fn_Model_hour a b) m := by
  refine q_rel hR (fun d hE hd => ?_)
  have hH := hR.2.2.1.1
  have hS := hR.2.2.2.1.2
  have hL : LawM f m := hR.2.2.1.2.2.2.2.2.2.2.2.2.2
  have hn := hH.1
  have hc0 := RR_hc hR
  unfold fn_Clock_hour fn_Model_hour
  rw [c_isHour hR, bd_some, bn_eq, m_isHour, bd_some]
  have er : ∀ k, 204 ≤ k → mst d 203 0 0 k = m k := fun k hk => by rw [mst_ne (by omega)]; exact hE k (by omega)
  have hq := th_FQM (d := d) (x := 0) (j := 0) (by omega) (by omega)
  rw [er 205 (by omega)]
  have both : ∀ {oc om : Res} (x : Int), oc = some (x, m) → om = some (x, mst d 203 0 0) → ∃ y : Int, TT oc (fun r c' => r = y ∧ FQ m c' ∧ EqM m c') ∧ TT om (fun r d' => r = y ∧ FQM d d' ∧ EqC d d') := fun x h1 h2 => ⟨x, TT_of h1 ⟨rfl, FQ_refl, fun _ _ => rfl⟩, TT_of h2 ⟨rfl, hq⟩⟩
  by_cases c1 : iR a (m 205 2) = 0
  · rw [if_pos c1, if_pos c1]
    exact both _ rfl rfl
  · rw [if_neg c1, if_neg c1]
    rw [iR_0] at c1
    have a0 : 0 ≤ a := by omega
    have a1 : a < m 205 2 := by omega
    obtain ⟨x1, x2, x3⟩ := hR.2.2.1.2.2.1 a a0 a1
    obtain ⟨s0, s1, s2, s3, s4, s5⟩ := hR.2.2.2.1.1
    rw [m_within, bd_some]
    by_cases c2 : b < 0
    · rw [if_pos c2, if_pos c2, if_pos rfl]
      exact both _ rfl rfl
    · rw [if_neg c2, if_neg c2]
      by_cases c3 : 5 < b
      · rw [if_pos c3, if_pos c3, if_pos rfl]
        exact both _ rfl rfl
      · rw [if_neg c3, if_neg c3, if_neg (by decide : ¬ (1 : Int) = 0)]
        have hc : b = 0 ∨ b = 1 ∨ b = 2 ∨ 3 ≤ b := by omega
        rcases hc with rfl | rfl | rfl | hc
        · refine both (m 245 (10 + a).toNat) ?_ ?_
          · show (if 0 ≤ a ∧ a < 6 then some (m 85 a.toNat, m) else none) = _
            have := s5 a a0 a1
            rw [if_pos (by omega), ← this]
          · rw [if_pos (by decide), if_pos rfl, w32_in (by omega) (by omega), if_pos (by omega), er 245 (by omega)]
        · refine both (m 219 a.toNat) ?_ ?_
          · show (if isK 0 (m 0 2) = true then (if 0 ≤ a ∧ a < 6 then some (m ((m 0 2).toNat + 8) a.toNat, m) else none) else none) = _
            rw [if_pos hc0.1, if_pos (by omega), x2]
          · rw [if_pos (by decide), if_neg (by decide), if_pos rfl, if_pos (by omega), er 219 (by omega)]
        · refine both (m 220 a.toNat) ?_ ?_
          · show (if isK 0 (m 0 2) = true then (if 0 ≤ a ∧ a < 6 then some (m ((m 0 2).toNat + 9) a.toNat, m) else none) else none) = _
            rw [if_pos hc0.1, if_pos (by omega), x3]
          · rw [if_pos (by decide), if_neg (by decide), if_neg (by decide), if_pos (by omega), er 220 (by omega)]
        · rw [if_neg (by omega : ¬ b < 3), swi_out (by simp; omega), if_pos hc0.1]
          have hwr := whS_r (S := m 245) (h := a) hH
          refine ⟨if b = 3 then whS m (m 245) a else if b = 4 then ofS m a (whS m (m 245) a) else coS f m (m 245) a, TT_call (c_go hR) (fun r m' q => ?_), TT_call (m_go hR (FM2_mst (EqM_FM2 hE)) (er 245 (by omega))) (fun r m' q => ?_)⟩
          · obtain ⟨q1, q2⟩ := q
            have hfq := FW_FQ q2
            refine TT_if (fun g => ?_) (fun g => ?_)
            · rw [minuteOf_eq q1 a0 a1, bd_some]
              exact TT_some.mpr ⟨by rw [if_pos g], hfq⟩
            · refine TT_if (fun g2 => ?_) (fun g2 => ?_)
              · rw [off_eq q1 a0 a1, bd_some]
                exact TT_some.mpr ⟨by rw [if_neg g, if_pos g2], hfq⟩
              · refine TT_call (cost_ok q1 a0 a1) (fun r2 m2 q3 => TT_some.mpr ⟨by rw [if_neg g, if_neg g2]; exact q3.1, ?_⟩)
                have h2 := LwF_FQ hc0.2 q3.2
                exact ⟨FQ_trans hfq.1 h2.1, EqM_trans hfq.2 h2.2⟩
          · have hf := FR_FQM q.2
            have e245 : m' 245 = m 245 := (q.2 245 (by omega)).trans (er 245 (by omega))
            have hF : FQM d m' ∧ EqC d m' := ⟨FQM_trans hq.1 hf.1, EqC_trans hq.2 hf.2⟩
            refine TT_if (fun g => ?_) (fun g => ?_)
            · rw [m_isWhen hH hS q.1 e245 a0 a1, bd_some]
              exact TT_some.mpr ⟨by rw [if_pos g], hF⟩
            · refine TT_if (fun g2 => ?_) (fun g2 => ?_)
              · rw [m_isWhen hH hS q.1 e245 a0 a1, bd_some, m_offBy hH q.1 a0 a1 (by omega) (by omega), bd_some]
                exact TT_some.mpr ⟨by rw [if_neg g, if_pos g2], hF⟩
              · refine TT_call (m_costOf hH hS hL q.1 e245 a0 a1) (fun r2 m2 q3 => TT_some.mpr ⟨by rw [if_neg g, if_neg g2]; exact q3.1, ?_, ?_⟩)
                · refine FQM_trans hF.1 ⟨fun a z1 z2 z3 z4 => q3.2 a (by omega), ?_, ?_⟩
                  · rw [q3.2 203 (by omega)]
                  · rw [q3.2 203 (by omega)]
                · exact EqC_trans hF.2 (fun a ha => q3.2 a (by omega))
theorem call_count (hR : RR f m m) (b : Int) : Both (fn_Clock_count b) (fn_Model_count b) m := by
  refine q_rel hR (fun d hE hd => ?_)
  have hH := hR.2.2.1.1
  have hn := hH.1
  have hc0 := RR_hc hR
  obtain ⟨s0, s1, s2, s3, s4, s5⟩ := hR.2.2.2.1.1
  have hs3 := hR.2.2.2.1.2.2.2.1
  obtain ⟨w0, w1, w2, w3, -⟩ := hR.2.2.1.2.1
  have p3 := hR.2.2.1.2.2.2.1
  have p4 := hR.2.2.1.2.2.2.2.1
  unfold fn_Clock_count fn_Model_count
  have er : ∀ k, 204 ≤ k → mst d 203 0 0 k = m k := fun k hk => by rw [mst_ne (by omega)]; exact hE k (by omega)
  have er2 : ∀ j, j ≠ 0 → mst d 203 0 0 203 j = m 203 j := fun j hj => by rw [mst_miss hj, hE 203 (by omega)]
  have hq := th_FQM (d := d) (x := 0) (j := 0) (by omega) (by omega)
  rw [bn_eq, m_within, bd_some]
  have both : ∀ {oc om : Res} (x y : Int), oc = some (x, m) → om = some (y, mst d 203 0 0) → x = y → ∃ y : Int, TT oc (fun r c' => r = y ∧ FQ m c' ∧ EqM m c') ∧ TT om (fun r d' => r = y ∧ FQM d d' ∧ EqC d d') := fun x y h1 h2 e => ⟨x, TT_of h1 ⟨rfl, FQ_refl, fun _ _ => rfl⟩, TT_of h2 ⟨e.symm, hq⟩⟩
  by_cases c1 : b < 0
  · rw [if_pos c1, if_pos rfl, swi_out (by simp; omega)]
    exact both _ _ rfl rfl rfl
  · by_cases c2 : 13 < b
    · rw [if_neg c1, if_pos c2, if_pos rfl, swi_out (by simp; omega)]
      exact both _ _ rfl rfl rfl
    · rw [if_neg c1, if_neg c2, if_neg (by decide : ¬ (1 : Int) = 0)]
      have hc : b = 0 ∨ b = 1 ∨ b = 2 ∨ b = 3 ∨ b = 4 ∨ b = 5 ∨ b = 6 ∨ b = 7 ∨ b = 8 ∨ b = 9 ∨ b = 10 ∨ b = 11 ∨ b = 12 ∨ b = 13 := by omega
      rcases hc with rfl | rfl | rfl | rfl | rfl | rfl | rfl | rfl | rfl | rfl | rfl | rfl | rfl | rfl
      · exact both _ _ (if_pos hc0.1) rfl (by rw [er 205 (by omega)]; exact w1)
      · exact both _ _ (if_pos hc0.1) rfl (by rw [er 205 (by omega)]; exact w2)
      · exact both _ _ (if_pos hc0.1) rfl (by rw [er 205 (by omega)]; exact w3)
      · exact both _ _ (if_pos hc0.1) rfl (by rw [er 205 (by omega)]; exact p3)
      · exact both _ _ (if_pos hc0.1) rfl (by rw [er 205 (by omega)]; exact p4)
      · exact both _ _ rfl rfl (by rw [er 245 (by omega)]; exact s0)
      · exact both _ _ rfl rfl (by rw [er 245 (by omega)]; exact s1)
      · exact both _ _ rfl rfl (by rw [er 245 (by omega)]; exact s2)
      · refine both _ _ (some_ite 0 1 m) rfl ?_
        rw [er 245 (by omega), s3, tn3]
        split <;> omega
      · exact both _ _ rfl rfl (by rw [er 236 (by omega)]; exact hR.2.2.2.2.1.1)
      · exact both _ _ rfl rfl (by rw [er 240 (by omega)]; exact hR.2.2.2.2.2.1.1)
      · have ht := hR.2.2.2.2.2.2.1
        have key : ∀ (j n n' : Nat) (a i : Int), i + j = m 205 2 → 0 ≤ i → j < n → j < n' → 0 ≤ a → a ≤ i → ∃ x, lp_Standing_hoursTold_4 82 (m 0 2).toNat n a i m = some (x, m) ∧ lp_Model_toldMany_4 n' a i (mst d 203 0 0) = some (x, mst d 203 0 0) := by
          intro j
          induction j with
          | zero =>
            intro n n' a i h1 h2 h3 h4 h5 h6
            obtain ⟨k, rfl⟩ : ∃ k, n = k + 1 := ⟨n - 1, by omega⟩
            obtain ⟨k', rfl⟩ : ∃ k, n' = k + 1 := ⟨n' - 1, by omega⟩
            refine ⟨a, ?_, ?_⟩
            · show bo_Standing_hoursTold_4 _ _ _ _ _ _ = _
              unfold bo_Standing_hoursTold_4
              rw [w3, if_neg (by omega)]
            · show bo_Model_toldMany_4 _ _ _ _ = _
              unfold bo_Model_toldMany_4
              rw [er 205 (by omega), tn2, if_neg (by omega)]
          | succ j ih =>
            intro n n' a i h1 h2 h3 h4 h5 h6
            obtain ⟨k, rfl⟩ : ∃ k, n = k + 1 := ⟨n - 1, by omega⟩
            obtain ⟨k', rfl⟩ : ∃ k, n' = k + 1 := ⟨n' - 1, by omega⟩
            have e1 : lp_Standing_hoursTold_4 82 (m 0 2).toNat (k + 1) a i m = lp_Standing_hoursTold_4 82 (m 0 2).toNat k (if m 244 i.toNat = -2 then a else a + 1) (i + 1) m := by
              show bo_Standing_hoursTold_4 _ _ _ _ _ _ = _
              unfold bo_Standing_hoursTold_4 bo_Standing_hoursTold_26
              have hx := (ht i h2 (by omega)).1
              have e0 : (6 * 0 + i).toNat = i.toNat := by omega
              rw [e0] at hx
              rw [w3, if_pos (by omega), if_pos (by omega), hx]
              simp (disch := omega) only [w32_in]
              split <;> rfl
            have e2 : lp_Model_toldMany_4 (k' + 1) a i (mst d 203 0 0) = lp_Model_toldMany_4 k' (if m 244 i.toNat = -2 then a else a + 1) (i + 1) (mst d 203 0 0) := by
              show bo_Model_toldMany_4 _ _ _ _ = _
              unfold bo_Model_toldMany_4 bo_Model_toldMany_31
              rw [er 205 (by omega), tn2, if_pos (by omega), if_pos (by omega), er 244 (by omega)]
              simp (disch := omega) only [w32_in, bn_eq]
              split
              · rw [Int.add_zero]
              · rfl
            rw [e1, e2]
            exact ih k k' _ _ (by omega) (by omega) (by omega) (by omega) (by split <;> omega) (by split <;> omega)
        obtain ⟨x, y1, y2⟩ := key (m 205 2).toNat FU FU 0 0 (by omega) (by omega) (by show (m 205 2).toNat < 2000; omega) (by show (m 205 2).toNat < 2000; omega) (by omega) (by omega)
        refine both x x ?_ ?_ rfl
        · show (if isK 0 (m 0 2) = true then bd (fn_Standing_hoursTold 82 (m 0 2).toNat m) (fun r7 m8 => some (r7, m8)) else none) = _
          unfold fn_Standing_hoursTold
          rw [if_pos hc0.1, y1, bd_some]
        · show bd (fn_Model_toldMany (mst d 203 0 0)) (fun r5 m6 => some (r5, m6)) = _
          unfold fn_Model_toldMany
          rw [y2, bd_some]
      · exact both _ _ rfl rfl (by rw [er2 58 (by omega)]; exact hR.2.2.2.2.2.2.2.2.1.1)
      · exact both _ _ rfl rfl (by rw [er2 1 (by omega)]; exact hR.1.1)
end Eb
