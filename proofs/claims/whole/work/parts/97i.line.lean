/-! A line of the days, whole. -/
section Lw
variable {c0 d0 : Mm} {hc : Nat} {n : Int}
theorem ln_hour (L : LnH c0 d0 hc n) {c d : Mm} (S : StL c0 d0 n c d) (hN : NmR (c 1 3) (d 203 7)) : ∃ v, fn_Tape_find (hc + 3) (c hc 2) (c 1 3) c = some (v, c) ∧ fn_Model_hourNamed 0 d = some (v, d) ∧ (v = -1 ∨ 0 ≤ v ∧ v < c hc 2) := by
  obtain ⟨h1, h2, h3, h4, h5, h6, h7, h8, h9⟩ := ln_nm L S
  exact hour_find (Or.inl rfl) h9 h3.symm h6.1 h6.2 hN
/-- behind the hour of a deputy -/
theorem ln_dep2 (L : LnH c0 d0 hc n) {c d : Mm} (S : StL c0 d0 n c d) (k1 : c 79 n.toNat = 2) (k2 : d 237 (150 + n).toNat = 2) (k3 : c 81 n.toNat = d 238 (150 + n).toNat) (k4 : 0 ≤ d 238 (150 + n).toNat) (k5 : d 238 (150 + n).toNat < d 205 2) : LineR c0 d0 n (bo_Lines_readLine_113 78 hc 2 c) (bd (fn_Model_needsWalker 0 d) fun r17 m18 => if r17 = 0 then (some (0, m18)) else (if 0 ≤ 150 + n ∧ 150 + n < 180 then bn (mst m18 239 (150 + n).toNat (m18 203 42)) fun m20 => bd (fn_Model_nextToken m20) fun r21 m22 => bo_Model_readsLine_251 m22 else none)) := by
  obtain ⟨e78, n0, n1⟩ := ln_cnt L S
  unfold bo_Lines_readLine_113 bo_Lines_readLine_127
  rw [if_neg (by decide : ¬ (2 : Int) = 0), if_neg (by decide : ¬ (2 : Int) = 1), if_pos rfl]
  obtain ⟨v, r', c', d', w1, w2, w3, w4, w5⟩ := ln_walker L S
  have e78' : ∀ x, (mst c' 80 n.toNat x) 78 0 = n := fun x => by rw [mst_ne (by omega), w3.1 78 (by omega)]; exact e78
  rw [w1, w2, bd_some, bd_some, e78, if_pos (by omega : 0 ≤ n ∧ n < 30), bn_eq, e78', if_pos (by omega : 0 ≤ n ∧ n < 30), mst_hit]
  rcases w5 with ⟨y, w5, w6, w7, w8, w9⟩ | ⟨y, w5, w6⟩
  · rw [if_neg (by omega : ¬ v = -1), if_neg (by omega : ¬ r' = 0), if_pos (by omega : 0 ≤ 150 + n ∧ 150 + n < 180), bn_eq, w8]
    have S' := StL_md (x := v) (k := 239) (StL_mc (x := v) (k := 80) (StL_p S w3 w4 w9 (by rw [w7])) (by omega) (by omega)) (by omega) (by omega)
    obtain ⟨c2, d2, v1, v2, S2, v3, v4⟩ := StL_next S'
    rw [v1, v2, bd_some, bd_some]
    have g1 : c2 79 n.toNat = 2 := by rw [v3.1 _ (by omega), mst_ne (by omega), w7]; exact k1
    have g2 : c2 80 n.toNat = v := by rw [v3.1 _ (by omega), mst_hit]
    have g3 : c2 81 n.toNat = c 81 n.toNat := by rw [v3.1 _ (by omega), mst_ne (by omega), w7]
    have q1 : d2 237 (150 + n).toNat = 2 := by rw [v4.1 _ (by omega), mst_ne (by omega), w4.1 _ (by omega)]; exact k2
    have q2 : d2 238 (150 + n).toNat = d 238 (150 + n).toNat := by rw [v4.1 _ (by omega), mst_ne (by omega), w4.1 _ (by omega)]
    have q3 : d2 239 (150 + n).toNat = v := by rw [v4.1 _ (by omega), mst_hit]
    have q4 : d2 205 = d 205 := by rw [v4.1 _ (by omega), mst_ne (by omega), w4.1 _ (by omega)]
    have eC : bo_Lines_readLine_167 78 hc 2 c2 = bo_Lines_readLine_202 78 hc c2 := by
      unfold bo_Lines_readLine_167
      rw [if_neg (by decide : ¬ (2 : Int) = 0)]
    rw [eC]
    refine ln_fin L S2 ?_
    unfold RowR
    rw [g1, g2, g3, q1, q2, q3, q4]
    exact ⟨rfl, by omega, by omega, fun z => by omega, fun z => by omega, fun _ => ⟨k3, rfl, k4, k5, by omega, by omega⟩⟩
  · rw [if_pos w5, if_pos y]
    refine ln_fail L S (FDc_trans (FDc_p w3) (FDc_m (by omega) (by omega))) (FDm_p w4) ?_
    unfold Wr at w6 ⊢
    rw [mst_ne (by omega)]
    exact w6
theorem ln_dep (L : LnH c0 d0 hc n) {c d : Mm} (S : StL c0 d0 n c d) (k1 : c 79 n.toNat = 2) (k2 : d 237 (150 + n).toNat = 2) : LineR c0 d0 n (bd (fn_Tape_which (hc + 3) (c hc 2) c) fun r14 m15 => if 0 ≤ c 78 0 ∧ c 78 0 < 30 then bn (mst m15 (78 + 3) (c 78 0).toNat r14) fun m17 => if 0 ≤ m17 78 0 ∧ m17 78 0 < 30 then if (m17 (78 + 3) (m17 78 0).toNat) = (-1) then (some (0, m17)) else (bd (fn_Tape_step m17) fun r19 m20 => bo_Lines_readLine_113 78 hc 2 m20) else none else none) (bo_Model_readsLine_150 2 (150 + n) d) := by
  obtain ⟨e78, n0, n1⟩ := ln_cnt L S
  have e3 : c hc 2 = d 205 2 := (ln_nm L S).2.2.1
  unfold bo_Model_readsLine_150
  rw [if_neg (by decide : ¬ (2 : Int) = 0), if_pos rfl, e78]
  rcases hour_ok S.2.2.1 (ln_hour L S) with ⟨c', d', w1, w2, w3, w4, w5, w6⟩ | ⟨w1, v, w2, w3⟩
  · have e78' : ∀ x, (mst c' 81 n.toNat x) 78 0 = n := fun x => by rw [mst_ne (by omega), w4.1 78 (by omega)]; exact e78
    rw [w1, w2, bd_some, bd_some, if_pos (by omega : 0 ≤ n ∧ n < 30), if_neg (by decide : ¬ (1 : Int) = 0), bn_eq, e78', if_pos (by omega : 0 ≤ n ∧ n < 30), mst_hit, if_pos rfl, w3, bd_some, if_pos (Or.inl rfl)]
    refine ln_fail L S (FDc_trans (FDc_p w4) (FDc_m (by omega) (by omega))) (FDm_p w5) ?_
    unfold Wr at w6 ⊢
    rw [mst_ne (by omega)]
    exact w6
  · rw [w1, bd_some, if_pos rfl, w2, bd_some, if_pos (by omega : 0 ≤ 150 + n ∧ 150 + n < 180), bn_eq, if_pos (by omega : 0 ≤ 150 + n ∧ 150 + n < 180), mst_hit]
    rcases w3 with ⟨rfl, c', w3, w4, w5⟩ | ⟨v0, v1, w3⟩
    · obtain ⟨d', x1, x2, x3⟩ := w5 (mst d 238 (150 + n).toNat (-1)) (fun b hb => mst_ne hb)
      have e78' : ∀ x, (mst c' 81 n.toNat x) 78 0 = n := fun x => by rw [mst_ne (by omega), w4.1 78 (by omega)]; exact e78
      rw [w3, bd_some, if_pos (by omega : 0 ≤ n ∧ n < 30), bn_eq, e78', if_pos (by omega : 0 ≤ n ∧ n < 30), mst_hit, if_pos rfl, if_pos (by omega : (-1 : Int) < 0), x1, bd_some, if_pos (Or.inl rfl)]
      have S' := StL_md (x := -1) (k := 238) S (by omega) (by omega)
      refine ln_fail L S' (FDc_trans (FDc_p w4) (FDc_m (by omega) (by omega))) (FDm_p x2) ?_
      unfold Wr at x3 ⊢
      rw [mst_ne (by omega)]
      exact x3
    · have e78' : ∀ x, (mst c 81 n.toNat x) 78 0 = n := fun x => by rw [mst_ne (by omega)]; exact e78
      rw [w3, bd_some, if_pos (by omega : 0 ≤ n ∧ n < 30), bn_eq, e78', if_pos (by omega : 0 ≤ n ∧ n < 30), mst_hit, if_neg (by omega : ¬ v = -1), if_neg (by omega : ¬ v < 0)]
      have S' := StL_md (x := v) (k := 238) (StL_mc (x := v) (k := 81) S (by omega) (by omega)) (by omega) (by omega)
      obtain ⟨c2, d2, v1', v2, S2, v3, v4⟩ := StL_next S'
      rw [v1', v2, bd_some, bd_some]
      have g1 : c2 79 n.toNat = 2 := by rw [v3.1 _ (by omega), mst_ne (by omega)]; exact k1
      have g3 : c2 81 n.toNat = v := by rw [v3.1 _ (by omega), mst_hit]
      have q1 : d2 237 (150 + n).toNat = 2 := by rw [v4.1 _ (by omega), mst_ne (by omega)]; exact k2
      have q2 : d2 238 (150 + n).toNat = v := by rw [v4.1 _ (by omega), mst_hit]
      have q4 : d2 205 = d 205 := by rw [v4.1 _ (by omega), mst_ne (by omega)]
      exact ln_dep2 L S2 g1 q1 (by rw [g3, q2]) (by omega) (by rw [q2, q4]; omega)
theorem m_isW {c d : Mm} {k : Nat} {x w : Int} (h : TkR c d) (hk : k < 29) (hx : wdM.getD k 0 = x) (hw : w = -(k : Int) - 2) : fn_Model_isWord x d = some (if c 1 2 = w then 1 else 0, d) := by
  rw [hw]; exact m_isWord h hk hx
/-- which line it is -/
theorem ln_kind {c d : Mm} (h : TkR c d) : ∃ k, fn_Lines_kindOf (c 1 2) c = some (k, c) ∧ fn_Model_readsLine d = bo_Model_readsLine_71 k d ∧ (k = -1 ∨ 0 ≤ k ∧ k ≤ 4) := by
  unfold fn_Lines_kindOf fn_Model_readsLine
  rw [m_isW (k := 14) (x := 237470) (w := -16) h (by decide) rfl (by decide), bd_some]
  by_cases y0 : c 1 2 = -16
  · rw [if_pos y0, if_pos y0, if_neg (by decide : ¬ (1 : Int) = 0)]
    exact ⟨0, rfl, rfl, by omega⟩
  · rw [if_neg y0, if_neg y0, if_pos rfl, m_isW (k := 15) (x := 85447) (w := -17) h (by decide) rfl (by decide), bd_some]
    by_cases y1 : c 1 2 = -17
    · rw [if_pos y1, if_pos y1, if_neg (by decide : ¬ (1 : Int) = 0)]
      exact ⟨1, rfl, rfl, by omega⟩
    · rw [if_neg y1, if_neg y1, if_pos rfl, m_isW (k := 16) (x := 60383635) (w := -18) h (by decide) rfl (by decide), bd_some]
      by_cases y2 : c 1 2 = -18
      · rw [if_pos y2, if_pos y2, if_neg (by decide : ¬ (1 : Int) = 0)]
        exact ⟨2, rfl, rfl, by omega⟩
      · rw [if_neg y2, if_neg y2, if_pos rfl, m_isW (k := 17) (x := 384611) (w := -19) h (by decide) rfl (by decide), bd_some]
        by_cases y3 : c 1 2 = -19
        · rw [if_pos y3, if_pos y3, if_neg (by decide : ¬ (1 : Int) = 0)]
          exact ⟨3, rfl, rfl, by omega⟩
        · rw [if_neg y3, if_neg y3, if_pos rfl, m_isW (k := 18) (x := 2968) (w := -20) h (by decide) rfl (by decide), bd_some]
          by_cases y4 : c 1 2 = -20
          · rw [if_pos y4, if_pos y4, if_neg (by decide : ¬ (1 : Int) = 0)]
            exact ⟨4, rfl, rfl, by omega⟩
          · rw [if_neg y4, if_neg y4, if_pos rfl]
            exact ⟨-1, rfl, rfl, by omega⟩
theorem line_ok {c d : Mm} (hk : hc = 4 ∨ hc = 41) (hN : NmX c hc d 0) (hL : LnR c 78 d 5) (h : TkR c d) : LineR c d (c 78 0) (fn_Lines_readLine 78 hc c) (fn_Model_readsLine d) := by
  obtain ⟨k, e1, e2, e3⟩ := ln_kind h
  obtain ⟨l1, l2, l3, l4⟩ := LnR_row.mp hL
  have t5 : (5 : Int).toNat = 5 := rfl
  rw [t5] at l1 l2 l3
  unfold fn_Lines_readLine
  rw [e1, e2, bd_some]
  unfold bo_Model_readsLine_71
  rw [t5]
  by_cases y : k = -1
  · obtain ⟨c', d', w1, w2, w3, w4, w5⟩ := wrong_ok (p := 1) h (by omega) (by omega)
    rw [if_pos y, if_pos (by omega : k < 0), w1, w2, bd_some, bd_some, if_pos (Or.inl rfl), if_pos (Or.inl rfl)]
    exact ⟨0, c', d', rfl, rfl, FDc_p w3, FDm_p w4, Or.inr ⟨rfl, w5⟩⟩
  · rw [if_neg y, if_neg (by omega : ¬ k < 0)]
    by_cases y5 : d 236 5 = 30
    · obtain ⟨c', d', w1, w2, w3, w4, w5⟩ := wrong_ok (p := 5) h (by omega) (by omega)
      rw [if_neg (by omega : ¬ c 78 0 < 30), if_pos y5, w1, w2, bd_some, bd_some, if_pos (Or.inl rfl), if_pos (Or.inl rfl)]
      exact ⟨0, c', d', rfl, rfl, FDc_p w3, FDm_p w4, Or.inr ⟨rfl, w5⟩⟩
    · rw [if_pos (by omega : c 78 0 < 30), if_neg y5]
      have L : LnH c d hc (c 78 0) := ⟨hk, hN, hL, rfl, by omega⟩
      have S0 : StL c d (c 78 0) c d := ⟨⟨fun _ _ _ => rfl, fun _ _ _ _ _ => rfl, rfl⟩, ⟨fun _ _ _ => rfl, fun _ _ _ _ _ => rfl, fun _ _ => rfl⟩, h, rfl⟩
      obtain ⟨c2, d2, v1, v2, S2, v3, v4⟩ := StL_next S0
      rw [v1, v2, bd_some, bd_some]
      obtain ⟨e78, n0, n1⟩ := ln_cnt L S2
      have e236 : d2 236 5 = c 78 0 := by rw [v4.1 _ (by omega)]; exact l1.symm
      rw [e78, e236]
      generalize c 78 0 = n at *
      have S3 := StL_mc (x := -1) (k := 81) (StL_mc (x := -1) (k := 80) (StL_mc (x := k) (k := 79) S2 (by omega) (by omega)) (by omega) (by omega)) (by omega) (by omega)
      have S4 := StL_md (x := k) (k := 237) S3 (by omega) (by omega)
      have E1 : ∀ x, mst c2 79 n.toNat x 78 0 = n := fun x => by rw [mst_ne (by omega)]; exact e78
      have E2 : ∀ x y, mst (mst c2 79 n.toNat x) 80 n.toNat y 78 0 = n := fun x y => by rw [mst_ne (by omega)]; exact E1 x
      rw [if_pos (by omega : 0 ≤ n ∧ n < 30), bn_eq, E1, if_pos (by omega : 0 ≤ n ∧ n < 30), bn_eq, E2, if_pos (by omega : 0 ≤ n ∧ n < 30), bn_eq, bn_eq, w32_in (x := 150 + n) (by omega) (by omega), if_pos (by omega : 0 ≤ 150 + n ∧ 150 + n < 180), bn_eq]
      have G1 : mst (mst (mst c2 (78 + 1) n.toNat k) (78 + 2) n.toNat (-1)) (78 + 3) n.toNat (-1) 79 n.toNat = k := by rw [mst_ne (by omega), mst_ne (by omega)]; exact mst_hit
      have G2 : mst d2 237 (150 + n).toNat k 237 (150 + n).toNat = k := mst_hit
      by_cases z2 : k = 2
      · subst z2
        rw [if_pos rfl, if_pos (by omega : (1 : Int) < 2)]
        exact ln_dep L S4 G1 G2
      · rw [if_neg z2]
        by_cases z1 : 1 < k
        · rw [if_pos z1]
          unfold bo_Lines_readLine_113
          rw [if_neg (by omega : ¬ k = 0), if_neg (by omega : ¬ k = 1), if_neg z2]
          refine ln_tail L S4 (by omega) z2 (by omega) (by omega) ?_
          unfold RowR
          rw [G2]
          exact ⟨G1, by omega, by omega, fun z => by omega, fun z => by omega, fun z => by omega⟩
        · rw [if_neg z1]
          have hk01 : k = 0 ∨ k = 1 := by omega
          have eC : ∀ m, bo_Lines_readLine_113 78 hc k m = bo_Lines_readLine_127 78 hc k m := fun m => by
            unfold bo_Lines_readLine_113
            rcases hk01 with q | q
            · rw [if_pos q]
            · rw [if_neg (by omega : ¬ k = 0), if_pos q]
          rw [eC]
          exact ln_walk L hk01 S4 G1 G2
end Lw
