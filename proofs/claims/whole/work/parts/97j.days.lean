/-! days: both read all lines, then lay them. -/
section Dy
theorem open_ok {c d : Mm} (h : TpR c d) : ∃ c' d', fn_Tape_open c = some (0, c') ∧ fn_Model_begins d = some (0, d') ∧ TkR c' d' ∧ c' 1 1 = 0 ∧ (∀ a, a ≠ 1 → c' a = c a) ∧ c' 1 0 = c 1 0 ∧ (∀ a, a ≠ 203 → d' a = d a) ∧ d' 203 1 = 0 ∧ ∀ j, (j = 0 ∨ j = 2 ∨ 8 < j) → d' 203 j = d 203 j := by
  obtain ⟨h1, h2, h3, h4⟩ := h
  unfold fn_Tape_open fn_Model_begins
  rw [bn_eq, bn_eq, bn_eq, bn_eq, bn_eq]
  have hS : Sz (mst (mst c 1 1 0) 1 8 0) (mst (mst (mst d 203 3 (d 203 1)) 203 1 0) 203 4 0) := by
    unfold Sz
    rw [mst_miss (by decide : (0 : Nat) ≠ 8), mst_miss (by decide : (0 : Nat) ≠ 1), mst_miss (by decide : (3 : Nat) ≠ 4), mst_miss (by decide : (3 : Nat) ≠ 1), mst_hit, mst_ne (by decide : (2 : Nat) ≠ 1), mst_ne (by decide : (2 : Nat) ≠ 1), mst_ne (by decide : (204 : Nat) ≠ 203), mst_ne (by decide : (204 : Nat) ≠ 203), mst_ne (by decide : (204 : Nat) ≠ 203)]
    exact ⟨h1, h2, h3, h4⟩
  obtain ⟨c', d', w1, w2, w3, w4, w5, -⟩ := next_ok hS (by rw [mst_hit, mst_hit]) (by rw [mst_hit]; omega) (by rw [mst_hit, mst_miss (by omega), mst_miss (by omega)]; omega)
  rw [w1, w2, bd_some, bd_some]
  refine ⟨c', d', rfl, rfl, w3, ?_, ?_, ?_, ?_, ?_, ?_⟩
  · rw [w4.2.2, mst_miss (by omega), mst_hit]
  · intro a ha; rw [w4.1 a ha, mst_ne ha, mst_ne ha]
  · rw [w4.2.1, mst_miss (by omega), mst_miss (by omega)]
  · intro a ha; rw [w5.1 a ha, mst_ne ha, mst_ne ha, mst_ne ha]
  · rw [w5.2 1 (by omega), mst_miss (by omega), mst_hit]
  · intro j hj; rw [w5.2 j (by omega), mst_miss (by omega), mst_miss (by omega), mst_miss (by omega)]
theorem Tk_end {c d : Mm} (h : TkR c d) : (c 1 6 = 1 ∧ d 203 6 = 0) ∨ (¬ c 1 6 = 1 ∧ ¬ d 203 6 = 0) := by
  obtain ⟨s, h1, h2, h3, h4, h5, h6⟩ := h
  omega
theorem FDc_nm {c d c' d' : Mm} {hc : Nat} (hk : hc = 4 ∨ hc = 41) (hN : NmX c hc d 0) (g : FDc c c') (g' : FDm d d') : NmX c' hc d' 0 := by
  have e : ∀ a, hc ≤ a → a ≤ hc + 3 → c' a = c a := fun a a0 a1 => g.1 a (by omega) (by omega)
  have e5 : d' 205 = d 205 := g'.1 205 (by omega) (by omega)
  obtain ⟨h1, h2, h3, h4, h5, h6, h7, h8, h9⟩ := hN
  unfold NmX
  rw [e hc (by omega) (by omega), e5]
  exact ⟨h1, h2, h3, h4, h5, h6, NsO_congr h7 (e _ (by omega) (by omega)) (g'.1 206 (by omega) (by omega)), NsO_congr h8 (e _ (by omega) (by omega)) (g'.1 207 (by omega) (by omega)), NsO_congr h9 (e _ (by omega) (by omega)) (g'.1 208 (by omega) (by omega))⟩
theorem FDc_refl {c : Mm} : FDc c c := ⟨fun _ _ _ => rfl, rfl⟩
theorem FDm_refl {d : Mm} : FDm d d := ⟨fun _ _ _ => rfl, fun _ _ => rfl, fun _ _ _ _ _ => rfl, fun _ _ => rfl⟩
theorem days_loop {hc : Nat} (hk : hc = 4 ∨ hc = 41) : ∀ (j k k' : Nat) (c d : Mm) (n : Int), n + j = 31 → c 78 0 = n → j + 1 < k → j + 1 < k' → TkR c d → NmX c hc d 0 → LnR c 78 d 5 → c 1 1 = 0 →
    ∃ r c1 d1, lp_Lines_read_14 78 hc k 1 n c = some (r, mst c1 1 0 0) ∧ FDc c c1 ∧ FDm d d1 ∧ ((r = 0 ∧ LnR c1 78 d1 5 ∧ lp_Model_days_16 k' d = bo_Model_days_35 d1) ∨ (0 < r ∧ lp_Model_days_16 k' d = some (r, d1))) := by
  intro j
  induction j with
  | zero =>
    intro k k' c d n h1 h2 h3 h4 hT hN hL h0
    have l1 := hL.1
    have l2 := hL.2.2.1
    omega
  | succ j ih =>
    intro k k' c d n h1 h2 h3 h4 hT hN hL h0
    obtain ⟨k, rfl⟩ : ∃ t, k = t + 1 := ⟨k - 1, by omega⟩
    obtain ⟨k', rfl⟩ : ∃ t, k' = t + 1 := ⟨k' - 1, by omega⟩
    have l1 := hL.1
    have l2 := hL.2.1
    have l3 := hL.2.2.1
    have eC : lp_Lines_read_14 78 hc (k + 1) 1 n c = (bd (fn_Tape_isEnd c) fun r1 m2 => if r1 = 0 then (bd (fn_Lines_readLine 78 hc m2) fun r3 m4 => lp_Lines_read_14 78 hc k r3 (w32 (n + 1)) m4) else (bo_Lines_read_46 78 hc m2)) := by
      show bo_Lines_read_14 78 hc _ 1 n c = _
      unfold bo_Lines_read_14
      rw [if_pos (by omega : n < 1000), if_neg (by decide : ¬ (1 : Int) = 0)]
    have eM : lp_Model_days_16 (k' + 1) d = if (d 203 6) = 0 then (bo_Model_days_35 d) else (bd (fn_Model_readsLine d) fun r1 m2 => if r1 = 0 then (some (m2 203 9, m2)) else (lp_Model_days_16 k' m2)) := rfl
    rw [eC, eM]
    have eE : fn_Tape_isEnd c = some (if c 1 6 = 1 then 1 else 0, c) := by
      unfold fn_Tape_isEnd
      split <;> rfl
    rw [eE, bd_some]
    rcases Tk_end hT with ⟨q1, q2⟩ | ⟨q1, q2⟩
    · rw [if_pos q1, if_neg (by decide : ¬ (1 : Int) = 0), if_pos q2]
      unfold bo_Lines_read_46 fn_Tape_close
      rw [bn_eq, bd_some, mst_miss (by decide : (1 : Nat) ≠ 0), h0]
      exact ⟨0, c, d, rfl, FDc_refl, FDm_refl, Or.inl ⟨rfl, hL, rfl⟩⟩
    · rw [if_neg q1, if_pos rfl, if_neg q2]
      obtain ⟨r, c', d', w1, w2, w3, w4, w5⟩ := line_ok hk hN hL hT
      rw [w1, w2, bd_some, bd_some, w32_in (x := n + 1) (by omega) (by omega)]
      rcases w5 with ⟨y, w5, w6, w7, w8⟩ | ⟨y, w5⟩
      · subst y
        rw [if_neg (by decide : ¬ (1 : Int) = 0)]
        obtain ⟨r, c1, d1, v1, v2, v3, v4⟩ := ih k k' c' d' (n + 1) (by omega) (by omega) (by omega) (by omega) w5 (FDc_nm hk hN w3 w4) w7 (w6.trans h0)
        exact ⟨r, c1, d1, v1, FDc_trans w3 v2, FDm_trans w4 v3, v4⟩
      · subst y
        rw [if_pos rfl]
        obtain ⟨k, rfl⟩ : ∃ t, k = t + 1 := ⟨k - 1, by omega⟩
        have eC2 : lp_Lines_read_14 78 hc (k + 1) 0 (n + 1) c' = bo_Lines_read_46 78 hc c' := by
          show bo_Lines_read_14 78 hc _ 0 (n + 1) c' = _
          unfold bo_Lines_read_14
          rw [if_pos (by omega : n + 1 < 1000), if_pos rfl]
        rw [eC2]
        unfold bo_Lines_read_46 fn_Tape_close
        rw [bn_eq, bd_some, mst_miss (by decide : (1 : Nat) ≠ 0), ← w5.1]
        exact ⟨c' 1 1, c', d', rfl, w3, w4, Or.inr ⟨w5.2, rfl⟩⟩
theorem LnR_pt {c c' d d' : Mm} {lb : Nat} {k : Int} (h : LnR c lb d k) (k0 : 0 ≤ k) (k4 : k ≤ 4) (q0 : c' lb 0 = c lb 0) (q1 : c' (lb + 1) = c (lb + 1)) (q2 : c' (lb + 2) = c (lb + 2)) (q3 : c' (lb + 3) = c (lb + 3)) (e205 : d' 205 = d 205) (e236 : d' 236 k.toNat = d 236 k.toNat) (e : ∀ a, 237 ≤ a → a ≤ 239 → ∀ j, j < 150 → d' a j = d a j) : LnR c' lb d' k := by
  obtain ⟨l1, l2, l3, l4⟩ := LnR_row.mp h
  refine LnR_row.mpr ?_
  rw [q0, e236]
  refine ⟨l1, l2, l3, fun i i0 i1 => ?_⟩
  exact RowR_congr (l4 i i0 i1) (by rw [q1]) (by rw [q2]) (by rw [q3]) (e 237 (by omega) (by omega) _ (by omega)) (e 238 (by omega) (by omega) _ (by omega)) (e 239 (by omega) (by omega) _ (by omega)) e205
/-- the tape is empty, and spare lines are whatever they are -/
theorem RR_spare {f : Int → Int → Int → Int} {c c' d d' : Mm} (hR : RR f c d) (hc : ∀ a, a < 203 → a ≠ 1 → (a < 78 ∨ 81 < a) → c' a = c a) (h10 : c' 1 0 = 0) (h1 : d' 203 1 = 0) (h58 : d' 203 58 = d 203 58) (hm : ∀ a, 205 ≤ a → (a < 236 ∨ 239 < a) → d' a = d a) (h236 : ∀ j, j ≠ 5 → d' 236 j = d 236 j) (h237 : ∀ a, 237 ≤ a → a ≤ 239 → ∀ j, j < 150 → d' a j = d a j) : RR f c' d' := by
  obtain ⟨r1, r2, r3, r4, r5, r6, r7, r8, r9, r10⟩ := hR
  have e205 : d' 205 = d 205 := hm 205 (by omega) (by omega)
  have q : ∀ a, (a < 203 ∧ a ≠ 1 ∧ (a < 78 ∨ 81 < a)) → c' a = c a := fun a z => hc a z.1 z.2.1 z.2.2
  have hc0 := r3.2.1.1
  refine ⟨?_, ?_, ?_, ?_, ?_, ?_, ?_, ?_, ?_, ?_⟩
  · unfold TpR
    rw [h10, h1]
    exact ⟨rfl, by omega, by omega, fun i i0 i1 => by omega⟩
  · rw [q 0 (by omega)]; exact r2
  · rw [q 0 (by omega)]
    exact HlR_congr r3 (fun a a0 a1 a2 a3 => q a (by omega)) (fun j hj => by rw [q _ (by omega)]) (fun a a0 a1 => hm a (by omega) (by omega))
  · rw [hm 245 (by omega) (by omega)]
    exact StR_congr r4 (q _ (by omega)) (q _ (by omega)) (q _ (by omega)) e205
  · exact LnR_pt r5 (by omega) (by omega) (by rw [q _ (by omega)]) (q _ (by omega)) (q _ (by omega)) (q _ (by omega)) e205 (h236 _ (by decide)) h237
  · exact SnR_congr r6 (by rw [q _ (by omega)]) (by rw [q _ (by omega)]) (q _ (by omega)) (q _ (by omega)) e205 (hm _ (by omega) (by omega)) (hm _ (by omega) (by omega)) (hm _ (by omega) (by omega)) (hm _ (by omega) (by omega))
  · exact TdR_congr r7 (q _ (by omega)) e205 (hm _ (by omega) (by omega))
  · intro i i0 i1
    obtain ⟨g1, g2, g3⟩ := r8 i i0 i1
    rw [hm 249 (by omega) (by omega), q (11 * i.toNat + 111) (by omega)]
    refine ⟨g1, g2, fun z => ?_⟩
    obtain ⟨z1, z2, z3, z4⟩ := g3 z
    have er : rowS d' 247 i = rowS d 247 i := by unfold rowS; rw [hm 247 (by omega) (by omega)]
    rw [er]
    exact ⟨StR_congr z1 (q _ (by omega)) (q _ (by omega)) (q _ (by omega)) e205, LnR_pt z2 (by omega) (by omega) (by rw [q _ (by omega)]) (q _ (by omega)) (q _ (by omega)) (q _ (by omega)) e205 (h236 _ (by omega)) h237, SnR_congr z3 (by rw [q _ (by omega)]) (by rw [q _ (by omega)]) (q _ (by omega)) (q _ (by omega)) e205 (hm _ (by omega) (by omega)) (hm _ (by omega) (by omega)) (hm _ (by omega) (by omega)) (hm _ (by omega) (by omega)), TdR_congr z4 (q _ (by omega)) e205 (hm _ (by omega) (by omega))⟩
  · exact UnR_congr r9 (by rw [q 0 (by omega)]) (by rw [q 0 (by omega)]) (fun a a0 a1 => q a (by omega)) e205 h58 (hm _ (by omega) (by omega))
  · rw [hm 243 (by omega) (by omega)]; exact r10
/-- the current lines are laid from the spare ones -/
theorem RR_lay {f : Int → Int → Int → Int} {c c' d d' : Mm} (hR : RR f c d) (hL : LnR c 78 d 5) (hc : ∀ a, a < 203 → (a < 86 ∨ 89 < a) → c' a = c a) (q0 : c' 86 0 = c 78 0) (qj : ∀ j, j < 30 → c' 87 j = c 79 j ∧ c' 88 j = c 80 j ∧ c' 89 j = c 81 j) (h203 : d' 203 = d 203) (hm : ∀ a, (a < 236 ∨ 239 < a) → d' a = d a) (e236 : d' 236 = blk (d 236) 1 5 0) (e237 : d' 237 = blk (d 237) 30 5 0) (e238 : d' 238 = blk (d 238) 30 5 0) (e239 : d' 239 = blk (d 239) 30 5 0) : RR f c' d' := by
  obtain ⟨r1, r2, r3, r4, r5, r6, r7, r8, r9, r10⟩ := hR
  have e205 : d' 205 = d 205 := hm 205 (by omega)
  have q : ∀ a, (a < 203 ∧ (a < 86 ∨ 89 < a)) → c' a = c a := fun a z => hc a z.1 z.2
  have hc0 := r3.2.1.1
  refine ⟨?_, ?_, ?_, ?_, ?_, ?_, ?_, ?_, ?_, ?_⟩
  · exact TpR_congr r1 (by rw [q 1 (by omega)]) (q 2 (by omega)) (by rw [h203]) (hm 204 (by omega))
  · rw [q 0 (by omega)]; exact r2
  · rw [q 0 (by omega)]
    exact HlR_congr r3 (fun a a0 a1 a2 a3 => q a (by omega)) (fun j hj => by rw [q _ (by omega)]) (fun a a0 a1 => hm a (by omega))
  · rw [hm 245 (by omega)]
    exact StR_congr r4 (q _ (by omega)) (q _ (by omega)) (q _ (by omega)) e205
  · exact LnR_copy hL q0 qj (by omega) e205 e236 e237 e238 e239
  · exact SnR_congr r6 (by rw [q _ (by omega)]) (by rw [q _ (by omega)]) (q _ (by omega)) (q _ (by omega)) e205 (hm _ (by omega)) (hm _ (by omega)) (hm _ (by omega)) (hm _ (by omega))
  · exact TdR_congr r7 (q _ (by omega)) e205 (hm _ (by omega))
  · intro i i0 i1
    obtain ⟨g1, g2, g3⟩ := r8 i i0 i1
    rw [hm 249 (by omega), q (11 * i.toNat + 111) (by omega)]
    refine ⟨g1, g2, fun z => ?_⟩
    obtain ⟨z1, z2, z3, z4⟩ := g3 z
    have er : rowS d' 247 i = rowS d 247 i := by unfold rowS; rw [hm 247 (by omega)]
    rw [er]
    exact ⟨StR_congr z1 (q _ (by omega)) (q _ (by omega)) (q _ (by omega)) e205, LnR_stay z2 (by omega) (by omega) (by rw [q _ (by omega)]) (q _ (by omega)) (q _ (by omega)) (q _ (by omega)) e205 e236 e237 e238 e239, SnR_congr z3 (by rw [q _ (by omega)]) (by rw [q _ (by omega)]) (q _ (by omega)) (q _ (by omega)) e205 (hm _ (by omega)) (hm _ (by omega)) (hm _ (by omega)) (hm _ (by omega)), TdR_congr z4 (q _ (by omega)) e205 (hm _ (by omega))⟩
  · exact UnR_congr r9 (by rw [q 0 (by omega)]) (by rw [q 0 (by omega)]) (fun a a0 a1 => q a (by omega)) e205 (by rw [h203]) (hm _ (by omega))
  · rw [hm 243 (by omega)]; exact r10
/-- both run on memories of their own -/
theorem pair_both {oc om : Mm → Res} {m : Mm} {f0 : Int → Int → Int → Int} (hR : RR f0 m m) (hp : ∀ d, EqM m d → RR f0 m d → ∃ r c' d' f, oc m = some (r, c') ∧ om d = some (r, d') ∧ EqM m c' ∧ EqC d d' ∧ RR f c' d') : Both oc om m := by
  obtain ⟨r, c', d', f, e1, e2, e3, e4, e5⟩ := hp m (fun _ _ => rfl) hR
  obtain ⟨r2, c2, d2, f2, g1, g2, g3, g4, g5⟩ := hp c' e3 (RR_FQ hR FQ_refl ⟨fun a a0 _ _ _ => e3 a (by omega), by rw [e3 203 (by omega)], by rw [e3 203 (by omega)]⟩)
  rw [e1] at g1
  injection g1 with g1
  injection g1 with q1 q2
  subst q1 q2
  exact ⟨r, c', d2, f2, e1, g2, RR_FQ g5 ⟨fun a a0 _ _ _ _ _ _ => g4 a a0, fun j hj => by rw [g4 0 (by omega)], fun j hj => by rw [g4 14 (by omega)], fun j hj => by rw [g4 51 (by omega)]⟩ FQM_refl⟩
theorem NmX_of {f : Int → Int → Int → Int} {c d : Mm} (h : RR f c d) : NmX c (c 0 2).toNat d 0 := by
  obtain ⟨g1, g2, g3, g4, g5, g6, g7, g8, g9, -⟩ := h.2.2.1
  obtain ⟨k1, k2, k3, k4, -⟩ := g2
  have n := g1.1
  generalize (c 0 2).toNat = hc at *
  have t0 : (5 * 0 + 0 : Int).toNat = 0 := rfl
  have t1 : (5 * 0 + 1 : Int).toNat = 1 := rfl
  have t2 : (5 * 0 + 2 : Int).toNat = 2 := rfl
  unfold NmX NsO
  rw [t0, t1, t2]
  refine ⟨k2, k3, k4, by omega, by omega, by omega, fun i i0 i1 => ?_, fun i i0 i1 => ?_, fun i i0 i1 => ?_⟩
  · have e : 6 * 0 + i = i := by omega
    rw [e]; exact g7 i i0 (by omega)
  · have e : 6 * 0 + i = i := by omega
    rw [e]; exact g8 i i0 (by omega)
  · have e : 6 * 0 + i = i := by omega
    rw [e]; exact g9 i i0 (by omega)
theorem call_days {f : Int → Int → Int → Int} {m : Mm} (hR : RR f m m) : Both fn_Clock_days fn_Model_days m := by
  refine pair_both hR (fun d hd hRd => ?_)
  have hk : m 0 2 = 4 ∨ m 0 2 = 41 := by rcases hRd.2.1 with ⟨h, _⟩ | ⟨h, _⟩ <;> omega
  have hk2 : (m 0 2).toNat = 4 ∨ (m 0 2).toNat = 41 := by omega
  have hN := NmX_of hRd
  have t5 : (5 : Int).toNat = 5 := rfl
  unfold fn_Clock_days fn_Model_days fn_Lines_read
  rw [if_pos (isK0 hk), bn_eq, bn_eq, bn_eq, t5]
  generalize (m 0 2).toNat = hc at *
  have hT0 : TpR (mst m 78 0 0) (mst (mst d 203 0 0) 236 5 0) := TpR_congr hRd.1 (by rw [mst_ne (by omega)]) (mst_ne (by omega)) (by rw [mst_ne (by omega), mst_miss (by omega)]) (by rw [mst_ne (by omega), mst_ne (by omega)])
  obtain ⟨c1, d1, v1, v2, v3, v4, v5, v6, v7, v8, v9⟩ := open_ok hT0
  rw [v1, v2, bd_some, bd_some]
  have e205 : d1 205 = d 205 := by rw [v7 _ (by omega), mst_ne (by omega), mst_ne (by omega)]
  have e206 : ∀ a, 204 ≤ a → a ≠ 236 → d1 a = d a := fun a a0 a1 => by rw [v7 _ (by omega), mst_ne (by omega), mst_ne (by omega)]
  have eC : ∀ a, a ≠ 1 → a ≠ 78 → c1 a = m a := fun a a0 a1 => by rw [v5 _ a0, mst_ne a1]
  have hN1 : NmX c1 hc d1 0 := by
    obtain ⟨h1, h2, h3, h4, h5, h6, h7, h8, h9⟩ := hN
    unfold NmX
    rw [eC hc (by omega) (by omega), e205]
    exact ⟨h1, h2, h3, h4, h5, h6, NsO_congr h7 (eC _ (by omega) (by omega)) (e206 206 (by omega) (by omega)), NsO_congr h8 (eC _ (by omega) (by omega)) (e206 207 (by omega) (by omega)), NsO_congr h9 (eC _ (by omega) (by omega)) (e206 208 (by omega) (by omega))⟩
  have q1 : c1 78 0 = 0 := by rw [v5 _ (by omega), mst_hit]
  have q2 : d1 236 5 = 0 := by rw [v7 _ (by omega), mst_hit]
  have hL1 : LnR c1 78 d1 5 := by
    refine LnR_row.mpr ?_
    rw [t5, q1, q2]
    exact ⟨rfl, by omega, by omega, fun i i0 i1 => by omega⟩
  obtain ⟨r, c2, d2, w1, w2, w3, w4⟩ := days_loop hk2 31 FU FU c1 d1 0 (by omega) q1 (by decide) (by decide) v3 hN1 hL1 v4
  have hR2 : RR f (mst c2 1 0 0) d2 := by
    refine RR_spare hRd ?_ mst_hit ?_ ?_ ?_ ?_ ?_
    · intro a a0 a1 a2
      rw [mst_ne a1, w2.1 a a1 a2, eC a a1 (by omega)]
    · rw [w3.2.2.2 1 (by omega)]; exact v8
    · rw [w3.2.2.2 58 (by omega), v9 58 (by omega), mst_ne (by omega), mst_miss (by omega)]
    · intro a a0 a1
      rw [w3.1 a (by omega) a1, e206 a (by omega) (by omega)]
    · intro j hj
      rw [w3.2.1 j hj, v7 _ (by omega), mst_miss hj, mst_ne (by omega)]
    · intro a a0 a1 j hj
      rw [w3.2.2.1 a a0 a1 j hj, e206 a (by omega) (by omega)]
  rw [w1]
  have hE : EqM m (mst c2 1 0 0) := fun a a0 => by rw [mst_ne (by omega), w2.1 a (by omega) (by omega), eC a (by omega) (by omega)]
  have hE2 : EqC d d2 := fun a a0 => by rw [w3.1 a (by omega) (by omega), v7 a (by omega), mst_ne (by omega), mst_ne (by omega)]
  rw [bd_some]
  rcases w4 with ⟨y, w4, w5⟩ | ⟨y, w5⟩
  · subst y
    rw [if_pos rfl, w5]
    unfold bo_Model_days_35
    obtain ⟨rc, c3, x1, x2, x3, x4⟩ := linesCopy_ok (m := mst c2 1 0 0) (th := 86) (p := 78) (by omega)
    obtain ⟨rm, d3, y1, y2, y3, y4, y5, y6⟩ := laysLines_ok (m := d2) (a := 5) (b := 0) (by omega) (by omega) (by omega) (by omega) (by omega)
    rw [x1, y1, bd_some, bd_some]
    refine ⟨0, c3, d3, f, rfl, rfl, ?_, ?_, ?_⟩
    · intro a a0
      rw [x2 a (by omega) (by omega) (by omega) (by omega)]; exact hE a a0
    · intro a a0
      rw [y2 a (by omega)]; exact hE2 a a0
    · have hL2 : LnR (mst c2 1 0 0) 78 d2 5 := LnR_congr w4 (by rw [mst_ne (by omega)]) (mst_ne (by omega)) (mst_ne (by omega)) (mst_ne (by omega)) rfl rfl rfl rfl rfl
      exact RR_lay hR2 hL2 (fun a a0 a1 => x2 a (by omega) (by omega) (by omega) (by omega)) x3 x4 (y2 203 (by omega)) y2 y3 y4 y5 y6
  · rw [if_neg (by omega : ¬ r = 0), w5]
    exact ⟨r, _, d2, f, rfl, rfl, hE, hE2, hR2⟩
end Dy
