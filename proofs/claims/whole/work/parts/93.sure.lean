/-! What is only tried out; sure. -/
section Su
variable {f : Int → Int → Int → Int} {m : Mm}
theorem Hl_FQ {mC : Mm} (hR : RR f m m) (h : FQ m mC) : HlR f mC (m 0 2).toNat m ∧ mC 0 2 = m 0 2 := by
  have := (RR_FQ hR h FQM_refl).2.2.1
  have e : mC 0 2 = m 0 2 := h.2.1 2 (by omega)
  rw [e] at this
  exact ⟨this, e⟩
theorem trial_copy (hR : RR f m m) {c : Mm} (h : FQ m c) (hE : EqM m c) : TT (fn_State_copy 95 83 c) (fun _ c' => FQ m c' ∧ EqM m c' ∧ StR c' 95 m (m 245) ∧ ∀ a, a ≠ 95 → a ≠ 96 → a ≠ 97 → c' a = c a) := by
  have hS := hR.2.2.2.1
  have q83 := h.1 83 (by omega) (by omega) (by omega) (by omega) (by omega) (by omega) (by omega)
  have q84 := h.1 84 (by omega) (by omega) (by omega) (by omega) (by omega) (by omega) (by omega)
  have q85 := h.1 85 (by omega) (by omega) (by omega) (by omega) (by omega) (by omega) (by omega)
  refine TT_mono (stCopy_ok (by omega) (by rw [q83, hS.1.2.2.2.1]; exact hS.2.2.2.1)) (fun r c' q => ?_)
  obtain ⟨q1, q2, q3⟩ := q
  refine ⟨FQ_trans h ⟨fun a a0 a1 a2 _ _ _ _ => q1 a (by omega) (by omega) (by omega), fun j _ => by rw [q1 0 (by omega) (by omega) (by omega)], fun j _ => by rw [q1 14 (by omega) (by omega) (by omega)], fun j _ => by rw [q1 51 (by omega) (by omega) (by omega)]⟩, EqM_trans hE (fun a ha => q1 a (by omega) (by omega) (by omega)), SameS_StR q3 hR.2.2.1.1 (StR_congr hS q83 q84 q85 rfl), fun a a0 a1 a2 => q1 a a0 a1 a2⟩
theorem SD_put3 {H : Mm} {S : Nat → Int} {v : Int} (h : SD H S) (hv : v = 0 ∨ v = 1) : SD H (putS 3 v S) := by
  obtain ⟨t1, t2, t3, t4, t5, t6⟩ := h
  refine ⟨by rw [put_n (by omega)]; exact t1, by rw [put_n (by omega)]; exact t2, by rw [put_h]; exact hv, fun w w0 w1 => by rw [put_n (by omega)]; exact t4 w w0 w1, fun x x0 x1 => by rw [put_n (by omega)]; exact t5 x x0 x1, by rw [put_n (by omega)]; exact t6⟩
theorem StR_put3 {c H : Mm} {S : Nat → Int} {v : Int} {sc : Nat} (h : StR c sc H S) (hv : v = 0 ∨ v = 1) : StR (mst c sc 3 v) sc H (putS 3 v S) := by
  obtain ⟨⟨s0, s1, s2, s3, s4, s5⟩, ht⟩ := h
  refine ⟨⟨?_, ?_, ?_, ?_, fun w w0 w1 => ?_, fun x x0 x1 => ?_⟩, SD_put3 ht hv⟩
  · rw [mst_miss (by omega), put_n (by omega)]; exact s0
  · rw [mst_miss (by omega), put_n (by omega)]; exact s1
  · rw [mst_miss (by omega), put_n (by omega)]; exact s2
  · rw [mst_hit, put_h]
  · rw [mst_ne (by omega), put_n (by omega)]; exact s4 w w0 w1
  · rw [mst_ne (by omega), put_n (by omega)]; exact s5 x x0 x1
theorem FQ_95 {c : Mm} {a j : Nat} {v : Int} (h : 95 ≤ a ∧ a ≤ 110) : FQ c (mst c a j v) ∧ EqM c (mst c a j v) := ⟨⟨fun b _ _ _ _ _ _ _ => mst_ne (by omega), fun j _ => by rw [mst_ne (by omega)], fun j _ => by rw [mst_ne (by omega)], fun j _ => by rw [mst_ne (by omega)]⟩, fun b hb => mst_ne (by omega)⟩
theorem mst_row_put {d : Mm} {j : Nat} {v : Int} : mst d 245 j v 245 = putS j v (d 245) := by
  funext k
  by_cases g : k = j
  · subst g; rw [mst_hit, put_h]
  · rw [mst_miss g, put_n g]
theorem fmaS_r {H : Mm} {S : Nat → Int} (a b p : Int) : fmaS H S a b p = -1 ∨ (0 ≤ fmaS H S a b p ∧ fmaS H S a b p < 240) := by
  have := fst_rng (P := fun t => decide (atS H S t a = p) && decide (atS H S t b = p)) (j := 240) (v := 0) (by omega)
  unfold fmaS
  omega
theorem c_sure1 (hR : RR f m m) {a b x : Int} (a0 : 0 ≤ a) (a1 : a < m 205 1) (b0 : 0 ≤ b) (b1 : b < m 205 1) {c : Mm} (hw : WB f m (putS 3 0 (m 245)) (m 0 2).toNat 95 c) (hq : FQ m c) (hE : EqM m c) (hs : StR c 95 m (putS 3 0 (m 245))) : ∃ mC : Mm, lp_Clock_sure_60 a b x FU 0 c = bo_Clock_sure_96 a b x mC ∧ FQ m mC ∧ EqM m mC ∧ StR mC 95 m (putS 3 0 (m 245)) ∧ ∀ p : Int, 0 ≤ p → p < m 205 0 → mC 108 p.toNat = fmaS m (putS 3 0 (m 245)) a b p := by
  have hH := hR.2.2.1.1
  have hn := hH.1
  have hc0 := RR_hc hR
  have key : ∀ (j n : Nat) (i : Int) (mC : Mm), i + j = m 205 0 → 0 ≤ i → j < n → (∀ k, k ≠ 108 → mC k = c k) → (∀ p : Int, 0 ≤ p → p < i → mC 108 p.toNat = fmaS m (putS 3 0 (m 245)) a b p) → ∃ mC' : Mm, lp_Clock_sure_60 a b x n i mC = bo_Clock_sure_96 a b x mC' ∧ (∀ k, k ≠ 108 → mC' k = c k) ∧ ∀ p : Int, 0 ≤ p → p < m 205 0 → mC' 108 p.toNat = fmaS m (putS 3 0 (m 245)) a b p := by
    intro j
    induction j with
    | zero =>
      intro n i mC h1 h2 h3 h4 h5
      obtain ⟨k, rfl⟩ : ∃ k, n = k + 1 := ⟨n - 1, by omega⟩
      refine ⟨mC, ?_, h4, fun p p0 p1 => h5 p p0 (by omega)⟩
      show bo_Clock_sure_60 _ _ _ _ _ _ = _
      unfold bo_Clock_sure_60
      have e0 : mC 0 2 = m 0 2 := by rw [h4 0 (by omega)]; exact hq.2.1 2 (by omega)
      rw [e0, if_pos hc0.1, h4 _ (by omega), hw.2.2.2.1.2.1, if_neg (by omega)]
    | succ j ih =>
      intro n i mC h1 h2 h3 h4 h5
      obtain ⟨k, rfl⟩ : ∃ k, n = k + 1 := ⟨n - 1, by omega⟩
      have e0 : mC 0 2 = m 0 2 := by rw [h4 0 (by omega)]; exact hq.2.1 2 (by omega)
      have hv : VO m (putS 3 0 (m 245)) mC (m 0 2).toNat 95 mC := VO_congr hw.2.2.1 (fun k _ _ => h4 k (by omega))
      have e : lp_Clock_sure_60 a b x (k + 1) i mC = lp_Clock_sure_60 a b x k (i + 1) (mst mC 108 i.toNat (fmaS m (putS 3 0 (m 245)) a b i)) := by
        show bo_Clock_sure_60 _ _ _ _ _ _ = _
        unfold bo_Clock_sure_60
        rw [e0, if_pos hc0.1, h4 _ (by omega), hw.2.2.2.1.2.1, if_pos (by omega), firstMeetingAt_eq hH hv a0 a1 b0 b1 h2, bd_some, if_pos (by omega), bn_eq, w32_in (by omega) (by omega)]
      rw [e]
      refine ih k (i + 1) _ (by omega) (by omega) (by omega) (fun k hk => by rw [mst_ne hk]; exact h4 k hk) (fun p p0 p1 => ?_)
      by_cases g : p = i
      · subst g; rw [mst_hit]
      · rw [mst_miss (by omega)]; exact h5 p p0 (by omega)
  obtain ⟨mC, h1, h2, h3⟩ := key (m 205 0).toNat FU 0 c (by omega) (by omega) (by show (m 205 0).toNat < 2000; omega) (fun _ _ => rfl) (fun p p0 p1 => by omega)
  refine ⟨mC, h1, FQ_trans hq ⟨fun a _ _ a1 _ _ _ _ => h2 a (by omega), fun j _ => by rw [h2 0 (by omega)], fun j _ => by rw [h2 14 (by omega)], fun j _ => by rw [h2 51 (by omega)]⟩, EqM_trans hE (fun a ha => h2 a (by omega)), StR_congr hs (h2 _ (by omega)) (h2 _ (by omega)) (h2 _ (by omega)) rfl, h3⟩
theorem m_sure1 {H d0 : Mm} (hH : HD H) {S0 : Nat → Int} {a b x v : Int} (a0 : 0 ≤ a) (a1 : a < H 205 1) (b0 : 0 ≤ b) (b1 : b < H 205 1) (hm : MO H S0 d0) : ∃ d1 : Mm, lp_Model_sure_59 a b x FU v 0 d0 = bo_Model_sure_87 a b x v d1 ∧ (∀ k, k ≠ 258 → d1 k = d0 k) ∧ ∀ p : Int, 0 ≤ p → p < 6 → d1 258 p.toNat = fmaS H S0 a b p := by
  have key : ∀ (j n : Nat) (i : Int) (d : Mm), i + j = 6 → 0 ≤ i → j < n → (∀ k, k ≠ 258 → d k = d0 k) → (∀ p : Int, 0 ≤ p → p < i → d 258 p.toNat = fmaS H S0 a b p) → ∃ d1 : Mm, lp_Model_sure_59 a b x n v i d = bo_Model_sure_87 a b x v d1 ∧ (∀ k, k ≠ 258 → d1 k = d0 k) ∧ ∀ p : Int, 0 ≤ p → p < 6 → d1 258 p.toNat = fmaS H S0 a b p := by
    intro j
    induction j with
    | zero =>
      intro n i d h1 h2 h3 h4 h5
      obtain ⟨k, rfl⟩ : ∃ k, n = k + 1 := ⟨n - 1, by omega⟩
      refine ⟨d, ?_, h4, fun p p0 p1 => h5 p p0 (by omega)⟩
      show bo_Model_sure_59 _ _ _ _ _ _ _ = _
      unfold bo_Model_sure_59
      rw [if_neg (by omega)]
    | succ j ih =>
      intro n i d h1 h2 h3 h4 h5
      obtain ⟨k, rfl⟩ : ∃ k, n = k + 1 := ⟨n - 1, by omega⟩
      have hd : MO H S0 d := MO_congr hm (fun k _ _ _ _ => h4 k (by omega))
      have e : lp_Model_sure_59 a b x (k + 1) v i d = lp_Model_sure_59 a b x k v (i + 1) (mst d 258 i.toNat (fmaS H S0 a b i)) := by
        show bo_Model_sure_59 _ _ _ _ _ _ _ = _
        unfold bo_Model_sure_59
        rw [if_pos (by omega), m_firstMeetingAt hH hd a0 a1 b0 b1, bd_some, if_pos (by omega), bn_eq, w32_in (by omega) (by omega)]
      rw [e]
      refine ih k (i + 1) _ (by omega) (by omega) (by omega) (fun k hk => by rw [mst_ne hk]; exact h4 k hk) (fun p p0 p1 => ?_)
      by_cases g : p = i
      · subst g; rw [mst_hit]
      · rw [mst_miss (by omega)]; exact h5 p p0 (by omega)
  exact key 6 FU 0 d0 (by omega) (by omega) (by decide) (fun _ _ => rfl) (fun p p0 p1 => by omega)
theorem call_sure (hR : RR f m m) (a b x : Int) : Both (fn_Clock_sure a b x) (fn_Model_sure a b x) m := by
  refine q_rel hR (fun d hE hd => ?_)
  have hH := hR.2.2.1.1
  have hS := hR.2.2.2.1
  have hn := hH.1
  have hc0 := RR_hc hR
  unfold fn_Clock_sure fn_Model_sure
  rw [c_areTwo hR, bd_some, bn_eq, m_isWalker, bd_some]
  have er : ∀ k, 204 ≤ k → mst d 203 0 0 k = m k := fun k hk => by rw [mst_ne (by omega)]; exact hE k (by omega)
  have hq := th_FQM (d := d) (x := 0) (j := 0) (by omega) (by omega)
  rw [er 205 (by omega)]
  have no : ∃ x : Int, TT (some (-1, m)) (fun r c' => r = x ∧ FQ m c' ∧ EqM m c') ∧ TT (some (-1, mst d 203 0 0)) (fun r d' => r = x ∧ FQM d d' ∧ EqC d d') := ⟨-1, TT_some.mpr ⟨rfl, FQ_refl, fun _ _ => rfl⟩, TT_some.mpr ⟨rfl, hq⟩⟩
  by_cases c1 : iR a (m 205 1) = 0
  · simp only [if_pos c1, ↓reduceIte]
    exact no
  · simp only [if_neg c1]
    rw [m_isWalker, bd_some, er 205 (by omega)]
    by_cases c2 : iR b (m 205 1) = 0
    · simp only [if_pos c2, ↓reduceIte]
      exact no
    · simp only [if_neg c2]
      by_cases c3 : a = b
      · simp only [if_pos c3, ↓reduceIte]
        exact no
      · simp only [if_neg c3, m_within, bd_some]
        rw [if_neg (by decide)]
        by_cases c4 : x < 0
        · simp only [if_pos c4, ↓reduceIte]
          exact no
        · by_cases c5 : 1 < x
          · simp only [if_neg c4, if_pos c5, ↓reduceIte]
            exact no
          · rw [iR_0] at c1 c2
            simp only [if_neg c4, if_neg c5]
            rw [if_neg (by decide)]
            -- the class, up to its last loop
            obtain ⟨r1, k1, e1, q1, qE1, q2, -⟩ := trial_copy hR FQ_refl (fun _ _ => rfl)
            have s1 := StR_put3 (v := 0) q2 (Or.inl rfl)
            have w1 := FQ_95 (c := k1) (a := 95) (j := 3) (v := 0) (by omega)
            obtain ⟨l1, l2⟩ := Hl_FQ hR (FQ_trans q1 w1.1)
            obtain ⟨r2, k2, e2, g1, g2⟩ := c_go_g (Or.inr rfl) l1 s1
            have w2 := FW_FQ g2
            have f2 : FQ m k2 := FQ_trans (FQ_trans q1 w1.1) w2.1
            have fE2 : EqM m k2 := EqM_trans (EqM_trans qE1 w1.2) w2.2
            obtain ⟨k3, e3, f3, fE3, s3, hmet⟩ := c_sure1 (x := x) hR (by omega : 0 ≤ a) (by omega) (by omega : 0 ≤ b) (by omega) g1 f2 fE2 (StR_congr s1 (g2 _ (by omega)) (g2 _ (by omega)) (g2 _ (by omega)) rfl)
            have s4 := StR_put3 (v := 1) s3 (Or.inr rfl)
            have w3 := FQ_95 (c := k3) (a := 95) (j := 3) (v := 1) (by omega)
            obtain ⟨l3, l4⟩ := Hl_FQ hR (FQ_trans f3 w3.1)
            obtain ⟨r4, k4, e4, g3, g4⟩ := c_go_g (Or.inr rfl) l3 s4
            have w4 := FW_FQ g4
            have f4 : FQ m k4 := FQ_trans (FQ_trans f3 w3.1) w4.1
            have fE4 : EqM m k4 := EqM_trans (EqM_trans fE3 w3.2) w4.2
            have hmet4 : ∀ p : Int, 0 ≤ p → p < m 205 0 → k4 108 p.toNat = fmaS m (putS 3 0 (m 245)) a b p := fun p p0 p1 => by rw [g4 108 (by omega), mst_ne (by omega)]; exact hmet p p0 p1
            have epp : putS 3 1 (putS 3 0 (m 245)) = putS 3 1 (m 245) := by
              funext j
              by_cases g : j = 3
              · subst g; rw [put_h, put_h]
              · rw [put_n g, put_n g, put_n g]
            rw [epp] at g3
            have ec : bd (fn_State_copy 95 83 m) (fun r3 m4 => bn (mst m4 95 3 0) fun m5 => if isK 0 (m5 0 2) = true then bd (fn_Walk_go (m5 0 2).toNat 95 m5) fun r7 m8 => lp_Clock_sure_60 a b x FU 0 m8 else none) = lp_Clock_sure_130 a b x FU (-1) 240 0 k4 := by
              rw [e1, bd_some, bn_eq, l2, if_pos hc0.1, e2, bd_some, e3]
              unfold bo_Clock_sure_96
              rw [bn_eq, l4, if_pos hc0.1, e4, bd_some]
            rw [ec]
            -- the reference, up to its last loop
            have hS0 := SD_put3 (v := 0) hS.2 (Or.inl rfl)
            have hS1 := SD_put3 (v := 1) hS.2 (Or.inr rfl)
            rw [er 245 (by omega), tn3]
            have fm1 : FM2 m (mst (mst d 203 0 0) 245 3 0) := fun k k0 k1 => by rw [mst_ne (by omega)]; exact er k (by omega)
            obtain ⟨t1, d1, u1, v1, v2⟩ := laysDay_S (S := putS 3 0 (m 245)) fm1 (by rw [mst_row_put, er 245 (by omega)]) hH hS0
            have mo1 : MO m (putS 3 0 (m 245)) d1 := ⟨fun k k0 k1 => (v1 k (by omega)).trans (fm1 k k0 k1), v2⟩
            obtain ⟨d2, u2, y1, y2⟩ := m_sure1 (x := x) (v := m 245 3) hH (by omega : 0 ≤ a) (by omega) (by omega : 0 ≤ b) (by omega) mo1
            have fm2 : FM2 m (mst d2 245 3 1) := fun k k0 k1 => by rw [mst_ne (by omega), y1 k (by omega), v1 k (by omega)]; exact fm1 k k0 k1
            have e245 : d2 245 = putS 3 0 (m 245) := by rw [y1 245 (by omega), v1 245 (by omega), mst_row_put, er 245 (by omega)]
            obtain ⟨t3, d3, u3, v3, v4⟩ := laysDay_S (S := putS 3 1 (m 245)) fm2 (by rw [mst_row_put, e245, epp]) hH hS1
            have mo3 : MO m (putS 3 1 (m 245)) (mst d3 245 3 (m 245 3)) := ⟨fun k k0 k1 => by rw [mst_ne (by omega), v3 k (by omega)]; exact fm2 k k0 k1, fun w u w0 w1 z0 z1 => by rw [mst_ne (by omega)]; exact v4 w u w0 w1 z0 z1⟩
            have em : bn (m 245 3) (fun x8 => bn (mst (mst d 203 0 0) 245 3 0) fun m9 => bd (fn_Model_laysDay m9) fun r10 m11 => lp_Model_sure_59 a b x FU x8 0 m11) = lp_Model_sure_115 a b x FU (-1) 0 0 (mst d3 245 3 (m 245 3)) := by
              rw [bn_eq, bn_eq, u1, bd_some, u2]
              unfold bo_Model_sure_87
              rw [bn_eq, tn3, u3, bd_some, bn_eq]
            rw [em]
            have hmet5 : ∀ p : Int, 0 ≤ p → p < 6 → mst d3 245 3 (m 245 3) 258 p.toNat = fmaS m (putS 3 0 (m 245)) a b p := fun p p0 p1 => by rw [mst_ne (by omega), v3 258 (by omega), mst_ne (by omega)]; exact y2 p p0 p1
            have e4m : ∀ k, 204 ≤ k → k ≠ 245 → k < 251 → mst d3 245 3 (m 245 3) k = m k := fun k k0 k1 k2 => by rw [mst_ne k1, v3 k (by omega), mst_ne k1, y1 k (by omega), v1 k (by omega), mst_ne k1]; exact er k k0
            have e4c : ∀ k, k < 203 → mst d3 245 3 (m 245 3) k = d k := fun k k0 => by rw [mst_ne (by omega), v3 k (by omega), mst_ne (by omega), y1 k (by omega), v1 k (by omega), mst_ne (by omega), mst_ne (by omega)]
            have e4t : ∀ j, j ≠ 0 → mst d3 245 3 (m 245 3) 203 j = d 203 j := fun j hj => by rw [mst_ne (by omega), v3 203 (by omega), mst_ne (by omega), y1 203 (by omega), v1 203 (by omega), mst_ne (by omega), mst_miss hj]
            have e45 : mst d3 245 3 (m 245 3) 245 = m 245 := by
              rw [mst_row_put, v3 245 (by omega), mst_row_put, e245]
              funext j
              by_cases g : j = 3
              · subst g; rw [put_h]
              · rw [put_n g, put_n g, put_n g]
            generalize mst d3 245 3 (m 245 3) = d4 at *
            have fin : FQM d d4 ∧ EqC d d4 := by
              refine ⟨⟨fun k k0 k1 k2 k3 => ?_, e4t 1 (by omega), e4t 58 (by omega)⟩, e4c⟩
              by_cases g : k = 245
              · subst g; rw [e45, hE 245 (by omega)]
              · rw [e4m k k0 g k3, hE k (by omega)]
            have key : ∀ (j n n' : Nat) (best lC lM i : Int), i + j = m 205 0 → 0 ≤ i → j < n → j < n' → ((best = -1 ∧ lC = 240) ∨ (0 ≤ best ∧ lC = lM)) → ∃ y : Int, lp_Clock_sure_130 a b x n best lC i k4 = some (y, k4) ∧ lp_Model_sure_115 a b x n' best lM i d4 = some (y, d4) := by
              intro j
              induction j with
              | zero =>
                intro n n' best lC lM i h1 h2 h3 h4 h5
                obtain ⟨k, rfl⟩ : ∃ k, n = k + 1 := ⟨n - 1, by omega⟩
                obtain ⟨k', rfl⟩ : ∃ k, n' = k + 1 := ⟨n' - 1, by omega⟩
                have eC : lp_Clock_sure_130 a b x (k + 1) best lC i k4 = some (if x = 0 then best else if best = -1 then best else lC, k4) := by
                  show bo_Clock_sure_130 _ _ _ _ _ _ _ _ = _
                  unfold bo_Clock_sure_130 bo_Clock_sure_207
                  rw [f4.2.1 2 (by omega), if_pos hc0.1, g3.2.2.2.1.2.1, if_neg (by omega)]
                  split
                  · rfl
                  · split <;> rfl
                have eM : lp_Model_sure_115 a b x (k' + 1) best lM i d4 = some (if best < 0 then best else if x = 0 then best else lM, d4) := by
                  show bo_Model_sure_115 _ _ _ _ _ _ _ _ = _
                  unfold bo_Model_sure_115 bo_Model_sure_197
                  rw [e4m 205 (by omega) (by omega) (by omega), tn0, if_neg (by omega)]
                  split
                  · rfl
                  · split <;> rfl
                refine ⟨_, eC, ?_⟩
                rw [eM]
                congr 2
                rcases h5 with ⟨h5, h6⟩ | ⟨h5, h6⟩
                · rw [if_pos (by omega)]
                  split
                  · rfl
                  · rfl
                · rw [if_neg (by omega), h6]
                  split
                  · rfl
                  · rw [if_neg (by omega)]
              | succ j ih =>
                intro n n' best lC lM i h1 h2 h3 h4 h5
                obtain ⟨k, rfl⟩ : ∃ k, n = k + 1 := ⟨n - 1, by omega⟩
                obtain ⟨k', rfl⟩ : ∃ k, n' = k + 1 := ⟨n' - 1, by omega⟩
                have r1 := fmaS_r (H := m) (S := putS 3 1 (m 245)) a b i
                have r0 := fmaS_r (H := m) (S := putS 3 0 (m 245)) a b i
                have hC := hmet4 i h2 (by omega)
                have hM := hmet5 i h2 (by omega)
                have hfC := firstMeetingAt_eq hH g3.2.2.1 (by omega : 0 ≤ a) (by omega) (by omega : 0 ≤ b) (by omega) h2
                have hfM := m_firstMeetingAt (p := i) hH mo3 (by omega : 0 ≤ a) (by omega) (by omega : 0 ≤ b) (by omega)
                generalize fmaS m (putS 3 1 (m 245)) a b i = t1 at *
                generalize fmaS m (putS 3 0 (m 245)) a b i = t0 at *
                have eC : lp_Clock_sure_130 a b x (k + 1) best lC i k4 = if t1 = -1 then lp_Clock_sure_130 a b x k best lC (i + 1) k4 else if t0 = -1 then lp_Clock_sure_130 a b x k best lC (i + 1) k4 else if imx t1 t0 < lC then lp_Clock_sure_130 a b x k i (imx t1 t0) (i + 1) k4 else lp_Clock_sure_130 a b x k best lC (i + 1) k4 := by
                  show bo_Clock_sure_130 _ _ _ _ _ _ _ _ = _
                  unfold bo_Clock_sure_130 bo_Clock_sure_201
                  rw [f4.2.1 2 (by omega), if_pos hc0.1, g3.2.2.2.1.2.1, if_pos (by omega), hfC, bd_some, if_pos (by omega), bn_eq, hC, w32_in (by omega) (by omega), if_pos (by omega : 0 ≤ i ∧ i < 6)]
                have eM : lp_Model_sure_115 a b x (k' + 1) best lM i d4 = if t1 < 0 then lp_Model_sure_115 a b x k' best lM (i + 1) d4 else if t0 < 0 then lp_Model_sure_115 a b x k' best lM (i + 1) d4 else if best < 0 then lp_Model_sure_115 a b x k' i (imx t1 t0) (i + 1) d4 else if imx t1 t0 < lM then lp_Model_sure_115 a b x k' i (imx t1 t0) (i + 1) d4 else lp_Model_sure_115 a b x k' best lM (i + 1) d4 := by
                  show bo_Model_sure_115 _ _ _ _ _ _ _ _ = _
                  unfold bo_Model_sure_115 bo_Model_sure_183 bo_Model_sure_191
                  rw [e4m 205 (by omega) (by omega) (by omega), tn0, if_pos (by omega), hfM, bd_some, hM, w32_in (by omega) (by omega), if_pos (by omega : 0 ≤ i ∧ i < 6), if_pos (by omega : 0 ≤ i ∧ i < 6), bn_eq]
                rw [eC, eM]
                have hmx : 0 ≤ t1 → 0 ≤ t0 → imx t1 t0 < 240 := by intro z1 z0; unfold imx; split <;> omega
                by_cases z1 : t1 = -1
                · rw [if_pos z1, if_pos (by omega : t1 < 0)]
                  exact ih k k' _ _ _ _ (by omega) (by omega) (by omega) (by omega) h5
                · rw [if_neg z1, if_neg (by omega : ¬ t1 < 0)]
                  by_cases z0 : t0 = -1
                  · rw [if_pos z0, if_pos (by omega : t0 < 0)]
                    exact ih k k' _ _ _ _ (by omega) (by omega) (by omega) (by omega) h5
                  · rw [if_neg z0, if_neg (by omega : ¬ t0 < 0)]
                    have := hmx (by omega) (by omega)
                    rcases h5 with ⟨h5, h6⟩ | ⟨h5, h6⟩
                    · rw [if_pos (by omega : imx t1 t0 < lC), if_pos (by omega : best < 0)]
                      exact ih k k' _ _ _ _ (by omega) (by omega) (by omega) (by omega) (Or.inr ⟨h2, rfl⟩)
                    · rw [if_neg (by omega : ¬ best < 0), h6]
                      by_cases z2 : imx t1 t0 < lM
                      · rw [if_pos z2, if_pos z2]
                        exact ih k k' _ _ _ _ (by omega) (by omega) (by omega) (by omega) (Or.inr ⟨h2, rfl⟩)
                      · rw [if_neg z2, if_neg z2]
                        exact ih k k' _ _ _ _ (by omega) (by omega) (by omega) (by omega) (Or.inr ⟨h5, rfl⟩)
            obtain ⟨y, y3, y4⟩ := key (m 205 0).toNat FU FU (-1) 240 0 0 (by omega) (by omega) (by show (m 205 0).toNat < 2000; omega) (by show (m 205 0).toNat < 2000; omega) (Or.inl ⟨rfl, rfl⟩)
            exact ⟨y, TT_of y3 ⟨rfl, f4, fE4⟩, TT_of y4 ⟨rfl, fin⟩⟩
end Su
