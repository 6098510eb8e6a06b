/-! Calls by hand: dies, snow, deputy, day, undo. -/
section Hb
variable {f : Int → Int → Int → Int} {m : Mm}
theorem iz0 : (if (0 : Int) = 1 then (1 : Int) else 0) = 0 := rfl
theorem iz1 : (if (1 : Int) = 0 then (0 : Int) else 1) = 1 := rfl
theorem iz2 : (if (1 : Int) = 1 then (1 : Int) else 0) = 1 := rfl
theorem iz3 : (if (0 : Int) = 0 then (0 : Int) else 1) = 0 := rfl
theorem lives_eq {c : Mm} {th : Nat} {w : Int} : fn_State_lives th w c = some (if bt (c th 2) w = 0 then 0 else 1, c) := some_ite _ _ _
theorem m_isAlive {d : Mm} {w : Int} : fn_Model_isAlive w d = some (if bt (d 245 2) w = 1 then 1 else 0, d) := by
  unfold fn_Model_isAlive
  rw [tn2, bt_fold]
  exact some_ite _ _ _
theorem call_dies (hR : RR f m m) (a : Int) : Both (fn_Clock_dies a) (fn_Model_dies a) m := by
  have hn := hR.2.2.1.1.1
  have hS := hR.2.2.2.1
  have er : ∀ d, EqM m d → ∀ k, 204 ≤ k → mst d 203 0 0 k = m k := fun d hE k hk => by rw [mst_ne (by omega)]; exact hE k (by omega)
  by_cases c1 : iR a (m 205 1) = 0
  · refine q_rel hR (fun d hE hd => ⟨0, ?_, ?_⟩)
    · unfold fn_Clock_dies
      rw [c_isWalker hR, bd_some, if_pos c1]
      exact TT_some.mpr ⟨rfl, FQ_refl, fun _ _ => rfl⟩
    · unfold fn_Model_dies
      rw [bn_eq, m_isWalker, bd_some, er d hE 205 (by omega), if_pos c1]
      exact TT_some.mpr ⟨rfl, th_FQM (by omega) (by omega)⟩
  · have c1' := c1
    rw [iR_0] at c1'
    have e2 : m 83 2 = m 245 2 := hS.1.2.2.1
    rcases bt_01 hS.2.1 hS.2.2.1 (by omega : 0 ≤ a) (by omega) with b | b
    · refine q_rel hR (fun d hE hd => ⟨0, ?_, ?_⟩)
      · unfold fn_Clock_dies
        rw [c_isWalker hR, bd_some, if_neg c1, lives_eq, bd_some, e2, b, iz3, if_pos rfl]
        exact TT_some.mpr ⟨rfl, FQ_refl, fun _ _ => rfl⟩
      · unfold fn_Model_dies
        rw [bn_eq, m_isWalker, bd_some, er d hE 205 (by omega), if_neg c1, m_isAlive, bd_some, er d hE 245 (by omega), b, iz0, if_pos rfl]
        exact TT_some.mpr ⟨rfl, th_FQM (by omega) (by omega)⟩
    · refine hand_both hR (up := putS 2 (iand (m 245 2) (ixor (ishl 1 a) (-1)))) ?_ (fun d hE => ?_)
      · unfold fn_Clock_dies
        rw [c_isWalker hR, bd_some, if_neg c1, lives_eq, bd_some, e2, b, iz1, if_neg (by decide : ¬ (1 : Int) = 0)]
        refine TT_call (c_rem hR) (fun r c1 q => ?_)
        have q83 := q.1 83 (by omega) (by omega)
        have q84 := q.1 84 (by omega) (by omega)
        have q85 := q.1 85 (by omega) (by omega)
        unfold fn_State_bury
        rw [bn_eq, bd_some, q83, e2]
        refine TT_some.mpr ⟨rfl, fun k hk => by rw [mst_ne (by omega)]; exact RemP_E q k hk, c1, q, FS_st (by omega), fun d' e205 e245 => ?_⟩
        obtain ⟨⟨s0, s1, s2, s3, s4, s5⟩, ⟨t1, t2, t3, t4, t5, t6⟩⟩ := hS
        have br := bt_clr_r t1 t2 (by omega : 0 ≤ a) (by omega)
        rw [e245]
        refine ⟨⟨?_, ?_, ?_, ?_, fun w w0 w1 => ?_, fun x x0 x1 => ?_⟩, ⟨?_, ?_, ?_, fun w w0 w1 => ?_, fun x x0 x1 => ?_, by rw [put_n (by omega)]; exact t6⟩⟩
        · rw [mst_miss (by omega), q83, put_n (by omega)]; exact s0
        · rw [mst_miss (by omega), q83, put_n (by omega)]; exact s1
        · rw [mst_hit, put_h]
        · rw [mst_miss (by omega), q83, put_n (by omega)]; exact s3
        · rw [mst_ne (by omega), put_n (by omega), q84]; exact s4 w w0 w1
        · rw [e205] at x1
          rw [mst_ne (by omega), put_n (by omega), q85]; exact s5 x x0 x1
        · rw [put_h]; exact br.1
        · rw [put_h]; exact br.2
        · rw [put_n (by omega)]; exact t3
        · rw [put_n (by omega)]; exact t4 w w0 w1
        · rw [e205] at x1 ⊢
          rw [put_n (by omega)]; exact t5 x x0 x1
      · unfold fn_Model_dies
        rw [bn_eq, m_isWalker, bd_some, er d hE 205 (by omega), if_neg c1, m_isAlive, bd_some, er d hE 245 (by omega), b, iz2, if_neg (by decide : ¬ (1 : Int) = 0), tn2]
        refine TT_call (m_hand hR hE (by omega) (by omega)) (fun r d' q => ?_)
        rw [q.1, if_neg (by decide)]
        exact TT_some.mpr ⟨rfl, q.2⟩
theorem call_snow (hR : RR f m m) : Both fn_Clock_snow fn_Model_snow m := by
  have hn := hR.2.2.1.1.1
  have hS := hR.2.2.2.1
  have er : ∀ d, EqM m d → ∀ k, 204 ≤ k → mst d 203 0 0 k = m k := fun d hE k hk => by rw [mst_ne (by omega)]; exact hE k (by omega)
  have e3 : m 83 3 = m 245 3 := hS.1.2.2.2.1
  by_cases b : m 245 3 = 0
  · refine hand_both hR (up := putS 3 1) ?_ (fun d hE => ?_)
    · unfold fn_Clock_snow
      rw [e3, if_pos b]
      refine TT_call (c_rem hR) (fun r c1 q => ?_)
      have q83 := q.1 83 (by omega) (by omega)
      have q84 := q.1 84 (by omega) (by omega)
      have q85 := q.1 85 (by omega) (by omega)
      rw [bn_eq]
      refine TT_some.mpr ⟨rfl, fun k hk => by rw [mst_ne (by omega)]; exact RemP_E q k hk, c1, q, FS_st (by omega), fun d' e205 e245 => ?_⟩
      obtain ⟨⟨s0, s1, s2, s3, s4, s5⟩, ⟨t1, t2, t3, t4, t5, t6⟩⟩ := hS
      rw [e245]
      refine ⟨⟨?_, ?_, ?_, ?_, fun w w0 w1 => ?_, fun x x0 x1 => ?_⟩, ⟨?_, ?_, ?_, fun w w0 w1 => ?_, fun x x0 x1 => ?_, by rw [put_n (by omega)]; exact t6⟩⟩
      · rw [mst_miss (by omega), q83, put_n (by omega)]; exact s0
      · rw [mst_miss (by omega), q83, put_n (by omega)]; exact s1
      · rw [mst_miss (by omega), q83, put_n (by omega)]; exact s2
      · rw [mst_hit, put_h]
      · rw [mst_ne (by omega), put_n (by omega), q84]; exact s4 w w0 w1
      · rw [e205] at x1
        rw [mst_ne (by omega), put_n (by omega), q85]; exact s5 x x0 x1
      · rw [put_n (by omega)]; exact t1
      · rw [put_n (by omega)]; exact t2
      · rw [put_h]; exact Or.inr rfl
      · rw [put_n (by omega)]; exact t4 w w0 w1
      · rw [e205] at x1 ⊢
        rw [put_n (by omega)]; exact t5 x x0 x1
    · unfold fn_Model_snow
      rw [bn_eq, er d hE 245 (by omega), tn3, if_pos b]
      refine TT_call (m_hand hR hE (by omega) (by omega)) (fun r d' q => ?_)
      rw [q.1, if_neg (by decide)]
      exact TT_some.mpr ⟨rfl, q.2⟩
  · refine q_rel hR (fun d hE hd => ⟨0, ?_, ?_⟩)
    · unfold fn_Clock_snow
      rw [e3, if_neg b]
      exact TT_some.mpr ⟨rfl, FQ_refl, fun _ _ => rfl⟩
    · unfold fn_Model_snow
      rw [bn_eq, er d hE 245 (by omega), tn3, if_neg b]
      exact TT_some.mpr ⟨rfl, th_FQM (by omega) (by omega)⟩
/-- a place is of a round: both say the same -/
theorem passes_rel {c H d : Mm} {hc : Nat} (hH : HD H) (hW : HW c hc H) (hf : FM2 H d) {w p : Int} (w0 : 0 ≤ w) (w1 : w < H 205 1) : ∃ x : Int, fn_Walker_passes (hc + 4 * w.toNat + 13) p c = some (x, c) ∧ fn_Model_isOf 0 w p d = some (x, d) := by
  have hn := hH.1
  obtain ⟨q0, q1, q2, q3, q4, q5, q6⟩ := hW.2.2.2.2.1 w w0 w1
  obtain ⟨k1, k2, k3, k4, k5, k6, k7, k8, k9, k10, k11, k12, k13⟩ := hH.2.1 w w0 w1
  have e214 := hf 214 (by omega) (by omega)
  have e215 := hf 215 (by omega) (by omega)
  unfold fn_Walker_passes fn_Model_isOf
  refine rel1 (boC := bo_Walker_passes_2 (hc + 4 * w.toNat + 13) p) (boM := bo_Model_isOf_3 0 w p) (fun _ => rfl) (fun _ => rfl) (N := H 215 w.toNat) (fun kC kM i i0 i1 => ?_) (fun kC kM => ?_) (H 215 w.toNat).toNat FU FU 0 (by omega) (by omega) (by show (H 215 w.toNat).toNat < 2000; omega) (by show (H 215 w.toNat).toNat < 2000; omega)
  · have e1 : w32 (w32 (6 * 0) + w) = w := by rw [w32_in (x := 6 * 0) (by omega) (by omega), w32_in (by omega) (by omega)]; omega
    have e2 : w32 (w32 (w32 (24 * 0) + w32 (4 * w)) + i) = 4 * w + i := by
      rw [w32_in (x := 24 * 0) (by omega) (by omega), w32_in (x := 4 * w) (by omega) (by omega), w32_in (x := 24 * 0 + 4 * w) (by omega) (by omega), w32_in (by omega) (by omega)]; omega
    have eC : bo_Walker_passes_2 (hc + 4 * w.toNat + 13) p kC i c = if H 214 (4 * w + i).toNat = p then some (1, c) else kC (i + 1) c := by
      unfold bo_Walker_passes_2
      rw [q4, if_pos i1, if_pos (by omega), q5 i i0 i1, w32_in (by omega) (by omega)]
    have eM : bo_Model_isOf_3 0 w p kM i d = if H 214 (4 * w + i).toNat = p then some (1, d) else kM (i + 1) d := by
      unfold bo_Model_isOf_3
      rw [e1, e2, if_pos (by omega), e215, if_pos i1, if_pos (by omega), e214, w32_in (by omega) (by omega)]
    rw [eC, eM]
    by_cases g : H 214 (4 * w + i).toNat = p
    · rw [if_pos g, if_pos g]; exact Or.inl ⟨1, rfl, rfl⟩
    · rw [if_neg g, if_neg g]; exact Or.inr ⟨rfl, rfl⟩
  · refine ⟨0, ?_, ?_⟩
    · unfold bo_Walker_passes_2
      rw [q4, if_neg (by omega)]
    · have e1 : w32 (w32 (6 * 0) + w) = w := by rw [w32_in (x := 6 * 0) (by omega) (by omega), w32_in (by omega) (by omega)]; omega
      unfold bo_Model_isOf_3
      rw [e1, if_pos (by omega), e215, if_neg (by omega)]
/-- whether one can be a deputy: both say the same -/
theorem canDep_rel {c H d : Mm} {hc sc : Nat} {S : Nat → Int} (hH : HD H) (hS : SD H S) (hW : HW c hc H) (hX : HX c hc H) (hst : StW c sc H S) (hf : FM2 H d) (hs : d 245 = S) {h w : Int} (h0 : 0 ≤ h) (h1 : h < H 205 2) (w0 : 0 ≤ w) (w1 : w < H 205 1) : ∃ x : Int, (x = 0 ∨ x = 1) ∧ fn_State_canDepute sc hc h w c = some (if S (10 + h).toNat = w then 0 else x, c) ∧ fn_Model_canStand h w d = some (x, d) := by
  have hn := hH.1
  have e219 := hf 219 (by omega) (by omega)
  obtain ⟨s0, s1, s2, s3, s4, s5⟩ := hst
  unfold fn_State_canDepute fn_Model_canStand
  rw [lives_eq, m_isAlive, bd_some, bd_some, s2, hs]
  rcases bt_01 hS.1 hS.2.1 w0 (by omega : w < 6) with b | b
  · refine ⟨0, Or.inl rfl, ?_, ?_⟩
    · rw [b, iz3, if_pos rfl]
      split <;> rfl
    · rw [b, iz0, if_pos rfl]
  · rw [b, iz1, iz2, if_neg (by decide : ¬ (1 : Int) = 0), if_neg (by decide : ¬ (1 : Int) = 0), if_pos (by omega : 0 ≤ h ∧ h < 6), s5 h h0 h1, if_pos (by omega : 0 ≤ h ∧ h < 12), e219]
    obtain ⟨x, x1, x2⟩ := passes_rel (p := H 219 h.toNat) hH hW hf w0 w1
    rw [x2, bd_some]
    refine ⟨if x = 0 then 0 else 1, by split <;> simp, ?_, ?_⟩
    · by_cases g : S (10 + h).toNat = w
      · rw [if_pos g, if_pos g]
      · rw [if_neg g, if_neg g, if_pos (by omega), if_pos (by omega), (hX h h0 h1).2.1, x1, bd_some]
        exact some_ite _ _ _
    · exact some_ite _ _ _
theorem call_deputy (hR : RR f m m) (a b : Int) : Both (fn_Clock_deputy a b) (fn_Model_deputy a b) m := by
  have hH := hR.2.2.1.1
  have hn := hH.1
  have hS := hR.2.2.2.1
  have hc0 := RR_hc hR
  have er : ∀ d, EqM m d → ∀ k, 204 ≤ k → mst d 203 0 0 k = m k := fun d hE k hk => by rw [mst_ne (by omega)]; exact hE k (by omega)
  by_cases c1 : iR a (m 205 2) = 0
  · refine q_rel hR (fun d hE hd => ⟨0, ?_, ?_⟩)
    · unfold fn_Clock_deputy
      rw [c_isHour hR, bd_some, if_pos c1]
      exact TT_some.mpr ⟨rfl, FQ_refl, fun _ _ => rfl⟩
    · unfold fn_Model_deputy
      rw [bn_eq, m_isHour, bd_some, er d hE 205 (by omega), if_pos c1]
      exact TT_some.mpr ⟨rfl, th_FQM (by omega) (by omega)⟩
  · by_cases c2 : iR b (m 205 1) = 0
    · refine q_rel hR (fun d hE hd => ⟨0, ?_, ?_⟩)
      · unfold fn_Clock_deputy
        rw [c_isHour hR, bd_some, if_neg c1, c_isWalker hR, bd_some, if_pos c2]
        exact TT_some.mpr ⟨rfl, FQ_refl, fun _ _ => rfl⟩
      · unfold fn_Model_deputy
        rw [bn_eq, m_isHour, bd_some, er d hE 205 (by omega), if_neg c1, m_isWalker, bd_some, er d hE 205 (by omega), if_pos c2]
        exact TT_some.mpr ⟨rfl, th_FQM (by omega) (by omega)⟩
    · have c1' := c1
      have c2' := c2
      rw [iR_0] at c1' c2'
      have rel : ∀ d, EqM m d → ∃ x : Int, (x = 0 ∨ x = 1) ∧ fn_State_canDepute 83 (m 0 2).toNat a b m = some (if m 245 (10 + a).toNat = b then 0 else x, m) ∧ fn_Model_canStand a b (mst d 203 0 0) = some (x, mst d 203 0 0) := fun d hE => canDep_rel hH hS.2 hR.2.2.1.2.1 hR.2.2.1.2.2.1 hS.1 (FM2_mst (EqM_FM2 hE)) (er d hE 245 (by omega)) (by omega) (by omega) (by omega) (by omega)
      obtain ⟨x, x0, x1, -⟩ := rel m (fun _ _ => rfl)
      by_cases g : (if m 245 (10 + a).toNat = b then 0 else x) = 0
      · refine q_rel hR (fun d hE hd => ⟨0, ?_, ?_⟩)
        · unfold fn_Clock_deputy
          rw [c_isHour hR, bd_some, if_neg c1, c_isWalker hR, bd_some, if_neg c2, if_pos hc0.1, x1, bd_some, if_pos g]
          exact TT_some.mpr ⟨rfl, FQ_refl, fun _ _ => rfl⟩
        · unfold fn_Model_deputy
          rw [bn_eq, m_isHour, bd_some, er d hE 205 (by omega), if_neg c1, m_isWalker, bd_some, er d hE 205 (by omega), if_neg c2, w32_in (by omega) (by omega), if_pos (by omega), er d hE 245 (by omega)]
          by_cases g2 : m 245 (10 + a).toNat = b
          · rw [if_pos g2]
            exact TT_some.mpr ⟨rfl, th_FQM (by omega) (by omega)⟩
          · rw [if_neg g2] at g ⊢
            obtain ⟨y, y0, y1, y2⟩ := rel d hE
            rw [y1] at x1
            have : y = x := by
              have := congrArg (fun o => o.map Prod.fst) x1
              simpa [if_neg g2] using this
            rw [y2, bd_some, this, if_pos g]
            exact TT_some.mpr ⟨rfl, th_FQM (by omega) (by omega)⟩
      · have g2 : ¬ m 245 (10 + a).toNat = b := fun z => g (by rw [if_pos z])
        refine hand_both hR (up := putS (10 + a).toNat b) ?_ (fun d hE => ?_)
        · unfold fn_Clock_deputy
          rw [c_isHour hR, bd_some, if_neg c1, c_isWalker hR, bd_some, if_neg c2, if_pos hc0.1, x1, bd_some, if_neg g]
          refine TT_call (c_rem hR) (fun r c1 q => ?_)
          have q83 := q.1 83 (by omega) (by omega)
          have q84 := q.1 84 (by omega) (by omega)
          have q85 := q.1 85 (by omega) (by omega)
          rw [if_pos (by omega), bn_eq]
          refine TT_some.mpr ⟨rfl, fun k hk => by rw [mst_ne (by omega)]; exact RemP_E q k hk, c1, q, FS_st (by omega), fun d' e205 e245 => ?_⟩
          obtain ⟨⟨s0, s1, s2, s3, s4, s5⟩, ⟨t1, t2, t3, t4, t5, t6⟩⟩ := hS
          rw [e245]
          refine ⟨⟨?_, ?_, ?_, ?_, fun w w0 w1 => ?_, fun x x0 x1 => ?_⟩, ⟨?_, ?_, ?_, fun w w0 w1 => ?_, fun x x0 x1 => ?_, by rw [put_n (by omega)]; exact t6⟩⟩
          · rw [mst_ne (by omega), q83, put_n (by omega)]; exact s0
          · rw [mst_ne (by omega), q83, put_n (by omega)]; exact s1
          · rw [mst_ne (by omega), q83, put_n (by omega)]; exact s2
          · rw [mst_ne (by omega), q83, put_n (by omega)]; exact s3
          · rw [mst_ne (by omega), put_n (by omega), q84]; exact s4 w w0 w1
          · rw [e205] at x1
            by_cases g3 : x = a
            · subst g3; rw [mst_hit, put_h]
            · rw [mst_miss (by omega), put_n (by omega), q85]; exact s5 x x0 x1
          · rw [put_n (by omega)]; exact t1
          · rw [put_n (by omega)]; exact t2
          · rw [put_n (by omega)]; exact t3
          · rw [put_n (by omega)]; exact t4 w w0 w1
          · rw [e205] at x1 ⊢
            by_cases g3 : x = a
            · subst g3; rw [put_h]; omega
            · rw [put_n (by omega)]; exact t5 x x0 x1
        · unfold fn_Model_deputy
          rw [bn_eq, m_isHour, bd_some, er d hE 205 (by omega), if_neg c1, m_isWalker, bd_some, er d hE 205 (by omega), if_neg c2, w32_in (by omega) (by omega), if_pos (by omega), er d hE 245 (by omega), if_neg g2]
          obtain ⟨y, y0, y1, y2⟩ := rel d hE
          rw [y1] at x1
          have : y = x := by
            have := congrArg (fun o => o.map Prod.fst) x1
            simpa [if_neg g2] using this
          rw [if_neg g2] at g
          rw [y2, bd_some, this, if_neg g]
          refine TT_call (m_hand hR hE (by omega) (by omega)) (fun r d' q => ?_)
          rw [q.1, if_neg (by decide)]
          exact TT_some.mpr ⟨rfl, q.2⟩
end Hb
