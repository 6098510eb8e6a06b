/-! Times, look, lonely. -/
section Ed
variable {f : Int → Int → Int → Int} {m : Mm}
/-- what both know when they look round -/
def LK (H : Mm) (S : Nat → Int) (mC mM : Mm) : Prop := SgO H S mC ∧ mC 82 = H 82 ∧ mC 90 = H 90 ∧ mC 91 = H 91 ∧ MO H S mM
def cbS (mC : Mm) (u : Int) : Int := match fn_Standing_canBe 82 u mC with
  | some (x, _) => x
  | none => 0
theorem cb_eq {H : Mm} {S : Nat → Int} {mC mM : Mm} (hH : HD H) (hn : SnR H 82 H 0) (h : LK H S mC mM) {u : Int} (u0 : 0 ≤ u) (u1 : u < 240) : fn_Standing_canBe 82 u mC = some (cbS mC u, mC) ∧ fn_Model_isAsSeen u mM = some (cbS mC u, mM) := by
  obtain ⟨x, h1, h2⟩ := canBe_rel hH hn h.2.1 h.2.2.1 h.2.2.2.1 h.1 h.2.2.2.2 u0 u1
  have e : cbS mC u = x := by unfold cbS; rw [h1]
  rw [e]
  exact ⟨h1, h2⟩
theorem times_core {H : Mm} {S : Nat → Int} {mC mM : Mm} (hH : HD H) (hn : SnR H 82 H 0) (h : LK H S mC mM) (p : Int) : ∃ x : Int, lp_Clock_times_25 p FU 0 (-1) (-1) 0 mC = some (x, mC) ∧ lp_Model_times_30 p FU 0 (-1) (-1) 0 mM = some (x, mM) := by
  refine rel4 (boC := bo_Clock_times_25 p) (boM := bo_Model_times_30 p) (fun _ => rfl) (fun _ => rfl) (N := 240) (fun a b c i => -1 ≤ b) (fun kC kM a b c i i0 i1 hI => ?_) (fun kC kM a b c hI => ?_) 240 FU FU 0 (-1) (-1) 0 (by omega) (by omega) (by decide) (by decide) (by omega)
  · obtain ⟨h1, h2⟩ := cb_eq hH hn h i0 i1
    unfold bo_Clock_times_25 bo_Model_times_30 bo_Clock_times_68 bo_Clock_times_63 bo_Model_times_60 bo_Model_times_64 bo_Clock_times_68
    rw [if_pos i1, if_pos i1, h1, h2, bd_some, bd_some, w32_in (x := i + 1) (by omega) (by omega)]
    by_cases g : cbS mC i = 0
    · rw [if_pos g, if_pos g]
      exact ⟨a, b, c, hI, rfl, rfl⟩
    · rw [if_neg g, if_neg g]
      by_cases g2 : b = -1
      · rw [if_pos g2, if_pos (by omega)]
        exact ⟨w32 (a + 1), i, i, by omega, rfl, rfl⟩
      · rw [if_neg g2, if_neg (by omega)]
        exact ⟨w32 (a + 1), b, i, hI, rfl, rfl⟩
  · unfold bo_Clock_times_25 bo_Model_times_30 bo_Clock_times_74 bo_Model_times_70
    rw [if_neg (by decide : ¬ (240 : Int) < 240), if_neg (by decide : ¬ (240 : Int) < 240)]
    by_cases g : p = 0
    · rw [if_pos g, if_pos g]; exact ⟨a, rfl, rfl⟩
    · rw [if_neg g, if_neg g]
      by_cases g2 : p = 1
      · rw [if_pos g2, if_pos g2]; exact ⟨b, rfl, rfl⟩
      · rw [if_neg g2, if_neg g2]; exact ⟨c, rfl, rfl⟩
theorem LK_of {d : Mm} (hR : RR f m m) (hE : EqM m d) {mC mM : Mm} (h1 : SgO m (m 245) mC ∧ FQ m mC ∧ EqM m mC) (h2 : MO m (m 245) mM) : LK m (m 245) mC mM :=
  ⟨h1.1, h1.2.1.1 82 (by omega) (by omega) (by omega) (by omega) (by omega) (by omega) (by omega), h1.2.1.1 90 (by omega) (by omega) (by omega) (by omega) (by omega) (by omega) (by omega), h1.2.1.1 91 (by omega) (by omega) (by omega) (by omega) (by omega) (by omega) (by omega), h2⟩
theorem call_times (hR : RR f m m) (p : Int) : Both (fn_Clock_times p) (fn_Model_times p) m := by
  refine q_rel hR (fun d hE hd => ?_)
  have hH := hR.2.2.1.1
  have er : ∀ k, 204 ≤ k → mst d 203 0 0 k = m k := fun k hk => by rw [mst_ne (by omega)]; exact hE k (by omega)
  have hq := th_FQM (d := d) (x := 0) (j := 0) (by omega) (by omega)
  unfold fn_Clock_times fn_Model_times
  rw [bn_eq, m_within, bd_some]
  by_cases c1 : p < 0
  · rw [if_pos c1, if_pos c1, if_pos rfl]
    exact ⟨-1, TT_some.mpr ⟨rfl, FQ_refl, fun _ _ => rfl⟩, TT_some.mpr ⟨rfl, hq⟩⟩
  · by_cases c2 : 2 < p
    · rw [if_neg c1, if_pos c2, if_neg c1, if_pos c2, if_pos rfl]
      exact ⟨-1, TT_some.mpr ⟨rfl, FQ_refl, fun _ _ => rfl⟩, TT_some.mpr ⟨rfl, hq⟩⟩
    · rw [if_neg c1, if_neg c2, if_neg c1, if_neg c2, if_neg (by decide : ¬ (1 : Int) = 0)]
      obtain ⟨r1, mC, e1, q1⟩ := c_look hR
      obtain ⟨r2, mM, e2, q2⟩ := m_go hR (FM2_mst (EqM_FM2 hE)) (er 245 (by omega))
      have hf := FR_FQM q2.2
      obtain ⟨x, x1, x2⟩ := times_core hH hR.2.2.2.2.2.1 (LK_of hR hE q1 q2.1) p
      rw [e1, e2, bd_some, bd_some]
      exact ⟨x, TT_of x1 ⟨rfl, q1.2⟩, TT_of x2 ⟨rfl, FQM_trans hq.1 hf.1, EqC_trans hq.2 hf.2⟩⟩
theorem call_lonely (hR : RR f m m) (p : Int) : Both (fn_Clock_lonely p) (fn_Model_lonely p) m := by
  refine q_rel hR (fun d hE hd => ?_)
  have hH := hR.2.2.1.1
  have hS := hR.2.2.2.1.2
  have er : ∀ k, 204 ≤ k → mst d 203 0 0 k = m k := fun k hk => by rw [mst_ne (by omega)]; exact hE k (by omega)
  have hq := th_FQM (d := d) (x := 0) (j := 0) (by omega) (by omega)
  unfold fn_Clock_lonely fn_Model_lonely
  rw [bn_eq, m_within, bd_some]
  by_cases c1 : p < 0
  · rw [if_pos c1, if_pos c1, if_pos rfl]
    exact ⟨-1, TT_some.mpr ⟨rfl, FQ_refl, fun _ _ => rfl⟩, TT_some.mpr ⟨rfl, hq⟩⟩
  · by_cases c2 : 1 < p
    · rw [if_neg c1, if_pos c2, if_neg c1, if_pos c2, if_pos rfl]
      exact ⟨-1, TT_some.mpr ⟨rfl, FQ_refl, fun _ _ => rfl⟩, TT_some.mpr ⟨rfl, hq⟩⟩
    · rw [if_neg c1, if_neg c2, if_neg c1, if_neg c2, if_neg (by decide : ¬ (1 : Int) = 0)]
      obtain ⟨r1, mC, e1, q1⟩ := c_look hR
      obtain ⟨r2, mM, e2, q2⟩ := m_go hR (FM2_mst (EqM_FM2 hE)) (er 245 (by omega))
      have hf := FR_FQM q2.2
      have core : ∃ x : Int, lp_Clock_lonely_25 p FU 0 (-1) 0 0 mC = some (x, mC) ∧ lp_Model_lonely_30 p FU 0 (-1) 0 0 mM = some (x, mM) := by
        refine rel4 (boC := bo_Clock_lonely_25 p) (boM := bo_Model_lonely_30 p) (fun _ => rfl) (fun _ => rfl) (N := 240) (fun a b c i => 0 ≤ a ∧ (a = 0 → b = -1) ∧ 0 ≤ c ∧ c ≤ i) (fun kC kM a b c i i0 i1 hI => ?_) (fun kC kM a b c hI => ?_) 240 FU FU 0 (-1) 0 0 (by omega) (by omega) (by decide) (by decide) (by omega)
        · have s53 : ∀ s : Int, 0 ≤ s → s ≤ i + 1 → ∃ a' b' c' : Int, (0 ≤ a' ∧ (a' = 0 → b' = -1) ∧ 0 ≤ c' ∧ c' ≤ i + 1) ∧ bo_Clock_lonely_53 p kC a b i s mC = kC a' b' c' (i + 1) mC ∧ bo_Model_lonely_55 p kM a b i s mM = kM a' b' c' (i + 1) mM := by
            intro s s0 s1
            unfold bo_Clock_lonely_53 bo_Model_lonely_55 bo_Clock_lonely_72 bo_Model_lonely_77
            rw [w32_in (x := i + 1) (by omega) (by omega)]
            by_cases g : a < s
            · rw [if_pos g, if_pos g, bn_eq, bn_eq]
              have e : w32 (w32 (i - s) + 1) = w32 (i + 1 - s) := by rw [w32_l]; congr 1; omega
              rw [e]
              exact ⟨s, w32 (i + 1 - s), s, by omega, rfl, rfl⟩
            · rw [if_neg g, if_neg g]
              exact ⟨a, b, s, by omega, rfl, rfl⟩
          unfold bo_Clock_lonely_25 bo_Model_lonely_30
          rw [if_pos i1, if_pos i1, isMeeting_eq hH hS q1.1 i0 i1, m_isMeeting hH q2.1 i0 i1, bd_some, bd_some, w32_in (x := c + 1) (by omega) (by omega)]
          by_cases g : zi (db (MeetP m (m 245) i)) = 0
          · rw [if_pos g, if_pos g]
            exact s53 (c + 1) (by omega) (by omega)
          · rw [if_neg g, if_neg g]
            exact s53 0 (by omega) (by omega)
        · unfold bo_Clock_lonely_25 bo_Model_lonely_30 bo_Clock_lonely_78 bo_Model_lonely_83
          rw [if_neg (by decide : ¬ (240 : Int) < 240), if_neg (by decide : ¬ (240 : Int) < 240)]
          by_cases g : a = 0
          · have hb := hI.2.1 g
            refine ⟨-1, ?_, by rw [if_pos g]⟩
            rw [hb, if_neg (by omega : ¬ 0 < a)]
            split <;> rfl
          · rw [if_neg g]
            by_cases g2 : p = 0
            · rw [if_pos g2, if_pos (by omega : 0 < a), if_pos g2]; exact ⟨a, rfl, rfl⟩
            · rw [if_neg g2, if_neg g2]; exact ⟨b, rfl, rfl⟩
      obtain ⟨x, x1, x2⟩ := core
      rw [e1, e2, bd_some, bd_some]
      exact ⟨x, TT_of x1 ⟨rfl, q1.2⟩, TT_of x2 ⟨rfl, FQM_trans hq.1 hf.1, EqC_trans hq.2 hf.2⟩⟩
/-- how many of the times -/
def tmS (mC : Mm) : Int := fld (fun u a => if cbS mC u = 0 then a else w32 (a + 1)) 240 0 0
theorem m_times0 {H : Mm} {S : Nat → Int} {mC mM : Mm} (hH : HD H) (hn : SnR H 82 H 0) (h : LK H S mC mM) : ∀ (j n : Nat) (a b c i : Int), i + j = 240 → 0 ≤ i → j < n → lp_Model_times_30 0 n a b c i mM = some (fld (fun u a => if cbS mC u = 0 then a else w32 (a + 1)) j i a, mM) := by
  intro j
  induction j with
  | zero =>
    intro n a b c i h1 h2 h3
    obtain ⟨k, rfl⟩ : ∃ k, n = k + 1 := ⟨n - 1, by omega⟩
    show bo_Model_times_30 _ _ _ _ _ _ _ = _
    unfold bo_Model_times_30 bo_Model_times_70
    rw [if_neg (by omega), if_pos rfl]
    rfl
  | succ j ih =>
    intro n a b c i h1 h2 h3
    obtain ⟨k, rfl⟩ : ∃ k, n = k + 1 := ⟨n - 1, by omega⟩
    show bo_Model_times_30 _ _ _ _ _ _ _ = _
    unfold bo_Model_times_30 bo_Model_times_60 bo_Model_times_64
    rw [if_pos (by omega), (cb_eq hH hn h h2 (by omega : i < 240)).2, bd_some, w32_in (x := i + 1) (by omega) (by omega)]
    unfold fld
    by_cases g : cbS mC i = 0
    · rw [if_pos g, if_pos g]
      exact ih k a b c (i + 1) (by omega) (by omega) (by omega)
    · rw [if_neg g, if_neg g]
      split
      · exact ih k _ _ _ (i + 1) (by omega) (by omega) (by omega)
      · exact ih k _ _ _ (i + 1) (by omega) (by omega) (by omega)
theorem c_count0 {H : Mm} {S : Nat → Int} {mC mM : Mm} (hH : HD H) (hn : SnR H 82 H 0) (h : LK H S mC mM) : ∀ (j n : Nat) (w a i : Int), i + j = 240 → 0 ≤ i → j < n → lp_Clock_look_10 n w a i mC = bo_Clock_look_41 w (fld (fun u a => if cbS mC u = 0 then a else w32 (a + 1)) j i a) mC := by
  intro j
  induction j with
  | zero =>
    intro n w a i h1 h2 h3
    obtain ⟨k, rfl⟩ : ∃ k, n = k + 1 := ⟨n - 1, by omega⟩
    show bo_Clock_look_10 _ _ _ _ _ = _
    unfold bo_Clock_look_10
    rw [if_neg (by omega)]
    rfl
  | succ j ih =>
    intro n w a i h1 h2 h3
    obtain ⟨k, rfl⟩ : ∃ k, n = k + 1 := ⟨n - 1, by omega⟩
    show bo_Clock_look_10 _ _ _ _ _ = _
    unfold bo_Clock_look_10 bo_Clock_look_35
    rw [if_pos (by omega), (cb_eq hH hn h h2 (by omega : i < 240)).1, bd_some, w32_in (x := i + 1) (by omega) (by omega)]
    unfold fld
    by_cases g : cbS mC i = 0
    · rw [if_pos g, if_pos g]
      exact ih k w a (i + 1) (by omega) (by omega) (by omega)
    · rw [if_neg g, if_neg g]
      exact ih k w _ (i + 1) (by omega) (by omega) (by omega)
theorem LK_step {H : Mm} {S : Nat → Int} {mC mM mC' mM' : Mm} (h : LK H S mC mM) (h1 : ∀ a, a ≠ 107 → mC' a = mC a) (h2 : ∀ a, a ≠ 255 → mM' a = mM a) : LK H S mC' mM' := by
  obtain ⟨g1, g2, g3, g4, g5⟩ := h
  refine ⟨fun p u p0 p1 u0 u1 => ?_, (h1 82 (by omega)).trans g2, (h1 90 (by omega)).trans g3, (h1 91 (by omega)).trans g4, MO_congr g5 (fun a _ _ _ _ => h2 a (by omega))⟩
  rw [h1 105 (by omega)]
  exact g1 p u p0 p1 u0 u1
theorem mostAlike_rel {H : Mm} {S : Nat → Int} {mC0 mM0 : Mm} (hH : HD H) (hn : SnR H 82 H 0) (h : LK H S mC0 mM0) {p : Int} (p0 : 0 ≤ p) (p1 : p < 6) : ∃ (x : Int) (mC mM : Mm), fn_Clock_mostAlike p mC0 = some (x, mC) ∧ fn_Model_mostAlike p mM0 = some (x, mM) ∧ (∀ a, a ≠ 107 → mC a = mC0 a) ∧ ∀ a, a ≠ 255 → mM a = mM0 a := by
  -- both lay zeros
  obtain ⟨r1, mC1, e1, q1, q2, q3⟩ := fillI_ok (n := 64) (a := 107) (x := 0) (m := mC0) (by omega)
  have hz : ∃ mM1 : Mm, fn_Model_mostAlike p mM0 = bo_Model_mostAlike_21 p mM1 ∧ (∀ a, a ≠ 255 → mM1 a = mM0 a) ∧ ∀ j : Nat, j < 64 → mM1 255 j = 0 := by
    have key : ∀ (j n : Nat) (i : Int) (mM : Mm), i + j = 64 → 0 ≤ i → j < n → (∀ a, a ≠ 255 → mM a = mM0 a) → (∀ k : Nat, (k : Int) < i → mM 255 k = 0) → ∃ mM1 : Mm, lp_Model_mostAlike_2 p n i mM = bo_Model_mostAlike_21 p mM1 ∧ (∀ a, a ≠ 255 → mM1 a = mM0 a) ∧ ∀ j : Nat, j < 64 → mM1 255 j = 0 := by
      intro j
      induction j with
      | zero =>
        intro n i mM h1 h2 h3 h4 h5
        obtain ⟨k, rfl⟩ : ∃ k, n = k + 1 := ⟨n - 1, by omega⟩
        refine ⟨mM, ?_, h4, fun j hj => h5 j (by omega)⟩
        show bo_Model_mostAlike_2 _ _ _ _ = _
        unfold bo_Model_mostAlike_2
        rw [if_neg (by omega)]
      | succ j ih =>
        intro n i mM h1 h2 h3 h4 h5
        obtain ⟨k, rfl⟩ : ∃ k, n = k + 1 := ⟨n - 1, by omega⟩
        have e : lp_Model_mostAlike_2 p (k + 1) i mM = lp_Model_mostAlike_2 p k (i + 1) (mst mM 255 i.toNat 0) := by
          show bo_Model_mostAlike_2 _ _ _ _ = _
          unfold bo_Model_mostAlike_2
          rw [if_pos (by omega), if_pos (by omega), bn_eq, w32_in (by omega) (by omega)]
        rw [e]
        refine ih k (i + 1) _ (by omega) (by omega) (by omega) (fun a ha => (mst_ne ha).trans (h4 a ha)) (fun k hk => ?_)
        by_cases g : k = i.toNat
        · subst g; exact mst_hit
        · rw [mst_miss g]; exact h5 k (by omega)
    exact key 64 FU 0 mM0 (by omega) (by omega) (by decide) (fun _ _ => rfl) (fun k hk => by omega)
  obtain ⟨mM1, z1, z2, z3⟩ := hz
  unfold fn_Clock_mostAlike
  rw [e1, bd_some, z1]
  unfold bo_Model_mostAlike_21
  have key : ∀ (j n n' : Nat) (a i : Int) (mC mM : Mm), i + j = 240 → 0 ≤ i → j < n → j < n' → (∀ a, a ≠ 107 → mC a = mC0 a) → (∀ a, a ≠ 255 → mM a = mM0 a) → (∀ k : Nat, k < 64 → mC 107 k = mM 255 k) → ∃ (x : Int) (mC' mM' : Mm), lp_Clock_mostAlike_12 p n a i mC = some (x, mC') ∧ lp_Model_mostAlike_25 p n' a i mM = some (x, mM') ∧ (∀ a, a ≠ 107 → mC' a = mC0 a) ∧ ∀ a, a ≠ 255 → mM' a = mM0 a := by
    intro j
    induction j with
    | zero =>
      intro n n' a i mC mM h1 h2 h3 h4 h5 h6 h7
      obtain ⟨k, rfl⟩ : ∃ k, n = k + 1 := ⟨n - 1, by omega⟩
      obtain ⟨k', rfl⟩ : ∃ k, n' = k + 1 := ⟨n' - 1, by omega⟩
      refine ⟨a, mC, mM, ?_, ?_, h5, h6⟩
      · show bo_Clock_mostAlike_12 _ _ _ _ _ = _
        unfold bo_Clock_mostAlike_12
        rw [if_neg (by omega)]
      · show bo_Model_mostAlike_25 _ _ _ _ _ = _
        unfold bo_Model_mostAlike_25
        rw [if_neg (by omega)]
    | succ j ih =>
      intro n n' a i mC mM h1 h2 h3 h4 h5 h6 h7
      obtain ⟨k, rfl⟩ : ∃ k, n = k + 1 := ⟨n - 1, by omega⟩
      obtain ⟨k', rfl⟩ : ∃ k, n' = k + 1 := ⟨n' - 1, by omega⟩
      have hl := LK_step h h5 h6
      obtain ⟨c1, c2⟩ := cb_eq hH hn hl h2 (by omega : i < 240)
      have hset := setS_b (S := S) hH i p
      have eC : lp_Clock_mostAlike_12 p (k + 1) a i mC = if cbS mC i = 0 then lp_Clock_mostAlike_12 p k a (i + 1) mC else lp_Clock_mostAlike_12 p k (imx a (w32 (mC 107 (setS H S i p).toNat + 1))) (i + 1) (mst mC 107 (setS H S i p).toNat (w32 (mC 107 (setS H S i p).toNat + 1))) := by
        show bo_Clock_mostAlike_12 _ _ _ _ _ = _
        unfold bo_Clock_mostAlike_12 bo_Clock_mostAlike_68
        rw [if_pos (by omega), c1, bd_some, sightAt_eq hl.1 p0 p1 h2 (by omega), bd_some, w32_in (x := i + 1) (by omega) (by omega)]
        by_cases g : cbS mC i = 0
        · rw [if_pos g, if_pos g]
        · rw [if_neg g, if_neg g, if_pos (by omega), if_pos (by omega), bn_eq, if_pos (by omega), bn_eq, mst_hit]
      have eM : lp_Model_mostAlike_25 p (k' + 1) a i mM = if cbS mC i = 0 then lp_Model_mostAlike_25 p k' a (i + 1) mM else lp_Model_mostAlike_25 p k' (imx a (w32 (mM 255 (setS H S i p).toNat + 1))) (i + 1) (mst mM 255 (setS H S i p).toNat (w32 (mM 255 (setS H S i p).toNat + 1))) := by
        show bo_Model_mostAlike_25 _ _ _ _ _ = _
        unfold bo_Model_mostAlike_25 bo_Model_mostAlike_74
        rw [if_pos (by omega), c2, bd_some, m_thereAt hH hl.2.2.2.2 h2 (by omega), bd_some, w32_in (x := i + 1) (by omega) (by omega)]
        by_cases g : cbS mC i = 0
        · rw [if_pos g, if_pos g]
        · rw [if_neg g, if_neg g, if_pos (by omega), if_pos (by omega), bn_eq, if_pos (by omega), bn_eq, mst_hit]
      rw [eC, eM]
      by_cases g : cbS mC i = 0
      · rw [if_pos g, if_pos g]
        exact ih k k' a (i + 1) mC mM (by omega) (by omega) (by omega) (by omega) h5 h6 h7
      · rw [if_neg g, if_neg g, h7 (setS H S i p).toNat (by omega)]
        refine ih k k' _ (i + 1) _ _ (by omega) (by omega) (by omega) (by omega) (fun a ha => (mst_ne ha).trans (h5 a ha)) (fun a ha => (mst_ne ha).trans (h6 a ha)) (fun b hb => ?_)
        by_cases g2 : b = (setS H S i p).toNat
        · subst g2; rw [mst_hit, mst_hit]
        · rw [mst_miss g2, mst_miss g2]; exact h7 b hb
  exact key 240 FU FU 0 0 mC1 mM1 (by omega) (by omega) (by decide) (by decide) q1 z2 (fun k hk => by rw [q2 k hk, z3 k hk])
theorem call_look (hR : RR f m m) : Both (fn_Clock_look) (fn_Model_look) m := by
  refine q_rel hR (fun d hE hd => ?_)
  have hH := hR.2.2.1.1
  have hnn := hH.1
  have hc0 := RR_hc hR
  have hp := hR.2.2.1.2.1.2.1
  have hn := hR.2.2.2.2.2.1
  have er : ∀ k, 204 ≤ k → mst d 203 0 0 k = m k := fun k hk => by rw [mst_ne (by omega)]; exact hE k (by omega)
  have hq := th_FQM (d := d) (x := 0) (j := 0) (by omega) (by omega)
  have hq2 := th_FQM (d := mst d 203 0 0) (x := 0) (j := 0) (by omega) (by omega)
  have er2 : ∀ k, 204 ≤ k → mst (mst d 203 0 0) 203 0 0 k = m k := fun k hk => by rw [mst_ne (by omega)]; exact er k hk
  unfold fn_Clock_look fn_Model_look
  rw [bn_eq]
  unfold fn_Model_times
  rw [bn_eq, m_within, bd_some, if_neg (by decide : ¬ (0 : Int) < 0), if_neg (by decide : ¬ (2 : Int) < 0), if_neg (by decide : ¬ (1 : Int) = 0)]
  obtain ⟨r1, mC, e1, q1⟩ := c_look hR
  obtain ⟨r2, mM, e2, q2⟩ := m_go hR (FM2_mst (FM2_mst (EqM_FM2 hE))) (er2 245 (by omega))
  have hf := FR_FQM q2.2
  have hL := LK_of hR hE q1 q2.1
  rw [e1, e2, bd_some, bd_some, c_count0 hH hn hL 240 FU (-1) 0 0 (by omega) (by omega) (by decide), m_times0 hH hn hL 240 FU 0 (-1) (-1) 0 (by omega) (by omega) (by decide), bd_some]
  unfold bo_Clock_look_41
  generalize fld (fun u a => if cbS mC u = 0 then a else w32 (a + 1)) 240 0 0 = x0
  have key : ∀ (j n n' : Nat) (b l i : Int) (kC kM : Mm), i + j = m 205 0 → 0 ≤ i → j < n → j < n' → (∀ a, a ≠ 107 → kC a = mC a) → (∀ a, a ≠ 255 → kM a = mM a) → ∃ (x : Int) (mC' mM' : Mm), lp_Clock_look_43 n b l i kC = some (x, mC') ∧ lp_Model_look_15 n' l b i kM = some (x, mM') ∧ (∀ a, a ≠ 107 → mC' a = mC a) ∧ ∀ a, a ≠ 255 → mM' a = mM a := by
    intro j
    induction j with
    | zero =>
      intro n n' b l i kC kM h1 h2 h3 h4 h5 h6
      obtain ⟨k, rfl⟩ : ∃ k, n = k + 1 := ⟨n - 1, by omega⟩
      obtain ⟨k', rfl⟩ : ∃ k, n' = k + 1 := ⟨n' - 1, by omega⟩
      have hl := LK_step hL h5 h6
      have g0 : kC 0 2 = m 0 2 := by rw [h5 0 (by omega)]; exact q1.2.1.2.1 2 (by omega)
      have g1 : kC (m 0 2).toNat 0 = m 205 0 := by
        rw [h5 _ (by omega)]
        rcases hc0.2 with z | z <;> rw [z] at hp ⊢
        · rw [q1.2.1.1 4 (by omega) (by omega) (by omega) (by omega) (by omega) (by omega) (by omega)]; exact hp
        · rw [q1.2.1.1 41 (by omega) (by omega) (by omega) (by omega) (by omega) (by omega) (by omega)]; exact hp
      refine ⟨b, kC, kM, ?_, ?_, h5, h6⟩
      · show bo_Clock_look_43 _ _ _ _ _ = _
        unfold bo_Clock_look_43
        rw [g0, if_pos hc0.1, g1, if_neg (by omega)]
      · show bo_Model_look_15 _ _ _ _ _ = _
        unfold bo_Model_look_15
        rw [hl.2.2.2.2.1 205 (by omega) (by omega), tn0, if_neg (by omega)]
    | succ j ih =>
      intro n n' b l i kC kM h1 h2 h3 h4 h5 h6
      obtain ⟨k, rfl⟩ : ∃ k, n = k + 1 := ⟨n - 1, by omega⟩
      obtain ⟨k', rfl⟩ : ∃ k, n' = k + 1 := ⟨n' - 1, by omega⟩
      have hl := LK_step hL h5 h6
      have g0 : kC 0 2 = m 0 2 := by rw [h5 0 (by omega)]; exact q1.2.1.2.1 2 (by omega)
      have g1 : kC (m 0 2).toNat 0 = m 205 0 := by
        rw [h5 _ (by omega)]
        rcases hc0.2 with z | z <;> rw [z] at hp ⊢
        · rw [q1.2.1.1 4 (by omega) (by omega) (by omega) (by omega) (by omega) (by omega) (by omega)]; exact hp
        · rw [q1.2.1.1 41 (by omega) (by omega) (by omega) (by omega) (by omega) (by omega) (by omega)]; exact hp
      obtain ⟨x, kC', kM', x1, x2, x3, x4⟩ := mostAlike_rel hH hn hl h2 (by omega : i < 6)
      have eC : lp_Clock_look_43 (k + 1) b l i kC = if x < l then lp_Clock_look_43 k i x (i + 1) kC' else lp_Clock_look_43 k b l (i + 1) kC' := by
        show bo_Clock_look_43 _ _ _ _ _ = _
        unfold bo_Clock_look_43 bo_Clock_look_72
        rw [g0, if_pos hc0.1, g1, if_pos (by omega), x1, bd_some, w32_in (by omega) (by omega)]
      have eM : lp_Model_look_15 (k' + 1) l b i kM = if x < l then lp_Model_look_15 k' x i (i + 1) kM' else lp_Model_look_15 k' l b (i + 1) kM' := by
        show bo_Model_look_15 _ _ _ _ _ = _
        unfold bo_Model_look_15 bo_Model_look_46
        rw [hl.2.2.2.2.1 205 (by omega) (by omega), tn0, if_pos (by omega), x2, bd_some, w32_in (by omega) (by omega)]
      rw [eC, eM]
      by_cases g : x < l
      · rw [if_pos g, if_pos g]
        exact ih k k' _ _ _ _ _ (by omega) (by omega) (by omega) (by omega) (fun a ha => (x3 a ha).trans (h5 a ha)) (fun a ha => (x4 a ha).trans (h6 a ha))
      · rw [if_neg g, if_neg g]
        exact ih k k' _ _ _ _ _ (by omega) (by omega) (by omega) (by omega) (fun a ha => (x3 a ha).trans (h5 a ha)) (fun a ha => (x4 a ha).trans (h6 a ha))
  obtain ⟨x, mC', mM', x1, x2, x3, x4⟩ := key (m 205 0).toNat FU FU (-1) x0 0 mC mM (by omega) (by omega) (by show (m 205 0).toNat < 2000; omega) (by show (m 205 0).toNat < 2000; omega) (fun _ _ => rfl) (fun _ _ => rfl)
  refine ⟨x, TT_of x1 ⟨rfl, FQ_trans q1.2.1 ⟨fun a _ _ a1 _ _ _ _ => x3 a (by omega), fun j _ => by rw [x3 0 (by omega)], fun j _ => by rw [x3 14 (by omega)], fun j _ => by rw [x3 51 (by omega)]⟩, EqM_trans q1.2.2 (fun a ha => x3 a (by omega))⟩, TT_of x2 ⟨rfl, ?_, ?_⟩⟩
  · exact FQM_trans (FQM_trans (FQM_trans hq.1 hq2.1) hf.1) ⟨fun a _ _ _ a1 => x4 a (by omega), by rw [x4 203 (by omega)], by rw [x4 203 (by omega)]⟩
  · exact EqC_trans (EqC_trans (EqC_trans hq.2 hq2.2) hf.2) (fun a ha => x4 a (by omega))
end Ed
