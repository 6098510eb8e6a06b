/-! Hills: line after line. -/
section Hl2
variable {hc : Nat}
theorem cl_eq {A : Res} {B : Mm → Res} {K : Int → Mm → Res} : (bd A fun r4 m5 => if r4 = 0 then K 0 m5 else bd (B m5) fun r6 m7 => if r6 = 0 then K 0 m7 else K 1 m7) = bd (bd A fun r m => if r = 0 then some (0, m) else bd (B m) fun r m => if r = 0 then some (0, m) else some (1, m)) K := by
  cases A with
  | none => rfl
  | some p =>
    obtain ⟨r, m⟩ := p
    rw [bd_some, bd_some]
    by_cases z : r = 0
    · rw [if_pos z, if_pos z, bd_some]
    · rw [if_neg z, if_neg z]
      cases B m with
      | none => rfl
      | some q =>
        obtain ⟨r2, m2⟩ := q
        rw [bd_some, bd_some]
        by_cases y : r2 = 0
        · rw [if_pos y, if_pos y, bd_some]
        · rw [if_neg y, if_neg y, bd_some]
theorem line_pick {c d : Mm} {p1 : Nat} {k28 : Int → Int → Mm → Res} {k72 : Mm → Res} {v3 : Int} (h : TkR c d) (hk : ¬ c 1 6 = 1) (hH : HR hc c d) (v1 : v3 < 1000) : ∃ oc om, LR0 hc c d oc om ∧ bo_HillsReader_read_28 p1 k28 1 v3 c = bd oc (fun r m => k28 r (w32 (v3 + 1)) m) ∧ bo_Model_readsAll_72 k72 d = bd om (fun r m => bo_Model_readsAll_186 k72 r m) := by
  have hK : isK 0 (c 3 1) = true := isK0 (by have := hH.1; have := hH.2.1; omega)
  have e3 : (c 3 1).toNat = hc := by have := hH.2.1; omega
  have hd : ¬ d 203 6 = 0 := by
    rcases Tk_end h with ⟨q1, q2⟩ | ⟨q1, q2⟩
    · exact absurd q1 hk
    · exact q2
  have eE : fn_Tape_isEnd c = some (0, c) := by
    unfold fn_Tape_isEnd
    rw [if_neg hk]
  unfold bo_HillsReader_read_28 bo_Model_readsAll_72 bo_HillsReader_read_91 bo_HillsReader_read_92 bo_HillsReader_read_127 bo_HillsReader_read_128 bo_HillsReader_read_165 bo_HillsReader_read_166 bo_HillsReader_read_203 bo_HillsReader_read_204 bo_HillsReader_read_241 bo_HillsReader_read_242 bo_HillsReader_read_269
  rw [if_pos v1, if_neg (by decide : ¬ (1 : Int) = 0), eE, bd_some, if_pos rfl, if_neg hd, m_isW (k := 0) (x := 8740067) (w := -2) h (by decide) rfl (by decide), bd_some]
  by_cases y0 : c 1 2 = -2
  · rw [if_pos y0, if_pos y0, if_neg (by decide : ¬ (1 : Int) = 0), if_pos hK, e3]
    exact ⟨_, _, place_line h hk hH, cl_eq (A := fn_HillsReader_canBegin (c hc 0) c) (B := fn_HillsReader_readPlace) (K := fun r m => k28 r (w32 (v3 + 1)) m), rfl⟩
  · rw [if_neg y0, if_neg y0, if_pos rfl, m_isW (k := 1) (x := 316205) (w := -3) h (by decide) rfl (by decide), bd_some]
    by_cases y1 : c 1 2 = -3
    · rw [if_pos y1, if_pos y1, if_neg (by decide : ¬ (1 : Int) = 0)]
      exact ⟨_, _, LR0_of hH (path_line h hk hH), cl_eq (A := fn_Tape_take (c 1 2) c) (B := fn_HillsReader_readPath) (K := fun r m => k28 r (w32 (v3 + 1)) m), rfl⟩
    · rw [if_neg y1, if_neg y1, if_pos rfl, m_isW (k := 2) (x := 330800670) (w := -4) h (by decide) rfl (by decide), bd_some]
      by_cases y2 : c 1 2 = -4
      · rw [if_pos y2, if_pos y2, if_neg (by decide : ¬ (1 : Int) = 0), if_pos hK, e3]
        exact ⟨_, _, LR0_of hH (walker_line h hk hH), cl_eq (A := fn_HillsReader_canBegin (c hc 1) c) (B := fn_HillsReader_readWalker) (K := fun r m => k28 r (w32 (v3 + 1)) m), rfl⟩
      · rw [if_neg y2, if_neg y2, if_pos rfl, m_isW (k := 7) (x := 12249946) (w := -9) h (by decide) rfl (by decide), bd_some]
        by_cases y3 : c 1 2 = -9
        · rw [if_pos y3, if_pos y3, if_neg (by decide : ¬ (1 : Int) = 0), if_pos hK, e3]
          exact ⟨_, _, LR0_of hH (waits_line h hk hH), cl_eq (A := fn_HillsReader_canBegin (c hc 4) c) (B := fn_HillsReader_readWaits) (K := fun r m => k28 r (w32 (v3 + 1)) m), rfl⟩
        · rw [if_neg y3, if_neg y3, if_pos rfl, m_isW (k := 10) (x := 168984) (w := -12) h (by decide) rfl (by decide), bd_some]
          by_cases y4 : c 1 2 = -12
          · rw [if_pos y4, if_pos y4, if_neg (by decide : ¬ (1 : Int) = 0), if_pos hK, e3]
            exact ⟨_, _, LR0_of hH (hour_line h hk hH), cl_eq (A := fn_HillsReader_canBegin (c hc 2) c) (B := fn_HillsReader_readHour) (K := fun r m => k28 r (w32 (v3 + 1)) m), rfl⟩
          · rw [if_neg y4, if_neg y4, if_pos rfl, m_isW (k := 13) (x := 191706727) (w := -15) h (by decide) rfl (by decide), bd_some]
            by_cases y5 : c 1 2 = -15
            · rw [if_pos y5, if_pos y5, if_neg (by decide : ¬ (1 : Int) = 0)]
              exact ⟨_, _, LR0_of hH (missed_line h hk hH), rfl, rfl⟩
            · obtain ⟨c', d', w1, w2, w3, w4, w5⟩ := wrong_ok (p := 1) h (by omega) (by omega)
              rw [if_neg y5, if_neg y5, if_pos rfl]
              exact ⟨_, _, LR0_of hH ⟨0, c', d', w1, w2, FXc_p w3, FXm_p w4, Or.inr ⟨rfl, w5⟩⟩, rfl, rfl⟩
theorem lines_loop {p1 : Nat} : ∀ (j k k' : Nat) (c d : Mm) (v3 : Int), 1000 - c 1 7 < j → j < k → j < k' → 0 ≤ v3 → v3 ≤ c 1 7 → TkR c d → HR hc c d → c 1 1 = 0 →
    ∃ b c1 d1, lp_HillsReader_read_28 p1 k 1 v3 c = bo_HillsReader_read_276 p1 c1 ∧ lp_Model_readsAll_72 k' d = some (b, d1) ∧ FXc (PH0 hc) c c1 ∧ FXm QH d d1 ∧ (0 ≤ c1 hc 0 ∧ c1 hc 0 ≤ 6) ∧ ((b = 1 ∧ HR hc c1 d1 ∧ c1 1 1 = 0) ∨ (b = 0 ∧ Wr c1 d1)) := by
  intro j
  induction j with
  | zero =>
    intro k k' c d v3 h1 h2 h3 h4 h5 t
    have := t.1.2.2.1
    have := t.2.2.2.2
    omega
  | succ j ih =>
    intro k k' c d v3 h1 h2 h3 h4 h5 t hH e11
    obtain ⟨k, rfl⟩ : ∃ t, k = t + 1 := ⟨k - 1, by omega⟩
    obtain ⟨k', rfl⟩ : ∃ t, k' = t + 1 := ⟨k' - 1, by omega⟩
    have eC : ∀ v2 v m, lp_HillsReader_read_28 p1 (k + 1) v2 v m = bo_HillsReader_read_28 p1 (lp_HillsReader_read_28 p1 k) v2 v m := fun _ _ _ => rfl
    have eM : lp_Model_readsAll_72 (k' + 1) d = bo_Model_readsAll_72 (lp_Model_readsAll_72 k') d := rfl
    rcases Tk_end t with ⟨q1, q2⟩ | ⟨q1, q2⟩
    · refine ⟨1, c, d, ?_, ?_, FXc_refl, FXm_refl, hH.2.2.1.2.2.2.1, Or.inl ⟨rfl, hH, e11⟩⟩
      · rw [eC]
        unfold bo_HillsReader_read_28 fn_Tape_isEnd
        by_cases z : v3 < 1000
        · rw [if_pos z, if_neg (by decide : ¬ (1 : Int) = 0), if_pos q1, bd_some, if_neg (by decide : ¬ (1 : Int) = 0)]
        · rw [if_neg z]
      · rw [eM]
        unfold bo_Model_readsAll_72
        rw [if_pos q2]
    · have hv : v3 < 1000 := by
        obtain ⟨s, g1, g2, g3, g4, g5, g6⟩ := t
        have := s.2.2.1
        omega
      obtain ⟨oc, om, L, x1, x2⟩ := line_pick (p1 := p1) (k28 := lp_HillsReader_read_28 p1 k) (k72 := lp_Model_readsAll_72 k') (v3 := v3) t q1 hH hv
      obtain ⟨r, c', d', e1, e2, e3, e4, e6, e5⟩ := L
      rw [eC, eM, x1, x2, e1, e2, bd_some, bd_some, w32_in (x := v3 + 1) (by omega) (by omega)]
      unfold bo_Model_readsAll_186
      rcases e5 with ⟨y, f1, f2, f3, f4⟩ | ⟨y, f1⟩
      · subst y
        rw [if_neg (by decide : ¬ (1 : Int) = 0)]
        obtain ⟨b, c1, d1, g1, g2, g3, g4, g5⟩ := ih k k' c' d' (v3 + 1) (by omega) (by omega) (by omega) (by omega) (by omega) f1 f3 (f2.trans e11)
        exact ⟨b, c1, d1, g1, g2, FXc_trans e3 g3, FXm_trans e4 g4, g5⟩
      · subst y
        rw [if_pos rfl]
        obtain ⟨k, rfl⟩ : ∃ t, k = t + 1 := ⟨k - 1, by omega⟩
        refine ⟨0, c', d', ?_, rfl, e3, e4, e6, Or.inr ⟨rfl, f1⟩⟩
        show bo_HillsReader_read_28 p1 _ 0 (v3 + 1) c' = _
        unfold bo_HillsReader_read_28
        by_cases z : v3 + 1 < 1000
        · rw [if_pos z, if_pos rfl]
        · rw [if_neg z]
end Hl2
