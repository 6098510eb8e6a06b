/-! The readers' small steps, in both. -/
section Pr
def FPc (c c' : Mm) : Prop := (∀ a, a ≠ 1 → c' a = c a) ∧ c' 1 0 = c 1 0 ∧ c 1 7 ≤ c' 1 7
def FPm (d d' : Mm) : Prop := (∀ a, a ≠ 203 → d' a = d a) ∧ ∀ j, (j < 4 ∨ (9 < j ∧ j ≠ 42 ∧ j ≠ 43)) → d' 203 j = d 203 j
theorem FPc_refl {c : Mm} : FPc c c := ⟨fun _ _ => rfl, rfl, Int.le_refl _⟩
theorem FPm_refl {d : Mm} : FPm d d := ⟨fun _ _ => rfl, fun _ _ => rfl⟩
theorem FPc_trans {a b c : Mm} (h : FPc a b) (g : FPc b c) : FPc a c := ⟨fun k hk => (g.1 k hk).trans (h.1 k hk), g.2.1.trans h.2.1, Int.le_trans h.2.2 g.2.2⟩
theorem FPm_trans {a b c : Mm} (h : FPm a b) (g : FPm b c) : FPm a c := ⟨fun k hk => (g.1 k hk).trans (h.1 k hk), fun j hj => (g.2 j hj).trans (h.2 j hj)⟩
theorem FPc_of {c c' : Mm} (h : FKc c c') (h7 : c 1 7 ≤ c' 1 7) : FPc c c' := ⟨h.1, h.2.1, h7⟩
theorem FPm_of {c c' : Mm} (h : FKm c c') : FPm c c' := ⟨h.1, fun j hj => h.2 j (by omega)⟩
theorem FPc_mst {c : Mm} {j : Nat} {x : Int} (h : 1 ≤ j) (h7 : j ≠ 7) : FPc c (mst c 1 j x) := ⟨fun _ hk => mst_ne hk, mst_miss (by omega), by rw [mst_miss (by omega)]; exact Int.le_refl _⟩
theorem FPm_mst {c : Mm} {j : Nat} {x : Int} (h : (4 ≤ j ∧ j ≤ 9) ∨ j = 42 ∨ j = 43) : FPm c (mst c 203 j x) := ⟨fun _ hk => mst_ne hk, fun i hi => mst_miss (by omega)⟩
theorem Tk_mst {c d : Mm} {j : Nat} {x : Int} (h : TkR c d) (hj : j = 42 ∨ j = 43) : TkR c (mst d 203 j x) := by
  have e : ∀ i, i < 42 → mst d 203 j x 203 i = d 203 i := fun i hi => mst_miss (by omega)
  have e2 : mst d 203 j x 204 = d 204 := mst_ne (by omega)
  unfold TkR Sz at h ⊢
  rw [e 3 (by omega), e 4 (by omega), e 5 (by omega), e 6 (by omega), e 7 (by omega), e 8 (by omega), e2]
  exact h
/-- both stop at the same fault -/
def Wr (c d : Mm) : Prop := c 1 1 = d 203 9 ∧ 0 < c 1 1
theorem wrong_ok {c d : Mm} {p : Int} (h : TkR c d) (p0 : 1 ≤ p) (p1 : p ≤ 5) : ∃ c' d', fn_Tape_wrong p c = some (0, c') ∧ fn_Model_fails p d = some (0, d') ∧ FPc c c' ∧ FPm d d' ∧ Wr c' d' := by
  obtain ⟨s, h1, h2, h3, h4, h5, -⟩ := h
  have s3 := s.2.2.1
  unfold fn_Tape_wrong fn_Model_fails
  rw [← h1, w32_in (x := 16 * c 1 7) (by omega) (by omega), w32_in (x := p + 16 * c 1 7) (by omega) (by omega), bn_eq, bn_eq]
  refine ⟨_, _, rfl, rfl, FPc_mst (by omega) (by omega), FPm_mst (by omega), ?_, ?_⟩
  · rw [mst_hit, mst_hit]
  · rw [mst_hit]; omega
/-- both go on, or both stop -/
def PR (oc om : Res) (c d : Mm) : Prop := ∃ r c' d', oc = some (r, c') ∧ om = some (r, d') ∧ FPc c c' ∧ FPm d d' ∧ ((r = 1 ∧ TkR c' d' ∧ c' 1 1 = c 1 1) ∨ (r = 0 ∧ Wr c' d'))
theorem Tk_next {c d : Mm} (h : TkR c d) : ∃ c' d', fn_Tape_step c = some (0, c') ∧ fn_Model_nextToken d = some (0, d') ∧ TkR c' d' ∧ FKc c c' ∧ FKm d d' ∧ c 1 8 ≤ c' 1 7 := next_ok h.1 h.2.2.1 (by have := h.2.2.2; omega) h.2.2.2.2.2.1
theorem sign_eq {c d : Mm} {p : Int} (h : TkR c d) : ∃ b, fn_Tape_isSign p c = some (b, c) ∧ fn_Model_isSign p d = some (b, d) ∧ (b = 0 ∨ b = 1) := by
  obtain ⟨s, h1, h2, h3, h4, h5, h6⟩ := h
  have s3 := s.2.2.1
  unfold fn_Tape_isSign fn_Model_isSign
  by_cases y : c 1 6 = 4
  · have y2 : d 203 6 = 3 := by omega
    obtain ⟨e1, -⟩ := s.2.2.2 (c 1 7) h3 (by omega)
    rw [if_pos y, if_pos y2, ← h1, if_pos (by omega : 0 ≤ c 1 7 ∧ c 1 7 < 1000), if_pos (by omega : 0 ≤ c 1 7 ∧ c 1 7 < 1000), ← e1]
    by_cases z : c 2 (c 1 7).toNat = p
    · rw [if_pos z, if_pos z]; exact ⟨1, rfl, rfl, Or.inr rfl⟩
    · rw [if_neg z, if_neg z]; exact ⟨0, rfl, rfl, Or.inl rfl⟩
  · rw [if_neg y, if_neg (by omega)]
    exact ⟨0, rfl, rfl, Or.inl rfl⟩
theorem sign_ok {c d : Mm} (h : TkR c d) : PR (fn_Tape_takeSign 59 c) (fn_Model_closes d) c d := by
  obtain ⟨b, e1, e2, hb⟩ := sign_eq (p := 59) h
  unfold fn_Tape_takeSign fn_Model_closes
  rw [e1, e2, bd_some, bd_some]
  by_cases y : b = 0
  · obtain ⟨c', d', w1, w2, w3, w4, w5⟩ := wrong_ok (p := 1) h (by omega) (by omega)
    rw [if_pos y, if_pos y, w1, w2, bd_some, bd_some, if_pos (Or.inl rfl), if_pos (Or.inl rfl)]
    exact ⟨0, c', d', rfl, rfl, w3, w4, Or.inr ⟨rfl, w5⟩⟩
  · obtain ⟨c', d', w1, w2, w3, w4, w5, w6⟩ := Tk_next h
    rw [if_neg y, if_neg y, w1, w2, bd_some, bd_some]
    exact ⟨1, c', d', rfl, rfl, FPc_of w4 (by have := h.2.2.2.2.1; omega), FPm_of w5, Or.inl ⟨rfl, w3, w4.2.2⟩⟩
/-- which word -/
theorem word_iff {c d : Mm} {k : Nat} (h : TkR c d) (hk : k < 29) : (d 203 6 = 1 ∧ d 203 7 = wdM.getD k 0) ↔ c 1 2 = -(k : Int) - 2 := by
  obtain ⟨s, h1, h2, h3, h4, h5, h6⟩ := h
  rcases h6 with h6 | ⟨-, h6 | h6 | h6 | h6⟩
  · constructor
    · intro z; omega
    · intro z; omega
  · obtain ⟨q1, q2, q3, q4⟩ := h6
    have := wdk_iff (x := c 1 3) hk
    have n := Nm_iff q3 (wd_Nm hk)
    rw [q4, this, n]
    exact ⟨fun z => z.2, fun z => ⟨q2, z⟩⟩
  · constructor
    · intro z; omega
    · intro z; omega
  · constructor
    · intro z; omega
    · intro z; omega
  · constructor
    · intro z; omega
    · intro z; omega
theorem m_isWord {c d : Mm} {k : Nat} {x : Int} (h : TkR c d) (hk : k < 29) (hx : wdM.getD k 0 = x) : fn_Model_isWord x d = some (if c 1 2 = -(k : Int) - 2 then 1 else 0, d) := by
  have := word_iff h hk
  rw [hx] at this
  unfold fn_Model_isWord
  by_cases y : d 203 6 = 1
  · rw [if_pos y]
    by_cases z : d 203 7 = x
    · rw [if_pos (lcm_0.mpr z), if_pos (this.mp ⟨y, z⟩)]
    · rw [if_neg (fun q => z (lcm_0.mp q)), if_neg (fun q => z (this.mpr q).2)]
  · rw [if_neg y, if_neg (fun q => y (this.mpr q).1)]
theorem word_ok {c d : Mm} {k : Nat} {x w : Int} (h : TkR c d) (hk : k < 29) (hx : wdM.getD k 0 = x) (hw : w = -(k : Int) - 2) : PR (fn_Tape_take w c) (fn_Model_needsWord x d) c d := by
  unfold fn_Tape_take fn_Model_needsWord
  rw [m_isWord h hk hx, ← hw, bd_some]
  by_cases y : c 1 2 = w
  · obtain ⟨c', d', w1, w2, w3, w4, w5, w6⟩ := Tk_next h
    rw [if_pos y, if_pos y, if_neg (by decide : ¬ (1 : Int) = 0), w1, w2, bd_some, bd_some]
    exact ⟨1, c', d', rfl, rfl, FPc_of w4 (by have := h.2.2.2.2.1; omega), FPm_of w5, Or.inl ⟨rfl, w3, w4.2.2⟩⟩
  · obtain ⟨c', d', w1, w2, w3, w4, w5⟩ := wrong_ok (p := 1) h (by omega) (by omega)
    rw [if_neg y, if_neg y, if_pos rfl, w1, w2, bd_some, bd_some, if_pos (Or.inl rfl), if_pos (Or.inl rfl)]
    exact ⟨0, c', d', rfl, rfl, w3, w4, Or.inr ⟨rfl, w5⟩⟩
theorem number_ok {c d : Mm} {lo hi : Int} (h : TkR c d) (l0 : 0 ≤ lo) : ∃ r r' c' d', fn_Tape_takeNumber lo hi c = some (r, c') ∧ fn_Model_needsNumber lo hi d = some (r', d') ∧ FPc c c' ∧ FPm d d' ∧ ((r' = 1 ∧ lo ≤ r ∧ r ≤ hi ∧ d' 203 42 = r ∧ TkR c' d' ∧ c' 1 1 = c 1 1) ∨ (r' = 0 ∧ r = -1 ∧ Wr c' d')) := by
  have h' := h
  obtain ⟨s, h1, h2, h3, h4, h5, h6⟩ := h
  unfold fn_Tape_takeNumber fn_Model_needsNumber bo_Tape_takeNumber_23 bo_Tape_takeNumber_36
  by_cases y : c 1 6 = 3
  · have y2 : d 203 6 = 2 ∧ c 1 4 = d 203 8 := by omega
    have eN : fn_Tape_isNumber c = some (1, c) := by unfold fn_Tape_isNumber; rw [if_pos y]
    rw [eN, if_pos y2.1, bd_some, if_neg (by decide : ¬ (1 : Int) = 0), eN, bd_some, if_neg (by decide : ¬ (1 : Int) = 0), m_within, bd_some, ← y2.2]
    obtain ⟨c', d', w1, w2, w3, w4, w5⟩ := wrong_ok (p := 4) h' (by omega) (by omega)
    by_cases z1 : c 1 4 < lo
    · rw [if_pos z1, if_pos z1, if_pos rfl, w1, w2, bd_some, bd_some, if_pos (Or.inl rfl)]
      exact ⟨-1, 0, c', d', rfl, rfl, w3, w4, Or.inr ⟨rfl, rfl, w5⟩⟩
    · rw [if_neg z1, if_neg z1]
      by_cases z2 : hi < c 1 4
      · rw [if_pos z2, if_pos z2, if_pos rfl, w1, w2, bd_some, bd_some, if_pos (Or.inl rfl)]
        exact ⟨-1, 0, c', d', rfl, rfl, w3, w4, Or.inr ⟨rfl, rfl, w5⟩⟩
      · rw [if_neg z2, if_neg z2, if_neg (by decide : ¬ (1 : Int) = 0), bn_eq, bn_eq]
        obtain ⟨c2, d2, v1, v2, v3, v4, v5, v6⟩ := Tk_next (Tk_mst (x := c 1 4) h' (Or.inl rfl) (j := 42))
        rw [v1, v2, bd_some, bd_some]
        refine ⟨c 1 4, 1, c2, d2, rfl, rfl, FPc_of v4 (by have := h'.2.2.2.2.1; omega), FPm_trans (FPm_mst (by omega)) (FPm_of v5), Or.inl ⟨rfl, by omega, by omega, ?_, v3, v4.2.2⟩⟩
        rw [v5.2 42 (by omega), mst_hit]
  · have y2 : ¬ d 203 6 = 2 := by omega
    obtain ⟨c', d', w1, w2, w3, w4, w5⟩ := wrong_ok (p := 1) h' (by omega) (by omega)
    have eN : fn_Tape_isNumber c = some (0, c) := by unfold fn_Tape_isNumber; rw [if_neg y]
    rw [eN, if_neg y2, bd_some, if_pos rfl, eN, bd_some, if_pos rfl, w1, w2, bd_some, bd_some, if_pos (Or.inl rfl)]
    exact ⟨-1, 0, c', d', rfl, rfl, w3, w4, Or.inr ⟨rfl, rfl, w5⟩⟩
end Pr
