/-! One token of the tape, in both. -/
section Tk
def FKc (c c' : Mm) : Prop := (∀ a, a ≠ 1 → c' a = c a) ∧ c' 1 0 = c 1 0 ∧ c' 1 1 = c 1 1
def FKm (d d' : Mm) : Prop := (∀ a, a ≠ 203 → d' a = d a) ∧ ∀ j, (j < 4 ∨ 8 < j) → d' 203 j = d 203 j
theorem FKc_refl {c : Mm} : FKc c c := ⟨fun _ _ => rfl, rfl, rfl⟩
theorem FKm_refl {d : Mm} : FKm d d := ⟨fun _ _ => rfl, fun _ _ => rfl⟩
theorem FKc_trans {a b c : Mm} (h : FKc a b) (g : FKc b c) : FKc a c := ⟨fun k hk => (g.1 k hk).trans (h.1 k hk), g.2.1.trans h.2.1, g.2.2.trans h.2.2⟩
theorem FKm_trans {a b c : Mm} (h : FKm a b) (g : FKm b c) : FKm a c := ⟨fun k hk => (g.1 k hk).trans (h.1 k hk), fun j hj => (g.2 j hj).trans (h.2 j hj)⟩
theorem FKc_mst {c : Mm} {j : Nat} {x : Int} (h : 2 ≤ j) : FKc c (mst c 1 j x) := ⟨fun _ hk => mst_ne hk, mst_miss (by omega), mst_miss (by omega)⟩
theorem FKm_mst {c : Mm} {j : Nat} {x : Int} (h : 4 ≤ j) (h2 : j ≤ 8) : FKm c (mst c 203 j x) := ⟨fun _ hk => mst_ne hk, fun i hi => mst_miss (by omega)⟩
/-- the same signs, and as many -/
def Sz (c d : Mm) : Prop := c 1 0 = d 203 3 ∧ 0 ≤ c 1 0 ∧ c 1 0 ≤ 1000 ∧ ∀ i : Int, 0 ≤ i → i < c 1 0 → c 2 i.toNat = d 204 i.toNat ∧ isF (c 2 i.toNat)
theorem Sz_congr {c c' d d' : Mm} (h : Sz c d) (hc : FKc c c') (hm : FKm d d') : Sz c' d' := by
  unfold Sz at h ⊢
  rw [hc.2.1, hc.1 2 (by omega), hm.1 204 (by omega), hm.2 3 (by omega)]
  exact h
theorem isF_r {x : Int} (h : isF x) : 0 ≤ x ∧ x ≤ 126 := by unfold isF at h; omega
def isB (x : Int) : Prop := x = 10 ∨ x = 32
theorem skip_ok : ∀ (j n n' : Nat) (c d : Mm), Sz c d → c 1 7 = d 203 4 → 0 ≤ c 1 7 → c 1 7 + j = c 1 0 → j < n → j < n' →
    ∃ c1 d1, lp_Tape_step_8 n c = bo_Tape_step_47 c1 ∧ lp_Model_nextToken_0 n' d = bo_Model_nextToken_52 d1 ∧ FKc c c1 ∧ FKm d d1 ∧ c1 1 7 = d1 203 4 ∧ c 1 7 ≤ c1 1 7 ∧ c1 1 7 ≤ c1 1 0 := by
  intro j
  induction j with
  | zero =>
    intro n n' c d h1 h2 h3 h4 h5 h6
    obtain ⟨k, rfl⟩ : ∃ k, n = k + 1 := ⟨n - 1, by omega⟩
    obtain ⟨k', rfl⟩ : ∃ k, n' = k + 1 := ⟨n' - 1, by omega⟩
    refine ⟨c, d, ?_, ?_, FKc_refl, FKm_refl, h2, Int.le_refl _, by omega⟩
    · show bo_Tape_step_8 _ c = _
      unfold bo_Tape_step_8
      rw [if_neg (by omega)]
    · show bo_Model_nextToken_0 _ d = _
      unfold bo_Model_nextToken_0
      have := h1.1
      rw [if_neg (by omega)]
  | succ j ih =>
    intro n n' c d h1 h2 h3 h4 h5 h6
    obtain ⟨k, rfl⟩ : ∃ k, n = k + 1 := ⟨n - 1, by omega⟩
    obtain ⟨k', rfl⟩ : ∃ k, n' = k + 1 := ⟨n' - 1, by omega⟩
    obtain ⟨s1, s2, s3, s4⟩ := h1
    obtain ⟨e1, e2⟩ := s4 (c 1 7) h3 (by omega)
    have eC : lp_Tape_step_8 (k + 1) c = if c 2 (c 1 7).toNat = 10 ∨ c 2 (c 1 7).toNat = 32 then lp_Tape_step_8 k (mst c 1 7 (c 1 7 + 1)) else bo_Tape_step_47 c := by
      show bo_Tape_step_8 _ c = _
      unfold bo_Tape_step_8 fn_Tape_isBlank
      rw [if_pos (by omega : c 1 7 < c 1 0), if_pos (by omega : 0 ≤ c 1 7 ∧ c 1 7 < 1000)]
      by_cases y1 : c 2 (c 1 7).toNat = 10
      · rw [if_pos y1, bd_some, if_neg (by decide : ¬ (1 : Int) = 0), if_pos (Or.inl y1), w32_in (by omega) (by omega), bn_eq]
      · rw [if_neg y1]
        by_cases y2 : c 2 (c 1 7).toNat = 32
        · rw [if_pos y2, bd_some, if_neg (by decide : ¬ (1 : Int) = 0), if_pos (Or.inr y2), w32_in (by omega) (by omega), bn_eq]
        · rw [if_neg y2, bd_some, if_pos rfl, if_neg (by omega)]
    have eM : lp_Model_nextToken_0 (k' + 1) d = if c 2 (c 1 7).toNat = 10 ∨ c 2 (c 1 7).toNat = 32 then lp_Model_nextToken_0 k' (mst d 203 4 (c 1 7 + 1)) else bo_Model_nextToken_52 d := by
      show bo_Model_nextToken_0 _ d = _
      unfold bo_Model_nextToken_0 bo_Model_nextToken_39
      rw [← h2, if_pos (by omega : c 1 7 < d 203 3), if_pos (by omega : 0 ≤ c 1 7 ∧ c 1 7 < 1000), ← e1, w32_in (by omega) (by omega)]
      by_cases y2 : c 2 (c 1 7).toNat = 32
      · rw [if_pos y2, if_pos (Or.inr y2), bn_eq]
      · rw [if_neg y2, if_pos (by omega : 0 ≤ c 1 7 ∧ c 1 7 < 1000)]
        by_cases y1 : c 2 (c 1 7).toNat = 10
        · rw [if_pos y1, if_pos (Or.inl y1), bn_eq]
        · rw [if_neg y1, if_neg (by omega)]
    rw [eC, eM]
    by_cases y : c 2 (c 1 7).toNat = 10 ∨ c 2 (c 1 7).toNat = 32
    · rw [if_pos y, if_pos y]
      have f1 : FKc c (mst c 1 7 (c 1 7 + 1)) := FKc_mst (by omega)
      have f2 : FKm d (mst d 203 4 (c 1 7 + 1)) := FKm_mst (by omega) (by omega)
      obtain ⟨c1, d1, g1, g2, g3, g4, g5, g6, g7⟩ := ih k k' (mst c 1 7 (c 1 7 + 1)) (mst d 203 4 (c 1 7 + 1)) (Sz_congr ⟨s1, s2, s3, s4⟩ f1 f2) (by rw [mst_hit, mst_hit]) (by rw [mst_hit]; omega) (by rw [mst_hit, f1.2.1]; omega) (by omega) (by omega)
      rw [mst_hit] at g6
      exact ⟨c1, d1, g1, g2, FKc_trans f1 g3, FKm_trans f2 g4, g5, by omega, g7⟩
    · rw [if_neg y, if_neg y]
      exact ⟨c, d, rfl, rfl, FKc_refl, FKm_refl, h2, Int.le_refl _, by omega⟩
def WdI (c d : Mm) : Prop := c 1 8 - c 1 7 ≤ 8 → ∃ l : List Int, (l.length : Int) = c 1 8 - c 1 7 ∧ dig l ∧ c 1 3 = pk 32 l ∧ d 203 7 = pk 27 l
theorem letters_ok : ∀ (j n n' : Nat) (c d : Mm), Sz c d → c 1 8 = d 203 4 → c 1 7 = d 203 5 → 0 ≤ c 1 7 → c 1 7 ≤ c 1 8 → c 1 8 + j = c 1 0 → j < n → j < n' → WdI c d →
    ∃ c1 d1, lp_Tape_stepOverWord_5 n c = bo_Tape_stepOverWord_70 c1 ∧ lp_Model_nextToken_109 n' d = bo_Model_nextToken_188 d1 ∧ FKc c c1 ∧ FKm d d1 ∧ c1 1 7 = c 1 7 ∧ c1 1 2 = c 1 2 ∧ d1 203 5 = d 203 5 ∧ c1 1 8 = d1 203 4 ∧ c 1 8 ≤ c1 1 8 ∧ c1 1 8 ≤ c1 1 0 ∧ WdI c1 d1 ∧ (0 < j → 97 ≤ c 2 (c 1 8).toNat → c 2 (c 1 8).toNat ≤ 122 → c 1 8 < c1 1 8) := by
  intro j
  induction j with
  | zero =>
    intro n n' c d h1 h2 h2' h3 h3' h4 h5 h6 h7
    obtain ⟨k, rfl⟩ : ∃ k, n = k + 1 := ⟨n - 1, by omega⟩
    obtain ⟨k', rfl⟩ : ∃ k, n' = k + 1 := ⟨n' - 1, by omega⟩
    refine ⟨c, d, ?_, ?_, FKc_refl, FKm_refl, rfl, rfl, rfl, h2, Int.le_refl _, by omega, h7, fun z => absurd z (by omega)⟩
    · show bo_Tape_stepOverWord_5 _ c = _
      unfold bo_Tape_stepOverWord_5
      rw [if_neg (by omega)]
    · show bo_Model_nextToken_109 _ d = _
      unfold bo_Model_nextToken_109 fn_Model_signAt
      have := h1.1
      rw [if_neg (by omega : ¬ d 203 4 < d 203 3), bd_some, if_pos (by decide)]
  | succ j ih =>
    intro n n' c d h1 h2 h2' h3 h3' h4 h5 h6 h7
    obtain ⟨k, rfl⟩ : ∃ k, n = k + 1 := ⟨n - 1, by omega⟩
    obtain ⟨k', rfl⟩ : ∃ k, n' = k + 1 := ⟨n' - 1, by omega⟩
    obtain ⟨s1, s2, s3, s4⟩ := h1
    obtain ⟨e1, e2⟩ := s4 (c 1 8) (by omega) (by omega)
    have r2 := isF_r e2
    have eC : lp_Tape_stepOverWord_5 (k + 1) c = if 97 ≤ c 2 (c 1 8).toNat ∧ c 2 (c 1 8).toNat ≤ 122 then lp_Tape_stepOverWord_5 k (mst (mst c 1 3 (lor (lshl (c 1 3) 5) (w32 (w32 (c 2 (c 1 8).toNat - 97) + 1)))) 1 8 (c 1 8 + 1)) else bo_Tape_stepOverWord_70 c := by
      show bo_Tape_stepOverWord_5 _ c = _
      unfold bo_Tape_stepOverWord_5 fn_Tape_isLetter
      rw [if_pos (by omega : c 1 8 < c 1 0), if_pos (by omega : 0 ≤ c 1 8 ∧ c 1 8 < 1000)]
      by_cases y1 : c 2 (c 1 8).toNat < 97
      · rw [if_pos y1, bd_some, if_pos rfl, if_neg (by omega)]
      · rw [if_neg y1]
        by_cases y2 : 122 < c 2 (c 1 8).toNat
        · rw [if_pos y2, bd_some, if_pos rfl, if_neg (by omega)]
        · rw [if_neg y2, bd_some, if_neg (by decide : ¬ (1 : Int) = 0), if_pos (by omega : 0 ≤ c 1 8 ∧ c 1 8 < 1000), if_pos (by omega : 97 ≤ c 2 (c 1 8).toNat ∧ c 2 (c 1 8).toNat ≤ 122), bn_eq, bn_eq, mst_miss (by omega), w32_in (x := c 1 8 + 1) (by omega) (by omega)]
    have eM : lp_Model_nextToken_109 (k' + 1) d = if 97 ≤ c 2 (c 1 8).toNat ∧ c 2 (c 1 8).toNat ≤ 122 then lp_Model_nextToken_109 k' (mst (if c 1 8 - c 1 7 < 8 then mst d 203 7 (w64 (w64 (w64 (d 203 7 * 27) + c 2 (c 1 8).toNat) - 96)) else d) 203 4 (c 1 8 + 1)) else bo_Model_nextToken_188 d := by
      show bo_Model_nextToken_109 _ d = _
      have eS : fn_Model_signAt (c 1 8) d = some (c 2 (c 1 8).toNat, d) := by
        unfold fn_Model_signAt
        rw [if_pos (by omega), if_pos (by omega), e1]
      unfold bo_Model_nextToken_109 bo_Model_nextToken_175
      rw [← h2, eS, bd_some]
      by_cases y1 : c 2 (c 1 8).toNat < 97
      · rw [if_pos y1, if_neg (by omega)]
      · rw [if_neg y1, ← h2, eS, bd_some]
        by_cases y2 : 122 < c 2 (c 1 8).toNat
        · rw [if_pos y2, if_neg (by omega)]
        · rw [if_neg y2, if_pos (by omega : 97 ≤ c 2 (c 1 8).toNat ∧ c 2 (c 1 8).toNat ≤ 122), ← h2, ← h2', w32_in (x := c 1 8 - c 1 7) (by omega) (by omega)]
          by_cases y3 : c 1 8 - c 1 7 < 8
          · rw [if_pos y3, if_pos y3, eS, bd_some, bn_eq, bn_eq, mst_miss (by omega), ← h2, w32_in (x := c 1 8 + 1) (by omega) (by omega)]
          · rw [if_neg y3, if_neg y3, bn_eq, w32_in (x := c 1 8 + 1) (by omega) (by omega)]
    rw [eC, eM]
    by_cases y : 97 ≤ c 2 (c 1 8).toNat ∧ c 2 (c 1 8).toNat ≤ 122
    · rw [if_pos y, if_pos y]
      generalize hcc : mst (mst c 1 3 (lor (lshl (c 1 3) 5) (w32 (w32 (c 2 (c 1 8).toNat - 97) + 1)))) 1 8 (c 1 8 + 1) = cc
      generalize hdd : mst (if c 1 8 - c 1 7 < 8 then mst d 203 7 (w64 (w64 (w64 (d 203 7 * 27) + c 2 (c 1 8).toNat) - 96)) else d) 203 4 (c 1 8 + 1) = dd
      have f1 : FKc c cc := by rw [← hcc]; exact FKc_trans (FKc_mst (by omega)) (FKc_mst (by omega))
      have f2 : FKm d dd := by
        rw [← hdd]
        refine FKm_trans ?_ (FKm_mst (by omega) (by omega))
        split
        · exact FKm_mst (by omega) (by omega)
        · exact FKm_refl
      have c8 : cc 1 8 = c 1 8 + 1 := by rw [← hcc, mst_hit]
      have c7 : cc 1 7 = c 1 7 := by rw [← hcc, mst_miss (by omega), mst_miss (by omega)]
      have cc2 : cc 1 2 = c 1 2 := by rw [← hcc, mst_miss (by omega), mst_miss (by omega)]
      have c3 : cc 1 3 = lor (lshl (c 1 3) 5) (w32 (w32 (c 2 (c 1 8).toNat - 97) + 1)) := by rw [← hcc, mst_miss (by omega), mst_hit]
      have d4 : dd 203 4 = c 1 8 + 1 := by rw [← hdd, mst_hit]
      have d5 : dd 203 5 = d 203 5 := by
        rw [← hdd, mst_miss (by omega)]
        split
        · rw [mst_miss (by omega)]
        · rfl
      have hW : WdI cc dd := by
        unfold WdI
        rw [c8, c7, c3]
        intro z
        obtain ⟨l, l1, l2, l3, l4⟩ := h7 (by omega)
        obtain ⟨q1, q2, q3⟩ := letter (ch := c 2 (c 1 8).toNat) (l := l) (by omega) l2 y.1 y.2
        refine ⟨l ++ [c 2 (c 1 8).toNat - 96], by rw [List.length_append]; simp; omega, q3, by rw [l3]; exact q1, ?_⟩
        rw [← hdd, mst_miss (by omega), if_pos (by omega), mst_hit, l4]
        exact q2
      obtain ⟨c1, d1, g1, g2, g3, g4, g5, g6, g7, g8, g9, g10, g11, -⟩ := ih k k' cc dd (Sz_congr ⟨s1, s2, s3, s4⟩ f1 f2) (by rw [c8, d4]) (by rw [c7, d5]; exact h2') (by omega) (by omega) (by rw [c8, f1.2.1]; omega) (by omega) (by omega) hW
      exact ⟨c1, d1, g1, g2, FKc_trans f1 g3, FKm_trans f2 g4, g5.trans c7, g6.trans cc2, g7.trans d5, g8, by omega, g10, g11, fun _ _ _ => by omega⟩
    · rw [if_neg y, if_neg y]
      exact ⟨c, d, rfl, rfl, FKc_refl, FKm_refl, rfl, rfl, rfl, h2, Int.le_refl _, by omega, h7, fun _ z1 z2 => absurd ⟨z1, z2⟩ y⟩
end Tk
