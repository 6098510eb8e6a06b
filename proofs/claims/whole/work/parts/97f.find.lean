/-! A name is looked up by both. -/
section Fn
theorem find_ok {c d : Mm} {a b : Nat} {n o x y : Int} (hn : ∀ i : Int, 0 ≤ i → i < n → NmR (c a i.toNat) (d b (o + i).toNat)) (hx : NmR x y) (n0 : 0 ≤ n) (n1 : n ≤ 6) (o0 : 0 ≤ o) (o1 : o ≤ 6) : ∃ v, fn_Tape_find a n x c = some (v, c) ∧ fn_Model_named 12 b o n y d = some (v, d) ∧ (v = -1 ∨ 0 ≤ v ∧ v < n) := by
  have key : ∀ (j k k' : Nat) (i : Int), i + j = n → 0 ≤ i → j < k → j < k' → ∃ v, lp_Tape_find_3 a n x k i c = some (v, c) ∧ lp_Model_named_3 12 b o n y k' (o + i) d = some (v, d) ∧ (v = -1 ∨ 0 ≤ v ∧ v < n) := by
    intro j
    induction j with
    | zero =>
      intro k k' i h1 h2 h3 h4
      obtain ⟨k, rfl⟩ : ∃ t, k = t + 1 := ⟨k - 1, by omega⟩
      obtain ⟨k', rfl⟩ : ∃ t, k' = t + 1 := ⟨k' - 1, by omega⟩
      refine ⟨-1, ?_, ?_, Or.inl rfl⟩
      · show bo_Tape_find_3 a n x _ i c = _
        unfold bo_Tape_find_3
        rw [if_neg (by omega)]
      · show bo_Model_named_3 12 b o n y _ (o + i) d = _
        unfold bo_Model_named_3
        rw [w32_in (x := o + n) (by omega) (by omega), if_neg (by omega)]
    | succ j ih =>
      intro k k' i h1 h2 h3 h4
      obtain ⟨k, rfl⟩ : ∃ t, k = t + 1 := ⟨k - 1, by omega⟩
      obtain ⟨k', rfl⟩ : ∃ t, k' = t + 1 := ⟨k' - 1, by omega⟩
      have hi := Nm_iff (hn i h2 (by omega)) hx
      have e : o + i - o = i := by omega
      have e2 : o + i + 1 = o + (i + 1) := by omega
      have eC : lp_Tape_find_3 a n x (k + 1) i c = if c a i.toNat = x then some (i, c) else lp_Tape_find_3 a n x k (i + 1) c := by
        show bo_Tape_find_3 a n x _ i c = _
        unfold bo_Tape_find_3
        rw [if_pos (by omega : i < n), if_pos (by omega : i < 6), if_pos (by omega : 0 ≤ i ∧ i < 6), w32_in (x := i + 1) (by omega) (by omega)]
        by_cases z : c a i.toNat = x
        · rw [if_pos (lcm_0.mpr z), if_pos z]
        · rw [if_neg (fun q => z (lcm_0.mp q)), if_neg z]
      have eM : lp_Model_named_3 12 b o n y (k' + 1) (o + i) d = if c a i.toNat = x then some (i, d) else lp_Model_named_3 12 b o n y k' (o + (i + 1)) d := by
        show bo_Model_named_3 12 b o n y _ (o + i) d = _
        unfold bo_Model_named_3
        rw [w32_in (x := o + n) (by omega) (by omega), if_pos (by omega : o + i < o + n), if_pos (by omega : 0 ≤ o + i ∧ o + i < ((12 : Nat) : Int)), w32_in (x := o + i - o) (by omega) (by omega), w32_in (x := o + i + 1) (by omega) (by omega), e, e2]
        by_cases z : c a i.toNat = x
        · rw [if_pos (lcm_0.mpr (hi.mp z)), if_pos z]
        · rw [if_neg (fun q => z (hi.mpr (lcm_0.mp q))), if_neg z]
      rw [eC, eM]
      by_cases z : c a i.toNat = x
      · rw [if_pos z, if_pos z]
        exact ⟨i, rfl, rfl, Or.inr ⟨h2, by omega⟩⟩
      · rw [if_neg z, if_neg z]
        exact ih k k' (i + 1) (by omega) (by omega) (by omega) (by omega)
  obtain ⟨v, h1, h2, h3⟩ := key n.toNat FU FU 0 (by omega) (by omega) (by show n.toNat < 2000; omega) (by show n.toNat < 2000; omega)
  refine ⟨v, h1, ?_, h3⟩
  have e : o + 0 = o := by omega
  rw [e] at h2
  exact h2
end Fn
