/-! Names and the language's own words. -/
section Kp
theorem kept_ok {c d : Mm} (h : TkR c d) : (fn_Tape_isName c = some (1, c) ∧ fn_Model_isKept d = some (0, d) ∧ NmR (c 1 3) (d 203 7)) ∨ (fn_Tape_isName c = some (0, c) ∧ fn_Model_isKept d = some (1, d)) := by
  by_cases y : c 1 6 = 2
  · have hk : d 203 6 = 1 ∧ NmR (c 1 3) (d 203 7) ∧ c 1 2 = wdk (c 1 3) := by
      obtain ⟨s, h1, h2, h3, h4, h5, h6⟩ := h
      rcases h6 with h6 | ⟨-, h6 | h6 | h6 | h6⟩
      · omega
      · exact h6.2
      · omega
      · omega
      · omega
    have q : ∀ (k : Nat) (x : Int), k < 29 → wdM.getD k 0 = x → (lcm (d 203 7) x = 0 ↔ c 1 2 = -(k : Int) - 2) := fun k x hk2 hx => by
      have := word_iff h hk2
      rw [hx] at this
      rw [lcm_0, ← this]
      exact ⟨fun z => ⟨hk.1, z⟩, fun z => z.2⟩
    have eM : fn_Model_isKept d = some (if -27 ≤ c 1 2 ∧ c 1 2 ≤ -2 then 1 else 0, d) := by
      unfold fn_Model_isKept
      rw [if_pos hk.1]
      simp only [q 0 8740067 (by decide) rfl, q 1 316205 (by decide) rfl, q 2 330800670 (by decide) rfl, q 3 10492274 (by decide) rfl, q 4 315743 (by decide) rfl, q 5 158537 (by decide) rfl, q 6 9876874 (by decide) rfl, q 7 12249946 (by decide) rfl, q 8 47 (by decide) rfl, q 9 4797 (by decide) rfl, q 10 168984 (by decide) rfl, q 11 79 (by decide) rfl, q 12 262 (by decide) rfl, q 13 191706727 (by decide) rfl, q 14 237470 (by decide) rfl, q 15 85447 (by decide) rfl, q 16 60383635 (by decide) rfl, q 17 384611 (by decide) rfl, q 18 2968 (by decide) rfl, q 19 8740238 (by decide) rfl, q 20 383153 (by decide) rfl, q 21 180392 (by decide) rfl, q 22 1424261 (by decide) rfl, q 23 10631 (by decide) rfl, q 24 1111 (by decide) rfl, q 25 423 (by decide) rfl]
      generalize c 1 2 = w
      by_cases z : -27 ≤ w ∧ w ≤ -2
      · rw [if_pos z]
        have hc : w = -2 ∨ w = -3 ∨ w = -4 ∨ w = -5 ∨ w = -6 ∨ w = -7 ∨ w = -8 ∨ w = -9 ∨ w = -10 ∨ w = -11 ∨ w = -12 ∨ w = -13 ∨ w = -14 ∨ w = -15 ∨ w = -16 ∨ w = -17 ∨ w = -18 ∨ w = -19 ∨ w = -20 ∨ w = -21 ∨ w = -22 ∨ w = -23 ∨ w = -24 ∨ w = -25 ∨ w = -26 ∨ w = -27 := by omega
        rcases hc with e | e | e | e | e | e | e | e | e | e | e | e | e | e | e | e | e | e | e | e | e | e | e | e | e | e <;> subst e <;> rfl
      · rw [if_neg z]
        repeat rw [if_neg (by omega)]
    have hw : c 1 2 = -1 ∨ (-30 ≤ c 1 2 ∧ c 1 2 ≤ -2) := by
      rw [hk.2.2]
      exact fld_inv (f := fun v a => if wdL.getD v.toNat 0 = c 1 3 then -v - 2 else a) (fun t a => 0 ≤ t ∧ t ≤ 29 → (a = -1 ∨ (-30 ≤ a ∧ a ≤ -2))) (j := 29) (v := 0) (a := -1) (fun _ => Or.inl rfl) (fun t b t0 t1 hI _ => by
        show (if wdL.getD t.toNat 0 = c 1 3 then -t - 2 else b) = -1 ∨ (-30 ≤ (if wdL.getD t.toNat 0 = c 1 3 then -t - 2 else b) ∧ (if wdL.getD t.toNat 0 = c 1 3 then -t - 2 else b) ≤ -2)
        split
        · right; omega
        · exact hI ⟨by omega, by omega⟩) (by omega)
    unfold fn_Tape_isName fn_Word_isFact
    rw [if_pos y, eM]
    by_cases z : c 1 2 = -1
    · left
      rw [if_pos z, if_neg (by omega)]
      exact ⟨rfl, rfl, hk.2.1⟩
    · rw [if_neg z, if_pos z]
      by_cases z1 : c 1 2 = -28
      · left
        rw [if_pos z1, bd_some, if_neg (by decide : ¬ (1 : Int) = 0), if_neg (by omega)]
        exact ⟨rfl, rfl, hk.2.1⟩
      · rw [if_neg z1]
        by_cases z2 : c 1 2 = -29
        · left
          rw [if_pos z2, bd_some, if_neg (by decide : ¬ (1 : Int) = 0), if_neg (by omega)]
          exact ⟨rfl, rfl, hk.2.1⟩
        · rw [if_neg z2]
          by_cases z3 : c 1 2 = -30
          · left
            rw [if_pos z3, bd_some, if_neg (by decide : ¬ (1 : Int) = 0), if_neg (by omega)]
            exact ⟨rfl, rfl, hk.2.1⟩
          · right
            rw [if_neg z3, bd_some, if_pos rfl, if_pos (by omega : -27 ≤ c 1 2 ∧ c 1 2 ≤ -2)]
            exact ⟨rfl, rfl⟩
  · right
    have y2 : ¬ d 203 6 = 1 := by
      obtain ⟨s, h1, h2, h3, h4, h5, h6⟩ := h
      omega
    unfold fn_Tape_isName fn_Model_isKept
    rw [if_neg y, if_neg y2]
    exact ⟨rfl, rfl⟩
end Kp
