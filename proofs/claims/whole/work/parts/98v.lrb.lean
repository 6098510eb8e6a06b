/-! The law's rests beside the reference's. -/
section Lb
theorem RR_out {f : Int → Int → Int → Int} {m : Mm} (hR : RR f m m) (r : Int) : RR f (mst m 260 0 r) (mst m 260 0 r) := by
  have e : ∀ k, k ≠ 260 → mst m 260 0 r k = m k := fun k hk => mst_ne hk
  refine RR_FQ hR ⟨fun k k0 _ _ _ _ _ _ => e k (by omega), fun j _ => by rw [e 0 (by decide)], fun j _ => by rw [e 14 (by decide)], fun j _ => by rw [e 51 (by decide)]⟩ ⟨fun k k0 _ _ k1 => e k (by omega), by rw [e 203 (by decide)], by rw [e 203 (by decide)]⟩
theorem c_rests_val {a b g what r : Int} {m m' : Mm} (h : fn_Clock_rests a b g what m = some (r, m)) : fn_Clock_rests a b g what m' = some (r, m') := by
  rw [c_rests] at h ⊢
  split at h
  · rename_i q; rw [if_pos q]; cases h; rfl
  · rename_i q; rw [if_neg q]
    split at h
    · rename_i q; rw [if_pos q]; cases h; rfl
    · rename_i q; rw [if_neg q]
      split at h
      · rename_i q; rw [if_pos q]; cases h; rfl
      · rename_i q; rw [if_neg q]; cases h; rfl
theorem m_rests_out {a b g what x : Int} {d m2 : Mm} (h : fn_Model_rests a b g what d = some (x, m2)) : m2 260 = d 260 := by
  have e : ∀ (y : Mm) j v, mst y 203 j v 260 = y 260 := fun y j v => mst_ne (by decide)
  rw [m_rests] at h
  split at h
  · cases h; rw [e]
  · split at h
    · cases h; rw [e]
    · split at h
      · cases h; rw [e, e]
      · cases h; rw [e, e]
theorem law_rests {f : Int → Int → Int → Int} {m : Mm} (hR : RR f m m) (a b g what : Int) : ∃ k x m1 m2, fn_Law_rests a b g what m = some (k, m1) ∧ fn_Model_rests a b g what m1 = some (x, m2) ∧ RR f m2 m2 ∧ m2 203 0 = k ∧ (k = 0 → m2 260 0 = x) := by
  obtain ⟨r, x, m2, h1, h2, h3, h4⟩ := rests_both hR a b g what
  rcases h4 with ⟨h4, h5⟩ | ⟨h4, h5, h6⟩
  · refine ⟨1, x, m, m2, ?_, h2, h3, h5, fun h => by omega⟩
    unfold fn_Law_rests
    rw [h1]
    simp only [if_pos h4]
  · obtain ⟨r', x', m3, g1, g2, g3, g4⟩ := rests_both (RR_out hR r) a b g what
    have e1 := c_rests_val (m' := mst m 260 0 r) h1
    rw [e1] at g1
    have e2 : r = r' := by cases g1; rfl
    subst e2
    rcases g4 with ⟨g4, g5⟩ | ⟨g4, g5, g6⟩
    · exact absurd g4 h4
    · refine ⟨0, x', mst m 260 0 r, m3, ?_, g2, g3, g5, fun _ => ?_⟩
      · unfold fn_Law_rests
        rw [h1]
        simp only [if_neg h4]
      · rw [m_rests_out g2, ← g6]
        exact mst_hit
end Lb
