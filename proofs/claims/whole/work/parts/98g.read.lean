/-! Hills are read by both, from the beginning. -/
section Rg
theorem hbegin_ok {s : Nat} {c : Mm} : TT (fn_Hills_begin s c) (fun _ c' => (∀ a, a ≠ s → a ≠ s + 4 → a ≠ s + 10 → a ≠ s + 11 → c' a = c a) ∧ (∀ j, j < 5 → c' s j = 0) ∧ (∀ j, j < 36 → c' (s + 4) j = 0) ∧ c' (s + 10) 2 = 1 ∧ c' (s + 11) 0 = -2) := by
  unfold fn_Hills_begin fn_Law_begin
  simp only [bn_eq]
  refine TT_call (fillI_ok (by omega)) (fun r c2 q => ?_)
  obtain ⟨q1, q2, q3⟩ := q
  rw [put_eq (i := 0) mst_hit (by decide) (by decide), bd_some, bd_some]
  have e11 : s + 10 + 1 = s + 11 := rfl
  refine TT_some.mpr ⟨fun a a0 a1 a2 a3 => ?_, fun j hj => ?_, fun j hj => ?_, mst_hit, ?_⟩
  · rw [mst_ne a2, mst_ne (by omega), mst_ne a2, q1 a a1, mst_ne a0, mst_ne a0, mst_ne a0, mst_ne a0, mst_ne a0]
  · rw [mst_ne (by omega), mst_ne (by omega), mst_ne (by omega), q1 s (by omega), mst_self, mst_self, mst_self, mst_self, mst_self]
    have : j = 0 ∨ j = 1 ∨ j = 2 ∨ j = 3 ∨ j = 4 := by omega
    rcases this with rfl | rfl | rfl | rfl | rfl <;> rfl
  · rw [mst_ne (by omega), mst_ne (by omega), mst_ne (by omega)]; exact q2 j hj
  · rw [mst_ne (by omega)]; exact mst_hit
theorem z205 : ∀ (j k : Nat) (v : Int) (d : Mm), v + j = 10 → 0 ≤ v → j < k → ∃ d', lp_Model_readsAll_2 k v d = bo_Model_readsAll_21 d' ∧ (∀ a, a ≠ 205 → d' a = d a) ∧ ∀ i : Nat, d' 205 i = if v ≤ (i : Int) ∧ (i : Int) < 10 then 0 else d 205 i := by
  intro j
  induction j with
  | zero =>
    intro k v d e1 e2 e3
    obtain ⟨k, rfl⟩ : ∃ t, k = t + 1 := ⟨k - 1, by omega⟩
    refine ⟨d, ?_, fun _ _ => rfl, fun i => by rw [if_neg (by omega)]⟩
    show bo_Model_readsAll_2 _ v d = _
    unfold bo_Model_readsAll_2
    rw [if_neg (by omega : ¬ v < 10)]
  | succ j ih =>
    intro k v d e1 e2 e3
    obtain ⟨k, rfl⟩ : ∃ t, k = t + 1 := ⟨k - 1, by omega⟩
    obtain ⟨d', u1, u2, u3⟩ := ih k (v + 1) (mst d 205 v.toNat 0) (by omega) (by omega) (by omega)
    refine ⟨d', ?_, fun a ha => by rw [u2 a ha, mst_ne ha], fun i => ?_⟩
    · show bo_Model_readsAll_2 _ v d = _
      unfold bo_Model_readsAll_2
      rw [if_pos (by omega : v < 10), if_pos (by omega : 0 ≤ v ∧ v < 10), bn_eq, w32_in (x := v + 1) (by omega) (by omega)]
      exact u1
    · rw [u3, mst_self]
      by_cases y : (i : Int) = v
      · rw [if_neg (by omega), if_pos (by omega), if_pos (by omega)]
      · rw [if_neg (by omega : ¬ i = v.toNat)]
        by_cases y2 : v + 1 ≤ (i : Int) ∧ (i : Int) < 10
        · rw [if_pos y2, if_pos (by omega)]
        · rw [if_neg y2, if_neg (by omega)]
theorem z209 : ∀ (j k : Nat) (v : Int) (d : Mm), v + j = 72 → 0 ≤ v → j < k → ∃ d', lp_Model_readsAll_24 k v d = bo_Model_readsAll_43 d' ∧ (∀ a, a ≠ 209 → d' a = d a) ∧ ∀ i : Nat, d' 209 i = if v ≤ (i : Int) ∧ (i : Int) < 72 then 0 else d 209 i := by
  intro j
  induction j with
  | zero =>
    intro k v d e1 e2 e3
    obtain ⟨k, rfl⟩ : ∃ t, k = t + 1 := ⟨k - 1, by omega⟩
    refine ⟨d, ?_, fun _ _ => rfl, fun i => by rw [if_neg (by omega)]⟩
    show bo_Model_readsAll_24 _ v d = _
    unfold bo_Model_readsAll_24
    rw [if_neg (by omega : ¬ v < 72)]
  | succ j ih =>
    intro k v d e1 e2 e3
    obtain ⟨k, rfl⟩ : ∃ t, k = t + 1 := ⟨k - 1, by omega⟩
    obtain ⟨d', u1, u2, u3⟩ := ih k (v + 1) (mst d 209 v.toNat 0) (by omega) (by omega) (by omega)
    refine ⟨d', ?_, fun a ha => by rw [u2 a ha, mst_ne ha], fun i => ?_⟩
    · show bo_Model_readsAll_24 _ v d = _
      unfold bo_Model_readsAll_24
      rw [if_pos (by omega : v < 72), if_pos (by omega : 0 ≤ v ∧ v < 72), bn_eq, w32_in (x := v + 1) (by omega) (by omega)]
      exact u1
    · rw [u3, mst_self]
      by_cases y : (i : Int) = v
      · rw [if_neg (by omega), if_pos (by omega), if_pos (by omega)]
      · rw [if_neg (by omega : ¬ i = v.toNat)]
        by_cases y2 : v + 1 ≤ (i : Int) ∧ (i : Int) < 72
        · rw [if_pos y2, if_pos (by omega)]
        · rw [if_neg y2, if_neg (by omega)]
theorem read_pair {f : Int → Int → Int → Int} {c d : Mm} {s : Nat} (hR : RR f c d) (hs : s = 4 ∨ s = 41) : ∃ r b c' d2, fn_HillsReader_read s c = some (r, c') ∧ fn_Model_readsAll d = some (b, d2) ∧ (∀ a, a ≠ 1 → a ≠ 3 → (a < s ∨ s + 36 < a) → c' a = c a) ∧ c' 1 0 = 0 ∧ (∀ a, a ≠ 203 → (a < 205 ∨ 225 < a) → d2 a = d a) ∧ (∀ a, 205 ≤ a → a ≤ 223 → ∀ j, j < half a → d2 a j = d a j) ∧ (d2 203 1 = 0 ∧ ∀ j, 43 < j → d2 203 j = d 203 j) ∧
    ((b = 1 ∧ r = 0 ∧ ∃ c1, HR s c1 d2 ∧ (∀ a, s ≤ a → a ≤ s + 36 → a ≠ s + 5 → c' a = c1 a) ∧ (PG (c1 s 0) (c1 (s + 4)) → ∀ p q : Int, 0 ≤ p → p < c1 s 0 → 0 ≤ q → q < c1 s 0 → c' (s + 5) (6 * p + q).toNat = wvC (rnds (c1 (s + 4)) (c1 s 0).toNat p q))) ∨ (b = 0 ∧ r = d2 203 9 ∧ 0 < r)) := by
  have hTp := hR.1
  -- the class begins
  unfold fn_HillsReader_read
  have e31 : mst c 3 1 ((s : Nat) : Int) 3 1 = (s : Int) := mst_hit
  have hK : isK 0 (mst c 3 1 ((s : Nat) : Int) 3 1) = true := isK0 (by omega)
  have e3 : (mst c 3 1 ((s : Nat) : Int) 3 1).toNat = s := by omega
  obtain ⟨rb, cb, b1, b2, b3, b4, b5, b6⟩ := hbegin_ok (s := s) (c := mst c 3 1 ((s : Nat) : Int))
  rw [bn_eq, if_pos hK, e3, b1, bd_some, bn_eq]
  -- the reference begins
  unfold fn_Model_readsAll
  obtain ⟨d1, u1, u2, u3⟩ := z205 5 FU 5 d (by decide) (by decide) (by decide)
  rw [u1]
  unfold bo_Model_readsAll_21
  obtain ⟨d2, v1, v2, v3⟩ := z209 36 FU 36 d1 (by decide) (by decide) (by decide)
  rw [v1]
  unfold bo_Model_readsAll_43
  rw [bn_eq, bn_eq, bn_eq, tn1]
  have hcb : ∀ a, a ≠ s → a ≠ s + 4 → a ≠ s + 10 → a ≠ s + 11 → a ≠ 3 → mst cb 3 2 0 a = c a := fun a a0 a1 a2 a3 a4 => by
    rw [mst_ne a4, b2 a a0 a1 a2 a3, mst_ne a4]
  have hT0 : TpR (mst cb 3 2 0) (mst (mst (mst d2 221 1 1000) 222 1 1000) 203 29 1000) := TpR_congr hTp (by rw [hcb 1 (by omega) (by omega) (by omega) (by omega) (by omega)]) (hcb 2 (by omega) (by omega) (by omega) (by omega) (by omega)) (by rw [mst_miss (by decide), mst_ne (by decide), mst_ne (by decide), v2 203 (by decide), u2 203 (by decide)]) (by rw [mst_ne (by decide), mst_ne (by decide), mst_ne (by decide), v2 204 (by decide), u2 204 (by decide)])
  obtain ⟨c1, d3, o1, o2, o3, o4, o5, o6, o7, o8, o9⟩ := open_ok hT0
  rw [o1, o2, bd_some, bd_some]
  have x3 : ∀ a, a ≠ 203 → a ≠ 205 → a ≠ 209 → a ≠ 221 → a ≠ 222 → d3 a = d a := fun a a0 a1 a2 a3 a4 => by
    rw [o7 a a0, mst_ne a0, mst_ne a4, mst_ne a3, v2 a a2, u2 a a1]
  have x205 : ∀ j, d3 205 j = if 5 ≤ (j : Int) ∧ (j : Int) < 10 then 0 else d 205 j := fun j => by
    rw [o7 _ (by decide), mst_ne (by decide), mst_ne (by decide), mst_ne (by decide), v2 205 (by decide), u3 j]
  have x209 : ∀ j, d3 209 j = if 36 ≤ (j : Int) ∧ (j : Int) < 72 then 0 else d 209 j := fun j => by
    rw [o7 _ (by decide), mst_ne (by decide), mst_ne (by decide), mst_ne (by decide), v3 j, u2 209 (by decide)]
  have x221 : d3 221 = mst d 221 1 1000 221 := by
    rw [o7 _ (by decide), mst_ne (by decide), mst_ne (by decide)]
    funext j
    rw [mst_self, mst_self, v2 221 (by decide), u2 221 (by decide)]
  have x222 : d3 222 = mst d 222 1 1000 222 := by
    rw [o7 _ (by decide), mst_ne (by decide)]
    funext j
    rw [mst_self, mst_self, mst_ne (by decide), v2 222 (by decide), u2 222 (by decide)]
  have xh : ∀ a, 205 ≤ a → a ≤ 223 → ∀ j, j < half a → d3 a j = d a j := fun a a0 a1 j hj => by
    by_cases y1 : a = 205
    · subst y1; rw [x205, if_neg]; have : half 205 = 5 := rfl; omega
    · by_cases y2 : a = 209
      · subst y2; rw [x209, if_neg]; have : half 209 = 36 := rfl; omega
      · by_cases y3 : a = 221
        · subst y3
          have : half 221 = 1 := rfl
          rw [x221, mst_miss (by omega)]
        · by_cases y4 : a = 222
          · subst y4
            have : half 222 = 1 := rfl
            rw [x222, mst_miss (by omega)]
          · rw [x3 a (by omega) y1 y2 y3 y4]
  have y205 : ∀ j : Nat, 5 ≤ j → j < 10 → d3 205 j = 0 := fun j j0 j1 => by rw [x205, if_pos (by omega)]
  have z0 : ∀ j, j < 5 → c1 s j = 0 := fun j hj => by rw [o5 s (by omega), mst_ne (by omega)]; exact b3 j hj
  have hH : HR s c1 d3 := by
    refine ⟨hs, ?_, ?_, ?_, fun p q p0 p1 q0 q1 => ?_, fun w w0 w1 => ?_, fun h h0 h1 => ?_, ?_⟩
    · rw [o5 3 (by decide), mst_miss (by decide), b2 3 (by omega) (by omega) (by omega) (by omega)]; exact e31
    · have t0 : (5 * 1 + 0 : Int).toNat = 5 := rfl
      have t1 : (5 * 1 + 1 : Int).toNat = 6 := rfl
      have t2 : (5 * 1 + 2 : Int).toNat = 7 := rfl
      unfold NmX NsO
      rw [t0, t1, t2, z0 0 (by decide), z0 1 (by decide), z0 2 (by decide), y205 5 (by decide) (by decide), y205 6 (by decide) (by decide), y205 7 (by decide) (by decide)]
      exact ⟨rfl, rfl, rfl, by omega, by omega, by omega, fun i i0 i1 => by omega, fun i i0 i1 => by omega, fun i i0 i1 => by omega⟩
    · rw [z0 3 (by decide), z0 4 (by decide), y205 8 (by decide) (by decide), y205 9 (by decide) (by decide)]
      exact ⟨rfl, rfl, by omega, by omega⟩
    · have e : d3 209 (36 + 6 * p + q).toNat = 0 := by rw [x209, if_pos (by omega)]
      rw [e, o5 (s + 4) (by omega), mst_ne (by omega), b4 _ (by omega)]
      exact ⟨rfl, by omega, by omega, fun _ => rfl, fun _ => rfl⟩
    · rw [y205 6 (by decide) (by decide)] at w1; omega
    · rw [y205 7 (by decide) (by decide)] at h1; omega
    · refine ⟨by rw [x221, mst_hit], Or.inl ⟨?_, by rw [x222, mst_hit], ?_, ?_, ?_⟩⟩
      · rw [o5 3 (by decide), mst_hit]
      · rw [o9 29 (by omega), mst_hit]
      · rw [o5 _ (by omega), mst_ne (by omega)]; exact b5
      · rw [o5 _ (by omega), mst_ne (by omega)]; exact b6
  obtain ⟨b, c2, d4, l1, l2, l3, l4, l5, l6⟩ := lines_loop (p1 := s) 1001 FU FU c1 d3 0 (by have := o3.2.2.2.1; omega) (by decide) (by decide) (by decide) o3.2.2.2.1 o3 hH o4
  rw [l1, l2]
  unfold bo_HillsReader_read_276
  have e31' : c2 3 1 = (s : Int) := by rw [gc l3 (by omega) (by unfold PH0; omega)]; exact hH.2.1
  have hK' : isK 0 (c2 3 1) = true := isK0 (by omega)
  have e3' : (c2 3 1).toNat = s := by omega
  obtain ⟨rf, c3, w1, w2, w3⟩ := findWays_ok (th := s) (c := c2) l5.1 l5.2
  rw [if_pos hK', e3', w1, bd_some]
  unfold fn_Tape_close
  rw [bn_eq, bd_some, mst_miss (by decide : (1 : Nat) ≠ 0)]
  have e11 : c3 1 1 = c2 1 1 := by rw [w2 1 (by omega)]
  refine ⟨_, b, _, d4, rfl, rfl, fun a a0 a1 a2 => ?_, mst_hit, fun a a0 a1 => ?_, fun a a0 a1 j hj => ?_, ⟨?_, fun j hj => ?_⟩, ?_⟩
  · rw [mst_ne a0, w2 a (by omega), gcr l3 a0 (fun j => by unfold PH0; omega), o5 a a0]
    exact hcb a (by omega) (by omega) (by omega) (by omega) a1
  · rw [gmr l4 a0 (fun j => by unfold QH; omega)]
    exact x3 a a0 (by omega) (by omega) (by omega) (by omega)
  · rw [gm l4 (by omega) (by unfold QH; omega)]
    exact xh a a0 a1 j hj
  · rw [gm l4 (by omega) (by unfold QH; omega)]; exact o8
  · rw [gm l4 (by omega) (by unfold QH; omega), o9 j (by omega), mst_miss (by omega), mst_ne (by decide), mst_ne (by decide), v2 203 (by decide), u2 203 (by decide)]
  · rw [e11]
    rcases l6 with ⟨y, l6, l7⟩ | ⟨y, l6⟩
    · refine Or.inl ⟨y, l7, c2, l6, fun a a0 a1 a2 => ?_, fun hp p q p0 p1 q0 q1 => ?_⟩
      · rw [mst_ne (by omega), w2 a a2]
      · rw [mst_ne (by omega)]; exact w3 hp p q p0 p1 q0 q1
    · exact Or.inr ⟨y, l6.1, l6.2⟩
end Rg
