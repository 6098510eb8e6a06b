/-! Marks. -/
section Ml
variable {f : Int → Int → Int → Int} {m : Mm}
/-- what lies at a block of a row is another block's -/
def blk (r : Nat → Int) (n a b : Int) : Nat → Int := fun j => if n * b ≤ (j : Int) ∧ (j : Int) < n * b + n then r (n * a + ((j : Int) - n * b)).toNat else r j
theorem blk_hit {r : Nat → Int} {n a b i : Int} (hn : 0 ≤ n * b) (i0 : 0 ≤ i) (i1 : i < n) : blk r n a b (n * b + i).toNat = r (n * a + i).toNat := by
  have e : (((n * b + i).toNat : Nat) : Int) = n * b + i := by omega
  unfold blk
  rw [e, if_pos (by omega)]
  congr 2
  omega
theorem blk_miss {r : Nat → Int} {n a b : Int} {j : Nat} (h : ¬ (n * b ≤ (j : Int) ∧ (j : Int) < n * b + n)) : blk r n a b j = r j := if_neg h
theorem linesCopy_ok {th p : Nat} (h : th + 3 < p ∨ p + 3 < th) : TT (fn_Lines_copy th p m) (fun _ m' => (∀ a, a ≠ th → a ≠ th + 1 → a ≠ th + 2 → a ≠ th + 3 → m' a = m a) ∧ m' th 0 = m p 0 ∧ ∀ j, j < 30 → m' (th + 1) j = m (p + 1) j ∧ m' (th + 2) j = m (p + 2) j ∧ m' (th + 3) j = m (p + 3) j) := by
  unfold fn_Lines_copy
  simp only [bn_eq, tn0, show (30 : Int).toNat = 30 from rfl]
  refine TT_some.mpr ⟨fun a a0 a1 a2 a3 => ?_, ?_, fun j hj => ⟨?_, ?_, ?_⟩⟩
  · simp (disch := omega) only [mcp_ne, mst_ne]
  · simp (disch := omega) only [mcp_ne, mst_hit]
  · rw [mcp_ne (by omega), mcp_ne (by omega), mcp_hit (by omega) (by omega), Nat.zero_add, Nat.sub_zero, mst_ne (by omega)]
  · rw [mcp_ne (by omega), mcp_hit (by omega) (by omega), Nat.zero_add, Nat.sub_zero, mcp_ne (by omega), mst_ne (by omega)]
  · rw [mcp_hit (by omega) (by omega), Nat.zero_add, Nat.sub_zero, mcp_ne (by omega), mcp_ne (by omega), mst_ne (by omega)]
def SameStand (m : Mm) (p : Nat) (m' : Mm) (th : Nat) : Prop := SameS m (p + 1) m' (th + 1) ∧ m' (th + 4) 0 = m (p + 4) 0 ∧ (∀ j, j < 30 → m' (th + 5) j = m (p + 5) j ∧ m' (th + 6) j = m (p + 6) j ∧ m' (th + 7) j = m (p + 7) j) ∧ m' th 3 = m p 3 ∧ m' th 6 = m p 6 ∧ (∀ j, j < 8 → m' (th + 8) j = m (p + 8) j ∧ m' (th + 9) j = m (p + 9) j) ∧ ∀ j, j < 6 → m' (th + 10) j = m (p + 10) j
theorem standCopy_ok {th p : Nat} (h : th + 10 < p ∨ p + 10 < th) (h3 : m (p + 1) 3 = 0 ∨ m (p + 1) 3 = 1) : TT (fn_Standing_copy th p m) (fun _ m' => (∀ a, (a < th ∨ th + 10 < a) → m' a = m a) ∧ (∀ j, j ≠ 3 → j ≠ 6 → m' th j = m th j) ∧ SameStand m p m' th) := by
  unfold fn_Standing_copy
  refine TT_call (stCopy_ok (by omega) h3) (fun r1 m1 q1 => ?_)
  refine TT_call (linesCopy_ok (by omega)) (fun r2 m2 q2 => ?_)
  obtain ⟨a1, a2, a3⟩ := q1
  obtain ⟨b1, b2, b3⟩ := q2
  simp only [bn_eq, tn0, show (8 : Int).toNat = 8 from rfl, show (6 : Int).toNat = 6 from rfl]
  have ep : ∀ a, (p ≤ a ∧ a ≤ p + 10) → m2 a = m a := fun a ha => by rw [b1 a (by omega) (by omega) (by omega) (by omega), a1 a (by omega) (by omega) (by omega)]
  have eth : m2 th = m th := by rw [b1 th (by omega) (by omega) (by omega) (by omega), a1 th (by omega) (by omega) (by omega)]
  refine TT_some.mpr ⟨fun a ha => ?_, fun j j0 j1 => ?_, ?_, ?_, fun j hj => ?_, ?_, ?_, fun j hj => ⟨?_, ?_⟩, fun j hj => ?_⟩
  · simp (disch := omega) only [mcp_ne, mst_ne]
    rw [b1 a (by omega) (by omega) (by omega) (by omega), a1 a (by omega) (by omega) (by omega)]
  · rw [mcp_ne (by omega), mst_miss j1, mcp_ne (by omega), mcp_ne (by omega), mst_miss j0, eth]
  · obtain ⟨s0, s1, s2, s3, s4⟩ := a3
    have e1 : ∀ a, (th + 1 ≤ a ∧ a ≤ th + 3) → m2 a = m1 a := fun a ha => b1 a (by omega) (by omega) (by omega) (by omega)
    refine ⟨?_, ?_, ?_, ?_, fun j hj => ⟨?_, ?_⟩⟩
    · simp (disch := omega) only [mcp_ne, mst_ne, e1]; exact s0
    · simp (disch := omega) only [mcp_ne, mst_ne, e1]; exact s1
    · simp (disch := omega) only [mcp_ne, mst_ne, e1]; exact s2
    · simp (disch := omega) only [mcp_ne, mst_ne, e1]; exact s3
    · simp (disch := omega) only [mcp_ne, mst_ne, e1]; exact (s4 j hj).1
    · simp (disch := omega) only [mcp_ne, mst_ne, e1]; exact (s4 j hj).2
  · simp (disch := omega) only [mcp_ne, mst_ne]
    rw [b2, a1 (p + 4) (by omega) (by omega) (by omega)]
  · obtain ⟨c1, c2, c3⟩ := b3 j hj
    rw [a1 (p + 4 + 1) (by omega) (by omega) (by omega)] at c1
    rw [a1 (p + 4 + 2) (by omega) (by omega) (by omega)] at c2
    rw [a1 (p + 4 + 3) (by omega) (by omega) (by omega)] at c3
    refine ⟨?_, ?_, ?_⟩
    · simp (disch := omega) only [mcp_ne, mst_ne]; exact c1
    · simp (disch := omega) only [mcp_ne, mst_ne]; exact c2
    · simp (disch := omega) only [mcp_ne, mst_ne]; exact c3
  · rw [mcp_ne (by omega), mst_miss (by omega), mcp_ne (by omega), mcp_ne (by omega), mst_hit, ep p (by omega)]
  · rw [mcp_ne (by omega), mst_hit, mcp_ne (by omega), mcp_ne (by omega), mst_ne (by omega), ep p (by omega)]
  · rw [mcp_ne (by omega), mst_ne (by omega), mcp_ne (by omega), mcp_hit (by omega) (by omega), Nat.zero_add, Nat.sub_zero, mst_ne (by omega), ep (p + 8) (by omega)]
  · rw [mcp_ne (by omega), mst_ne (by omega), mcp_hit (by omega) (by omega), Nat.zero_add, Nat.sub_zero, mcp_ne (by omega), mst_ne (by omega), ep (p + 9) (by omega)]
  · rw [mcp_hit (by omega) (by omega), Nat.zero_add, Nat.sub_zero, mst_ne (by omega), mcp_ne (by omega), mcp_ne (by omega), mst_ne (by omega), ep (p + 10) (by omega)]
theorem laysLines_ok {a b : Int} (a0 : 0 ≤ a) (a1 : a < 6) (b0 : 0 ≤ b) (b1 : b < 6) (hab : a ≠ b) : TT (fn_Model_laysLines a b m) (fun _ m' => (∀ k, (k < 236 ∨ 239 < k) → m' k = m k) ∧ m' 236 = blk (m 236) 1 a b ∧ m' 237 = blk (m 237) 30 a b ∧ m' 238 = blk (m 238) 30 a b ∧ m' 239 = blk (m 239) 30 a b) := by
  unfold fn_Model_laysLines
  rw [if_pos ⟨a0, a1⟩, if_pos ⟨b0, b1⟩, bn_eq]
  refine lp_inv1 (bo := bo_Model_laysLines_14 a b) (fun _ => rfl) (fun i m' => 0 ≤ i ∧ i ≤ 30 ∧ (∀ k, (k < 236 ∨ 239 < k) → m' k = m k) ∧ m' 236 = mst m 236 b.toNat (m 236 a.toNat) 236 ∧ ∀ k : Nat, 237 ≤ k → k ≤ 239 → ∀ j : Nat, m' k j = if 30 * b ≤ (j : Int) ∧ (j : Int) < 30 * b + i then m k (30 * a + ((j : Int) - 30 * b)).toNat else m k j) (fun i _ => (30 - i).toNat) ?_ FU 0 _ ⟨by omega, by omega, fun k hk => mst_ne (by omega), rfl, fun k k0 k1 j => by rw [mst_ne (by omega), if_neg (by omega)]⟩ (by decide)
  intro k i m' hI hk
  obtain ⟨i0, i1, h1, h2, h3⟩ := hI
  unfold bo_Model_laysLines_14
  refine TT_if (fun g => ?_) (fun g => ?_)
  · simp (disch := omega) only [w32_in, g_pos, bn_eq, mst_ne]
    refine hk _ _ ⟨by omega, by omega, fun k hk => ?_, ?_, fun k k0 k1 j => ?_⟩ (by omega)
    · rw [mst_ne (by omega), mst_ne (by omega), mst_ne (by omega)]; exact h1 k hk
    · rw [mst_ne (by omega), mst_ne (by omega), mst_ne (by omega)]; exact h2
    · have e : ∀ k : Nat, 237 ≤ k → k ≤ 239 → m' k (30 * a + i).toNat = m k (30 * a + i).toNat := fun k k0 k1 => by rw [h3 k k0 k1, if_neg (by omega)]
      have hk3 : k = 237 ∨ k = 238 ∨ k = 239 := by omega
      have step : ∀ (q : Mm), q k = mst m' k (30 * b + i).toNat (m' k (30 * a + i).toNat) k → q k j = if 30 * b ≤ (j : Int) ∧ (j : Int) < 30 * b + (i + 1) then m k (30 * a + ((j : Int) - 30 * b)).toNat else m k j := by
        intro q hq
        rw [hq]
        by_cases g2 : j = (30 * b + i).toNat
        · subst g2
          rw [mst_hit, e k k0 k1, if_pos (by omega)]
          congr 1
          omega
        · rw [mst_miss g2, h3 k k0 k1]
          by_cases g3 : 30 * b ≤ (j : Int) ∧ (j : Int) < 30 * b + i
          · rw [if_pos g3, if_pos (by omega)]
          · rw [if_neg g3, if_neg (by omega)]
      rcases hk3 with rfl | rfl | rfl
      · exact step _ (by rw [mst_ne (by omega), mst_ne (by omega)])
      · refine step _ ?_
        rw [mst_ne (by omega)]
        funext z
        by_cases g2 : z = (30 * b + i).toNat
        · subst g2; rw [mst_hit, mst_hit]
        · rw [mst_miss g2, mst_miss g2, mst_ne (by omega)]
      · refine step _ ?_
        funext z
        by_cases g2 : z = (30 * b + i).toNat
        · subst g2; rw [mst_hit, mst_hit]
        · rw [mst_miss g2, mst_miss g2, mst_ne (by omega), mst_ne (by omega)]
  · have e : i = 30 := by omega
    subst e
    refine TT_some.mpr ⟨h1, ?_, funext fun j => h3 237 (by omega) (by omega) j, funext fun j => h3 238 (by omega) (by omega) j, funext fun j => h3 239 (by omega) (by omega) j⟩
    rw [h2]
    funext j
    unfold blk
    by_cases g2 : j = b.toNat
    · subst g2
      rw [mst_hit, if_pos (by omega)]
      congr 1
      omega
    · rw [mst_miss g2, if_neg (by omega)]
theorem laysTold_ok {a b : Int} (a0 : 0 ≤ a) (a1 : a < 5) (b0 : 0 ≤ b) (b1 : b < 5) (hab : a ≠ b) (h243 : ∀ j, m 243 j = 0 ∨ m 243 j = 1) : TT (fn_Model_laysTold a b m) (fun _ m' => (∀ k, (k < 240 ∨ 244 < k) → m' k = m k) ∧ m' 240 = blk (m 240) 1 a b ∧ m' 241 = blk (m 241) 8 a b ∧ m' 242 = blk (m 242) 8 a b ∧ m' 243 = blk (m 243) 8 a b ∧ m' 244 = blk (m 244) 6 a b) := by
  unfold fn_Model_laysTold
  rw [if_pos ⟨a0, a1⟩, if_pos ⟨b0, b1⟩, bn_eq]
  refine lp_inv1 (bo := bo_Model_laysTold_14 a b) (fun _ => rfl) (fun i m' => 0 ≤ i ∧ i ≤ 8 ∧ (∀ k, (k < 240 ∨ 243 < k) → m' k = m k) ∧ m' 240 = mst m 240 b.toNat (m 240 a.toNat) 240 ∧ ∀ k : Nat, 241 ≤ k → k ≤ 243 → ∀ j : Nat, m' k j = if 8 * b ≤ (j : Int) ∧ (j : Int) < 8 * b + i then m k (8 * a + ((j : Int) - 8 * b)).toNat else m k j) (fun i _ => (8 - i).toNat) ?_ FU 0 _ ⟨by omega, by omega, fun k hk => mst_ne (by omega), rfl, fun k k0 k1 j => by rw [mst_ne (by omega), if_neg (by omega)]⟩ (by decide)
  intro k i m' hI hk
  obtain ⟨i0, i1, h1, h2, h3⟩ := hI
  unfold bo_Model_laysTold_14
  refine TT_if (fun g => ?_) (fun g => ?_)
  · have e : ∀ k : Nat, 241 ≤ k → k ≤ 243 → m' k (8 * a + i).toNat = m k (8 * a + i).toNat := fun k k0 k1 => by rw [h3 k k0 k1, if_neg (by omega)]
    simp (disch := omega) only [w32_in, g_pos, bn_eq, mst_ne]
    refine TT_gd (by rw [e 243 (by omega) (by omega)]; exact h243 _) ?_
    refine hk _ _ ⟨by omega, by omega, fun k hk => ?_, ?_, fun k k0 k1 j => ?_⟩ (by omega)
    · rw [mst_ne (by omega), mst_ne (by omega), mst_ne (by omega)]; exact h1 k hk
    · rw [mst_ne (by omega), mst_ne (by omega), mst_ne (by omega)]; exact h2
    · have hk3 : k = 241 ∨ k = 242 ∨ k = 243 := by omega
      have step : ∀ (q : Mm), q k = mst m' k (8 * b + i).toNat (m' k (8 * a + i).toNat) k → q k j = if 8 * b ≤ (j : Int) ∧ (j : Int) < 8 * b + (i + 1) then m k (8 * a + ((j : Int) - 8 * b)).toNat else m k j := by
        intro q hq
        rw [hq]
        by_cases g2 : j = (8 * b + i).toNat
        · subst g2
          rw [mst_hit, e k k0 k1, if_pos (by omega)]
          congr 1
          omega
        · rw [mst_miss g2, h3 k k0 k1]
          by_cases g3 : 8 * b ≤ (j : Int) ∧ (j : Int) < 8 * b + i
          · rw [if_pos g3, if_pos (by omega)]
          · rw [if_neg g3, if_neg (by omega)]
      rcases hk3 with rfl | rfl | rfl
      · exact step _ (by rw [mst_ne (by omega), mst_ne (by omega)])
      · refine step _ ?_
        rw [mst_ne (by omega)]
        funext z
        by_cases g2 : z = (8 * b + i).toNat
        · subst g2; rw [mst_hit, mst_hit]
        · rw [mst_miss g2, mst_miss g2, mst_ne (by omega)]
      · refine step _ ?_
        funext z
        by_cases g2 : z = (8 * b + i).toNat
        · subst g2; rw [mst_hit, mst_hit]
        · rw [mst_miss g2, mst_miss g2, mst_ne (by omega), mst_ne (by omega)]
  · have e : i = 8 := by omega
    subst e
    unfold bo_Model_laysTold_92
    refine lp_inv1 (bo := bo_Model_laysTold_94 a b) (fun _ => rfl) (fun i m2 => 0 ≤ i ∧ i ≤ 6 ∧ (∀ k, k ≠ 244 → m2 k = m' k) ∧ ∀ j : Nat, m2 244 j = if 6 * b ≤ (j : Int) ∧ (j : Int) < 6 * b + i then m 244 (6 * a + ((j : Int) - 6 * b)).toNat else m 244 j) (fun i _ => (6 - i).toNat) ?_ FU 0 m' ⟨by omega, by omega, fun _ _ => rfl, fun j => by rw [h1 244 (by omega), if_neg (by omega)]⟩ (by decide)
    intro k2 i m2 hI hk2
    obtain ⟨i0, i1, g1, g2⟩ := hI
    unfold bo_Model_laysTold_94
    refine TT_if (fun g => ?_) (fun g => ?_)
    · simp (disch := omega) only [w32_in, g_pos, bn_eq]
      refine hk2 _ _ ⟨by omega, by omega, fun k hk => by rw [mst_ne hk]; exact g1 k hk, fun j => ?_⟩ (by omega)
      by_cases g3 : j = (6 * b + i).toNat
      · subst g3
        rw [mst_hit, g2, if_neg (by omega), if_pos (by omega)]
        congr 1
        omega
      · rw [mst_miss g3, g2]
        by_cases g4 : 6 * b ≤ (j : Int) ∧ (j : Int) < 6 * b + i
        · rw [if_pos g4, if_pos (by omega)]
        · rw [if_neg g4, if_neg (by omega)]
    · have e : i = 6 := by omega
      subst e
      refine TT_some.mpr ⟨fun k hk => (g1 k (by omega)).trans (h1 k (by omega)), ?_, ?_, ?_, ?_, funext fun j => g2 j⟩
      · rw [g1 240 (by omega), h2]
        funext j
        unfold blk
        by_cases g3 : j = b.toNat
        · subst g3
          rw [mst_hit, if_pos (by omega)]
          congr 1
          omega
        · rw [mst_miss g3, if_neg (by omega)]
      · rw [g1 241 (by omega)]; exact funext fun j => h3 241 (by omega) (by omega) j
      · rw [g1 242 (by omega)]; exact funext fun j => h3 242 (by omega) (by omega) j
      · rw [g1 243 (by omega)]; exact funext fun j => h3 243 (by omega) (by omega) j
end Ml
