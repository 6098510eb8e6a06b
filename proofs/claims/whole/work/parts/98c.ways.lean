/-! The ways, in the reference. -/
section Wy
def W0 (P : Nat → Int) (p q : Int) : Int := if p = q then 0 else if 0 < P (6 * p + q).toNat then P (6 * p + q).toNat else 100000
def rnd (b : Int) (W : Int → Int → Int) (p q : Int) : Int := imn (W p q) (W p b + W b q)
def rnds (P : Nat → Int) : Nat → Int → Int → Int
  | 0 => W0 P
  | n + 1 => rnd (n : Int) (rnds P n)
def GW (B N : Int) (W : Int → Int → Int) : Prop := ∀ p q : Int, 0 ≤ p → p < 6 → 0 ≤ q → q < 6 → 0 ≤ W p q ∧ W p q ≤ 100000 ∧ (p = q → W p q = 0) ∧ (p ≠ q → 1 ≤ W p q) ∧ (W p q < 100000 → W p q ≤ B) ∧ (p ≠ q → N ≤ p ∨ N ≤ q → W p q = 100000)
def PG (N : Int) (P : Nat → Int) : Prop := ∀ p q : Int, 0 ≤ p → p < 6 → 0 ≤ q → q < 6 → 0 ≤ P (6 * p + q).toNat ∧ P (6 * p + q).toNat ≤ 30 ∧ (N ≤ p ∨ N ≤ q → P (6 * p + q).toNat = 0)
theorem GW_0 {N : Int} {P : Nat → Int} (h : PG N P) : GW 30 N (W0 P) := by
  intro p q p0 p1 q0 q1
  obtain ⟨h1, h2, h3⟩ := h p q p0 p1 q0 q1
  unfold W0
  by_cases z : p = q
  · rw [if_pos z]
    exact ⟨by omega, by omega, fun _ => rfl, fun y => absurd z y, fun _ => by omega, fun y => absurd z y⟩
  · rw [if_neg z]
    by_cases y : 0 < P (6 * p + q).toNat
    · rw [if_pos y]
      exact ⟨by omega, by omega, fun x => absurd x z, fun _ => by omega, fun _ => h2, fun _ x => by have := h3 x; omega⟩
    · rw [if_neg y]
      exact ⟨by omega, by omega, fun x => absurd x z, fun _ => by omega, fun x => by omega, fun _ _ => rfl⟩
theorem GW_rnd {B N b : Int} {W : Int → Int → Int} (h : GW B N W) (b0 : 0 ≤ b) (b6 : b < 6) (hB : 0 ≤ B) : GW (2 * B) N (rnd b W) := by
  intro p q p0 p1 q0 q1
  obtain ⟨a1, a2, a3, a4, a5, a6⟩ := h p q p0 p1 q0 q1
  obtain ⟨c1, c2, c3, c4, c5, c6⟩ := h p b p0 p1 b0 b6
  obtain ⟨e1, e2, e3, e4, e5, e6⟩ := h b q b0 b6 q0 q1
  unfold rnd imn
  by_cases y : W p b + W b q < W p q
  · rw [if_pos y]
    refine ⟨by omega, by omega, fun x => ?_, fun x => ?_, fun x => ?_, fun x x2 => ?_⟩
    · have := a3 x; omega
    · by_cases z : p = b
      · have : b ≠ q := by omega
        have := e4 this; omega
      · have := c4 z; omega
    · have := c5 (by omega)
      have := e5 (by omega)
      omega
    · exfalso
      have ha := a6 x x2
      rcases x2 with x2 | x2
      · by_cases z : p = b
        · subst z; omega
        · have := c6 z (Or.inl x2); omega
      · by_cases z : b = q
        · subst z; omega
        · have := e6 z (Or.inr x2); omega
  · rw [if_neg y]
    exact ⟨a1, a2, a3, a4, fun x => by have := a5 x; omega, a6⟩
theorem rnd_b {B N b : Int} {W : Int → Int → Int} (h : GW B N W) (b0 : 0 ≤ b) (b6 : b < 6) : (∀ p : Int, rnd b W p b = W p b) ∧ ∀ q : Int, rnd b W b q = W b q := by
  have hb := (h b b b0 b6 b0 b6).2.2.1 rfl
  refine ⟨fun p => ?_, fun q => ?_⟩
  · unfold rnd imn
    rw [hb, if_neg (by omega)]
  · unfold rnd imn
    rw [hb, if_neg (by omega)]
def Bn : Nat → Int
  | 0 => 30
  | n + 1 => 2 * Bn n
theorem Bn_0 : ∀ n, 0 ≤ Bn n := fun n => by
  induction n with
  | zero => decide
  | succ n ih => show 0 ≤ 2 * Bn n; omega
theorem GW_all {N : Int} {P : Nat → Int} (h : PG N P) : ∀ n : Nat, n ≤ 6 → GW (Bn n) N (rnds P n) := fun n => by
  induction n with
  | zero => exact fun _ => GW_0 h
  | succ n ih => exact fun hn => GW_rnd (ih (by omega)) (by omega) (by omega) (Bn_0 n)
/-- rounds over places that are not told change nothing between told ones -/
theorem rnds_N {N : Int} {P : Nat → Int} (h : PG N P) (p q : Int) (p0 : 0 ≤ p) (p1 : p < N) (q0 : 0 ≤ q) (q1 : q < N) (n0 : 0 ≤ N) (n6 : N ≤ 6) : ∀ j : Nat, N + j ≤ 6 → rnds P (N.toNat + j) p q = rnds P N.toNat p q := fun j => by
  induction j with
  | zero => exact fun _ => rfl
  | succ j ih =>
    intro hj
    rw [← ih (by omega)]
    have g := GW_all h (N.toNat + j) (by omega)
    have e : ((N.toNat + j : Nat) : Int) = N + j := by omega
    show rnd ((N.toNat + j : Nat) : Int) (rnds P (N.toNat + j)) p q = _
    rw [e]
    generalize rnds P (N.toNat + j) = W at *
    have a := (g p (N + j) p0 (by omega) (by omega) (by omega)).2.2.2.2.2 (by omega) (Or.inr (by omega))
    have c := g p q p0 (by omega) q0 (by omega)
    have d := g (N + j) q (by omega) (by omega) q0 (by omega)
    unfold rnd imn
    rw [if_neg (by omega)]
theorem di6_all : ∀ k : Nat, k < 36 → idv (k : Int) 6 = ((k / 6 : Nat) : Int) ∧ irm (k : Int) 6 = ((k % 6 : Nat) : Int) := by decide +kernel
theorem di6 {v : Int} (v0 : 0 ≤ v) (v1 : v < 36) : idv v 6 = v / 6 ∧ irm v 6 = v % 6 := by
  obtain ⟨k, rfl⟩ : ∃ k : Nat, v = k := ⟨v.toNat, by omega⟩
  obtain ⟨h1, h2⟩ := di6_all k (by omega)
  rw [h1, h2]
  omega
variable {m : Mm}
theorem laysWays_ok {N : Int} (h : PG N (m 209)) : TT (fn_Model_laysWays m) (fun _ m' => (∀ a, a ≠ 250 → m' a = m a) ∧ ∀ p q : Int, 0 ≤ p → p < 6 → 0 ≤ q → q < 6 → m' 250 (6 * p + q).toNat = rnds (m 209) 6 p q) := by
  unfold fn_Model_laysWays
  refine lp_inv1 (bo := bo_Model_laysWays_2) (fun _ => rfl) (fun v m' => 0 ≤ v ∧ v ≤ 36 ∧ (∀ a, a ≠ 250 → m' a = m a) ∧ ∀ p q : Int, 0 ≤ p → p < 6 → 0 ≤ q → q < 6 → 6 * p + q < v → m' 250 (6 * p + q).toNat = W0 (m 209) p q) (fun v _ => (36 - v).toNat) ?_ FU 0 m ⟨by omega, by omega, fun _ _ => rfl, fun p q p0 p1 q0 q1 hv => by omega⟩ (by decide)
  intro k v m1 hI hk
  obtain ⟨v0, v1, f1, f2⟩ := hI
  unfold bo_Model_laysWays_2
  refine TT_if (fun g => ?_) (fun g => ?_)
  · obtain ⟨d1, d2⟩ := di6 v0 g
    have step : ∀ x, x = W0 (m 209) (v / 6) (v % 6) → TT (bo_Model_laysWays_49 k v v x m1) (fun _ m' => (∀ a, a ≠ 250 → m' a = m a) ∧ ∀ p q : Int, 0 ≤ p → p < 6 → 0 ≤ q → q < 6 → m' 250 (6 * p + q).toNat = rnds (m 209) 6 p q) := fun x hx => by
      unfold bo_Model_laysWays_49
      rw [if_pos (by omega : 0 ≤ v ∧ v < 36), bn_eq, w32_in (x := v + 1) (by omega) (by omega)]
      refine hk _ _ ⟨by omega, by omega, fun a ha => by rw [mst_ne ha]; exact f1 a ha, fun p q p0 p1 q0 q1 hv => ?_⟩ (by omega)
      rw [mst_self]
      by_cases z : 6 * p + q = v
      · rw [if_pos (by omega), hx]
        have e1 : v / 6 = p := by omega
        have e2 : v % 6 = q := by omega
        rw [e1, e2]
      · rw [if_neg (by omega)]
        exact f2 p q p0 p1 q0 q1 (by omega)
    rw [d1, d2, f1 209 (by omega)]
    have ev : 6 * (v / 6) + v % 6 = v := by omega
    refine TT_if (fun y => step 0 (by unfold W0; rw [if_pos y])) (fun y => ?_)
    rw [if_pos (by omega : 0 ≤ v ∧ v < 72)]
    refine TT_if (fun x => ?_) (fun x => step _ (by unfold W0; rw [if_neg y, ev, if_neg x]))
    rw [if_pos (by omega : 0 ≤ v ∧ v < 72)]
    exact step _ (by unfold W0; rw [if_neg y, ev, if_pos x])
  · have ev : v = 36 := by omega
    subst ev
    unfold bo_Model_laysWays_56
    refine lp_inv1 (bo := bo_Model_laysWays_58) (fun _ => rfl) (fun b m' => 0 ≤ b ∧ b ≤ 6 ∧ (∀ a, a ≠ 250 → m' a = m a) ∧ ∀ p q : Int, 0 ≤ p → p < 6 → 0 ≤ q → q < 6 → m' 250 (6 * p + q).toNat = rnds (m 209) b.toNat p q) (fun b _ => (6 - b).toNat) ?_ FU 0 m1 ⟨by omega, by omega, f1, fun p q p0 p1 q0 q1 => f2 p q p0 p1 q0 q1 (by omega)⟩ (by decide)
    intro kb b m2 hI2 hkb
    obtain ⟨b0, b1, g1, g2⟩ := hI2
    unfold bo_Model_laysWays_58
    refine TT_if (fun g6 => ?_) (fun g6 => ?_)
    · have hG := GW_all h b.toNat (by omega)
      have eb : rnds (m 209) (b + 1).toNat = rnd b (rnds (m 209) b.toNat) := by
        have e : (b + 1).toNat = b.toNat + 1 := by omega
        have e2 : ((b.toNat : Nat) : Int) = b := by omega
        rw [e]
        show rnd ((b.toNat : Nat) : Int) _ = _
        rw [e2]
      obtain ⟨r1, r2⟩ := rnd_b hG b0 g6
      refine lp_inv2 (lp := lp_Model_laysWays_66 kb) (bo := bo_Model_laysWays_66 kb) (fun _ => rfl) (fun b' v m' => b' = b ∧ 0 ≤ v ∧ v ≤ 36 ∧ (∀ a, a ≠ 250 → m' a = m a) ∧ ∀ p q : Int, 0 ≤ p → p < 6 → 0 ≤ q → q < 6 → m' 250 (6 * p + q).toNat = if 6 * p + q < v then rnd b (rnds (m 209) b.toNat) p q else rnds (m 209) b.toNat p q) (fun _ v _ => (36 - v).toNat) ?_ FU b 0 m2 ⟨rfl, by omega, by omega, g1, fun p q p0 p1 q0 q1 => by rw [if_neg (by omega)]; exact g2 p q p0 p1 q0 q1⟩ (by decide)
      intro k66 b' v m3 hI3 hk3
      obtain ⟨rfl, v0, v1, h1, h2⟩ := hI3
      unfold bo_Model_laysWays_66 bo_Model_laysWays_122
      refine TT_if (fun gv => ?_) (fun gv => ?_)
      · obtain ⟨d1, d2⟩ := di6 v0 gv
        have hv1 : 0 ≤ v / 6 ∧ v / 6 < 6 := by omega
        have hv2 : 0 ≤ v % 6 ∧ v % 6 < 6 := by omega
        rw [d1, d2, w32_in (x := v / 6 * 6) (by omega) (by omega), w32_in (x := v / 6 * 6 + b') (by omega) (by omega), w32_in (x := b' * 6) (by omega) (by omega), w32_in (x := b' * 6 + v % 6) (by omega) (by omega), if_pos (by omega : 0 ≤ v ∧ v < 36), if_pos (by omega : 0 ≤ v / 6 * 6 + b' ∧ v / 6 * 6 + b' < 36), if_pos (by omega : 0 ≤ b' * 6 + v % 6 ∧ b' * 6 + v % 6 < 36), if_pos (by omega : 0 ≤ v ∧ v < 36), bn_eq, w32_in (x := v + 1) (by omega) (by omega)]
        have x1 : m3 250 (v / 6 * 6 + b').toNat = rnds (m 209) b'.toNat (v / 6) b' := by
          have e : v / 6 * 6 + b' = 6 * (v / 6) + b' := by omega
          rw [e, h2 (v / 6) b' (by omega) (by omega) b0 g6, r1]
          split <;> rfl
        have x2 : m3 250 (b' * 6 + v % 6).toNat = rnds (m 209) b'.toNat b' (v % 6) := by
          have e : b' * 6 + v % 6 = 6 * b' + v % 6 := by omega
          rw [e, h2 b' (v % 6) b0 g6 (by omega) (by omega), r2]
          split <;> rfl
        have x3 : m3 250 v.toNat = rnds (m 209) b'.toNat (v / 6) (v % 6) := by
          have e : v.toNat = (6 * (v / 6) + v % 6).toNat := by omega
          rw [e, h2 (v / 6) (v % 6) (by omega) (by omega) (by omega) (by omega), if_neg (by omega)]
        have s1 := hG (v / 6) b' hv1.1 hv1.2 b0 g6
        have s2 := hG b' (v % 6) b0 g6 hv2.1 hv2.2
        rw [x1, x2, x3, w32_in (x := rnds (m 209) b'.toNat (v / 6) b' + rnds (m 209) b'.toNat b' (v % 6)) (by omega) (by omega)]
        refine hk3 _ _ _ ⟨rfl, by omega, by omega, fun a ha => by rw [mst_ne ha]; exact h1 a ha, fun p q p0 p1 q0 q1 => ?_⟩ (by omega)
        rw [mst_self]
        by_cases z : 6 * p + q = v
        · have e1 : v / 6 = p := by omega
          have e2 : v % 6 = q := by omega
          rw [if_pos (by omega : (6 * p + q).toNat = v.toNat), if_pos (by omega : 6 * p + q < v + 1), e1, e2]
          rfl
        · rw [if_neg (by omega : ¬ (6 * p + q).toNat = v.toNat), h2 p q p0 p1 q0 q1]
          by_cases y : 6 * p + q < v
          · rw [if_pos y, if_pos (by omega)]
          · rw [if_neg y, if_neg (by omega)]
      · rw [w32_in (x := b' + 1) (by omega) (by omega)]
        refine hkb _ _ ⟨by omega, by omega, h1, fun p q p0 p1 q0 q1 => ?_⟩ (by omega)
        rw [h2 p q p0 p1 q0 q1, if_pos (by omega), eb]
    · have eb : b = 6 := by omega
      subst eb
      exact TT_some.mpr ⟨g1, g2⟩
end Wy
