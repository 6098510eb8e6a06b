/-! What a law's line is worth in the reference. -/
section Lm
def FdM (D : Int) (m m' : Mm) : Prop := (∀ a, a < 226 ∨ 234 < a → m' a = m a) ∧ ∀ a, 226 ≤ a → a ≤ 234 → ∀ j : Nat, (j : Int) < D → m' a j = m a j
theorem FdM_refl {D : Int} {m : Mm} : FdM D m m := ⟨fun _ _ => rfl, fun _ _ _ _ _ => rfl⟩
theorem FdM_trans {D D' D'' : Int} {a b c : Mm} (h : FdM D' a b) (g : FdM D'' b c) (e : D ≤ D') (e' : D ≤ D'') : FdM D a c := ⟨fun k hk => (g.1 k hk).trans (h.1 k hk), fun k k0 k1 j hj => (g.2 k k0 k1 j (by omega)).trans (h.2 k k0 k1 j (by omega))⟩
theorem FdM_m {D x : Int} {m : Mm} {a j : Nat} (a0 : 226 ≤ a) (a1 : a ≤ 234) (hj : D ≤ (j : Int)) : FdM D m (mst m a j x) := ⟨fun k hk => mst_ne (by omega), fun k k0 k1 i hi => by
  by_cases z : k = a
  · subst z; exact mst_miss (by omega)
  · rw [mst_ne z]⟩
def EvM (m : Mm) (o s y : Int) (r : Nat → Int) (a b : Int) : Prop := b ≤ m 222 0 ∧ b ≤ 1000 ∧ 0 ≤ a ∧ (∀ t : Int, a ≤ t → t < b → m 223 t.toNat = r t.toNat) ∧ m 235 1 = o ∧ m 235 2 = s ∧ m 235 3 = y
theorem EvM_sub {m m' : Mm} {o s y a b a' b' D : Int} {r : Nat → Int} (h : EvM m o s y r a b) (f : FdM D m m') (ha : a ≤ a') (hb : b' ≤ b) : EvM m' o s y r a' b' := by
  obtain ⟨h1, h2, h3, h4, h5⟩ := h
  unfold EvM
  rw [f.1 222 (by omega), f.1 223 (by omega), f.1 235 (by omega)]
  exact ⟨by omega, by omega, by omega, fun t t0 t1 => h4 t (by omega) (by omega), h5⟩
def B0 (D : Int) (m : Mm) : Prop := D = 0 ∨ m 234 D.toNat ≠ 1
def sumv (D : Int) (m : Mm) : Int := if m 231 D.toNat = 21 then w32 (m 230 D.toNat - m 232 D.toNat) else w32 (m 230 D.toNat + m 232 D.toNat)
def testv (D : Int) (m : Mm) : Int := if m 229 D.toNat = 25 then (if m 228 D.toNat = sumv D m then 1 else 0) else (if m 229 D.toNat = 24 then (if m 228 D.toNat < sumv D m then 1 else 0) else sumv D m)
def andv (k b v : Int) : Int := if b = 26 then (if k = 0 then 0 else if v = 0 then 0 else 1) else v
def orv (k b v : Int) : Int := if b = 27 then (if k = 0 then (if v = 0 then 0 else 1) else 1) else v
def allv (D : Int) (m : Mm) : Int := orv (m 226 D.toNat) (m 227 D.toNat) (andv (m 226 D.toNat) (m 227 D.toNat) (testv D m))
theorem sums_ok {D : Int} {m : Mm} (d0 : 0 ≤ D) (d1 : D < 7) : fn_Model_sums D m = some (0, mst (mst m 230 D.toNat (sumv D m)) 233 D.toNat 0) := by
  unfold fn_Model_sums bo_Model_sums_45 sumv
  have g : 0 ≤ D ∧ D < 7 := ⟨d0, d1⟩
  by_cases z : m 231 D.toNat = 21
  · simp only [if_pos g, if_pos z, bn_eq]
  · simp only [if_pos g, if_neg z, bn_eq]
theorem e106 {D v : Int} {m : Mm} (g : 0 ≤ D ∧ D < 7) : bo_Model_tests_106 D v m = bo_Model_tests_136 D (orv (m 226 D.toNat) (m 227 D.toNat) v) m := by
  unfold bo_Model_tests_106 bo_Model_tests_130 bo_Model_tests_135 orv
  rw [if_pos g]
  by_cases z : m 227 D.toNat = 27
  · rw [if_pos z, if_pos z, if_pos g]
    by_cases y : m 226 D.toNat = 0
    · rw [if_pos y, if_pos y]
      by_cases x : v = 0
      · rw [if_pos x, if_pos x]
      · rw [if_neg x, if_neg x]
    · rw [if_neg y, if_neg y]
  · rw [if_neg z, if_neg z]
theorem e76 {D v : Int} {m : Mm} (g : 0 ≤ D ∧ D < 7) : bo_Model_tests_76 D v m = bo_Model_tests_106 D (andv (m 226 D.toNat) (m 227 D.toNat) v) m := by
  unfold bo_Model_tests_76 bo_Model_tests_104 bo_Model_tests_105 andv
  rw [if_pos g]
  by_cases z : m 227 D.toNat = 26
  · rw [if_pos z, if_pos z, if_pos g]
    by_cases y : m 226 D.toNat = 0
    · rw [if_pos y, if_pos y]
    · rw [if_neg y, if_neg y]
      by_cases x : v = 0
      · rw [if_pos x, if_pos x]
      · rw [if_neg x, if_neg x]
  · rw [if_neg z, if_neg z]
theorem tests_ok {D : Int} {m : Mm} (d0 : 0 ≤ D) (d1 : D < 7) : ∃ m', fn_Model_tests D m = some (0, m') ∧ FdM D m m' ∧ m' 226 D.toNat = allv D m ∧ m' 229 D.toNat = 0 ∧ m' 230 D.toNat = 0 ∧ m' 231 D.toNat = 20 ∧ m' 233 D.toNat = 0 ∧ m' 234 D.toNat = m 234 D.toNat := by
  have g : 0 ≤ D ∧ D < 7 := ⟨d0, d1⟩
  unfold fn_Model_tests
  rw [sums_ok d0 d1, bd_some, if_pos g, bn_eq, if_pos g, if_pos g, if_pos g]
  have s230 : mst (mst m 230 D.toNat (sumv D m)) 233 D.toNat 0 230 D.toNat = sumv D m := by rw [mst_ne (by decide), mst_hit]
  have s229 : mst (mst m 230 D.toNat (sumv D m)) 233 D.toNat 0 229 = m 229 := by rw [mst_ne (by decide), mst_ne (by decide)]
  have s228 : mst (mst m 230 D.toNat (sumv D m)) 233 D.toNat 0 228 = m 228 := by rw [mst_ne (by decide), mst_ne (by decide)]
  have s227 : mst (mst m 230 D.toNat (sumv D m)) 233 D.toNat 0 227 = m 227 := by rw [mst_ne (by decide), mst_ne (by decide)]
  have s226 : mst (mst m 230 D.toNat (sumv D m)) 233 D.toNat 0 226 = m 226 := by rw [mst_ne (by decide), mst_ne (by decide)]
  have s234 : mst (mst m 230 D.toNat (sumv D m)) 233 D.toNat 0 234 = m 234 := by rw [mst_ne (by decide), mst_ne (by decide)]
  have s233 : mst (mst m 230 D.toNat (sumv D m)) 233 D.toNat 0 233 D.toNat = 0 := mst_hit
  have sF : FdM D m (mst (mst m 230 D.toNat (sumv D m)) 233 D.toNat 0) := FdM_trans (FdM_m (by omega) (by omega) (by omega)) (FdM_m (by omega) (by omega) (by omega)) (Int.le_refl _) (Int.le_refl _)
  revert s230 s229 s228 s227 s226 s234 s233 sF
  generalize mst (mst m 230 D.toNat (sumv D m)) 233 D.toNat 0 = m1
  intro s230 s229 s228 s227 s226 s234 s233 sF
  have key : (if m1 229 D.toNat = 24 then if m1 228 D.toNat < m1 230 D.toNat then bo_Model_tests_43 D 1 m1 else bo_Model_tests_43 D 0 m1 else bo_Model_tests_44 D (m1 230 D.toNat) m1) = bo_Model_tests_136 D (allv D m) m1 := by
    have e44 : ∀ v, bo_Model_tests_44 D v m1 = bo_Model_tests_136 D (orv (m 226 D.toNat) (m 227 D.toNat) (andv (m 226 D.toNat) (m 227 D.toNat) (if m 229 D.toNat = 25 then (if m 228 D.toNat = sumv D m then 1 else 0) else v))) m1 := fun v => by
      unfold bo_Model_tests_44 bo_Model_tests_75
      rw [if_pos g, s229, s228, s230]
      by_cases z : m 229 D.toNat = 25
      · rw [if_pos z, if_pos g, if_pos g, if_pos z]
        by_cases y : m 228 D.toNat = sumv D m
        · rw [if_pos y, if_pos y, e76 g, e106 g, s226, s227]
        · rw [if_neg y, if_neg y, e76 g, e106 g, s226, s227]
      · rw [if_neg z, if_neg z, e76 g, e106 g, s226, s227]
    unfold bo_Model_tests_43
    rw [e44, e44, e44, s229, s228, s230]
    unfold allv testv
    by_cases z : m 229 D.toNat = 24
    · have z5 : ¬ m 229 D.toNat = 25 := by omega
      rw [if_pos z, if_neg z5, if_neg z5, if_neg z5, if_pos z]
      by_cases y : m 228 D.toNat < sumv D m
      · rw [if_pos y, if_pos y]
      · rw [if_neg y, if_neg y]
    · rw [if_neg z, if_neg z]
  rw [key]
  unfold bo_Model_tests_136
  rw [if_pos g, bn_eq, if_pos g, bn_eq, if_pos g, bn_eq, if_pos g, bn_eq]
  refine ⟨_, rfl, ?_, ?_, ?_, ?_, mst_hit, ?_, ?_⟩
  · exact FdM_trans sF (FdM_trans (FdM_trans (FdM_trans (FdM_m (by omega) (by omega) (by omega)) (FdM_m (by omega) (by omega) (by omega)) (Int.le_refl _) (Int.le_refl _)) (FdM_m (by omega) (by omega) (by omega)) (Int.le_refl _) (Int.le_refl _)) (FdM_m (by omega) (by omega) (by omega)) (Int.le_refl _) (Int.le_refl _)) (Int.le_refl _) (Int.le_refl _)
  · rw [mst_ne (by decide), mst_ne (by decide), mst_ne (by decide), mst_hit]
  · rw [mst_ne (by decide), mst_ne (by decide), mst_hit]
  · rw [mst_ne (by decide), mst_hit]
  · rw [mst_ne (by decide), mst_ne (by decide), mst_ne (by decide), mst_ne (by decide)]; exact s233
  · rw [mst_ne (by decide), mst_ne (by decide), mst_ne (by decide), mst_ne (by decide), s234]
theorem opens_ok {D : Int} {m : Mm} (d0 : 0 ≤ D) (d1 : D < 7) : ∃ m', fn_Model_opens D m = some (0, m') ∧ FdM D m m' ∧ m' 227 D.toNat = 0 ∧ m' 229 D.toNat = 0 ∧ m' 230 D.toNat = 0 ∧ m' 231 D.toNat = 20 ∧ m' 233 D.toNat = 0 ∧ m' 234 = m 234 := by
  have g : 0 ≤ D ∧ D < 7 := ⟨d0, d1⟩
  unfold fn_Model_opens
  rw [if_pos g, bn_eq, if_pos g, bn_eq, if_pos g, bn_eq, if_pos g, bn_eq, if_pos g, bn_eq]
  refine ⟨_, rfl, ?_, ?_, ?_, ?_, ?_, mst_hit, ?_⟩
  · exact FdM_trans (FdM_trans (FdM_trans (FdM_trans (FdM_m (by omega) (by omega) (by omega)) (FdM_m (by omega) (by omega) (by omega)) (Int.le_refl _) (Int.le_refl _)) (FdM_m (by omega) (by omega) (by omega)) (Int.le_refl _) (Int.le_refl _)) (FdM_m (by omega) (by omega) (by omega)) (Int.le_refl _) (Int.le_refl _)) (FdM_m (by omega) (by omega) (by omega)) (Int.le_refl _) (Int.le_refl _)
  · rw [mst_ne (by decide), mst_ne (by decide), mst_ne (by decide), mst_ne (by decide), mst_hit]
  · rw [mst_ne (by decide), mst_ne (by decide), mst_ne (by decide), mst_hit]
  · rw [mst_ne (by decide), mst_ne (by decide), mst_hit]
  · rw [mst_ne (by decide), mst_hit]
  · rw [mst_ne (by decide), mst_ne (by decide), mst_ne (by decide), mst_ne (by decide), mst_ne (by decide)]
/-! the levels -/
def SemP (D : Int) (r : Nat → Int) (a b : Int) (v : VL) : Prop := a < b ∧ ∀ (m : Mm) (o s y : Int) (k : Nat), EvM m o s y r a b → okV o s y → ∃ m' f, 1990 + D ≤ ((f : Nat) : Int) ∧ lp_Model_worked_14 0 (k + (b - a).toNat) D a m = lp_Model_worked_268 0 (lp_Model_worked_14 0 k) f D (b - 1) (v o s y) m' ∧ FdM (D + 1) m m'
def SemX (pre : Mm → Prop) (post : Mm → Mm → Int → Prop) (D : Int) (r : Nat → Int) (a b : Int) (v : VL) : Prop := a < b ∧ ∀ (m : Mm) (o s y : Int) (k : Nat), EvM m o s y r a b → okV o s y → B0 D m → pre m → ∃ m', lp_Model_worked_14 0 (k + (b - a).toNat) D a m = lp_Model_worked_14 0 k D b m' ∧ FdM D m m' ∧ post m m' (v o s y)
def prT (D : Int) (m : Mm) : Prop := m 233 D.toNat = 0
def poT (D : Int) (m m' : Mm) (x : Int) : Prop := (∀ a, (226 ≤ a ∧ a ≤ 231) ∨ a = 234 → m' a D.toNat = m a D.toNat) ∧ m' 232 D.toNat = x
def prS (D : Int) (m : Mm) : Prop := m 233 D.toNat = 0 ∧ m 230 D.toNat = 0 ∧ m 231 D.toNat = 20
def poS (D : Int) (m m' : Mm) (x : Int) : Prop := (∀ a, (226 ≤ a ∧ a ≤ 229) ∨ a = 234 → m' a D.toNat = m a D.toNat) ∧ sumv D m' = x
def prE (D : Int) (m : Mm) : Prop := prS D m ∧ m 229 D.toNat = 0
def poE (D : Int) (m m' : Mm) (x : Int) : Prop := (∀ a, a = 226 ∨ a = 227 ∨ a = 234 → m' a D.toNat = m a D.toNat) ∧ testv D m' = x
def prA (D : Int) (m : Mm) : Prop := prE D m ∧ m 227 D.toNat = 0
def poA (D : Int) (m m' : Mm) (x : Int) : Prop := m' 234 D.toNat = m 234 D.toNat ∧ allv D m' = x
abbrev SemT (D : Int) := SemX (prT D) (poT D) D
abbrev SemS (D : Int) := SemX (prS D) (poS D) D
abbrev SemE (D : Int) := SemX (prE D) (poE D) D
abbrev SemA (D : Int) := SemX (prA D) (poA D) D
theorem SemP_congr {D a b : Int} {r r' : Nat → Int} {v : VL} (g : SemP D r a b v) (e : ∀ t : Int, a ≤ t → t < b → r' t.toNat = r t.toNat) : SemP D r' a b v := ⟨g.1, fun m o s y k h1 h2 => g.2 m o s y k ⟨h1.1, h1.2.1, h1.2.2.1, fun t t0 t1 => (h1.2.2.2.1 t t0 t1).trans (e t t0 t1), h1.2.2.2.2⟩ h2⟩
theorem SemX_congr {pre : Mm → Prop} {post : Mm → Mm → Int → Prop} {D a b : Int} {r r' : Nat → Int} {v : VL} (g : SemX pre post D r a b v) (e : ∀ t : Int, a ≤ t → t < b → r' t.toNat = r t.toNat) : SemX pre post D r' a b v := ⟨g.1, fun m o s y k h1 h2 h3 h4 => g.2 m o s y k ⟨h1.1, h1.2.1, h1.2.2.1, fun t t0 t1 => (h1.2.2.2.1 t t0 t1).trans (e t t0 t1), h1.2.2.2.2⟩ h2 h3 h4⟩
/-- the step at a code -/
theorem wk_step {m : Mm} {D a x : Int} {k : Nat} {o s y b : Int} {r : Nat → Int} (h : EvM m o s y r a b) (hb : a < b) (hx : r a.toNat = x) : lp_Model_worked_14 0 (k + 1) D a m = (if x = 28 then (bo_Model_worked_46 0 (lp_Model_worked_14 0 k) D a x m) else (if x = 30 then (bo_Model_worked_46 0 (lp_Model_worked_14 0 k) D a x m) else (if x = 20 then (bo_Model_worked_89 0 (lp_Model_worked_14 0 k) D a x m) else (if x = 21 then (bo_Model_worked_89 0 (lp_Model_worked_14 0 k) D a x m) else (if x = 22 then (if 0 ≤ D ∧ D < 7 then bn (mst m 233 D.toNat x) fun m5 => bo_Model_worked_329 0 (lp_Model_worked_14 0 k) D a m5 else none) else (if x = 24 then (bo_Model_worked_137 0 (lp_Model_worked_14 0 k) D a x m) else (if x = 25 then (bo_Model_worked_137 0 (lp_Model_worked_14 0 k) D a x m) else (if x = 26 then (bo_Model_worked_194 0 (lp_Model_worked_14 0 k) D a x m) else (if x = 27 then (bo_Model_worked_194 0 (lp_Model_worked_14 0 k) D a x m) else (if x < 100 then (if x < 20 then (if 0 ≤ x ∧ x < 20 then bo_Model_worked_243 0 (lp_Model_worked_14 0 k) D a x (m 235 x.toNat) m else none) else (bo_Model_worked_243 0 (lp_Model_worked_14 0 k) D a x 0 m)) else (bo_Model_worked_243 0 (lp_Model_worked_14 0 k) D a x (w32 (x - 100)) m))))))))))) := by
  obtain ⟨h1, h2, h3, h4, -⟩ := h
  show bo_Model_worked_14 0 _ D a m = _
  unfold bo_Model_worked_14
  rw [if_pos (by decide : (0 : Int) ≤ 0 ∧ (0 : Int) < 2), tn0, if_pos (by omega : a < m 222 0), if_pos (by omega : 0 ≤ a ∧ a < 2000), bn_eq, h4 a (by omega) hb, hx]
end Lm
