/-! How lines of a law are put together in the reference. -/
section Lx
variable {D : Int} {r : Nat → Int}
theorem dlv {m : Mm} {k f : Nat} {i x : Int} (d0 : 0 ≤ D) (d1 : D < 7) (hf : 1 ≤ f) (h : B0 D m) : lp_Model_worked_268 0 (lp_Model_worked_14 0 k) f D i x m = lp_Model_worked_14 0 k D (w32 (i + 1)) (mst m 232 D.toNat (if m 233 D.toNat = 0 then x else w32 (m 232 D.toNat * x))) := by
  obtain ⟨f, rfl⟩ : ∃ t, f = t + 1 := ⟨f - 1, by omega⟩
  have g : 0 ≤ D ∧ D < 7 := ⟨d0, d1⟩
  have e3 : bo_Model_worked_300 0 (lp_Model_worked_14 0 k) D i x m = lp_Model_worked_14 0 k D (w32 (i + 1)) (mst m 232 D.toNat (if m 233 D.toNat = 0 then x else w32 (m 232 D.toNat * x))) := by
    unfold bo_Model_worked_300 bo_Model_worked_328 bo_Model_worked_329
    rw [if_pos g]
    by_cases z : m 233 D.toNat = 0
    · rw [if_pos z, if_pos g, bn_eq, if_pos z]
    · rw [if_neg z, if_pos g, if_pos g, bn_eq, if_neg z]
  show bo_Model_worked_268 0 _ _ D i x m = _
  unfold bo_Model_worked_268
  rcases h with h | h
  · rw [if_neg (by omega : ¬ 0 < D), e3]
  · by_cases y : 0 < D
    · rw [if_pos y, if_pos g, if_neg h, e3]
    · rw [if_neg y, e3]
theorem SemP_leaf {a x : Int} {v : VL} (hr : r a.toNat = x) (hx : (100 ≤ x ∧ x ≤ 20000 ∧ v = fun _ _ _ => x - 100) ∨ (x = 1 ∧ v = fun o _ _ => o) ∨ (x = 2 ∧ v = fun _ s _ => s) ∨ (x = 3 ∧ v = fun _ _ y => y)) (d1 : D ≤ 6) : SemP D r a (a + 1) v := by
  refine ⟨by omega, fun m o s y k h1 h2 => ⟨m, 2000, by omega, ?_, FdM_refl⟩⟩
  have e1 : k + (a + 1 - a).toNat = k + 1 := by omega
  have e2 : a + 1 - 1 = a := by omega
  rw [e1, e2, wk_step h1 (by omega) hr]
  obtain ⟨q1, q2, q3, q4, q5, q6, q7⟩ := h1
  unfold bo_Model_worked_243
  have n : ¬ x = 28 ∧ ¬ x = 30 ∧ ¬ x = 20 ∧ ¬ x = 21 ∧ ¬ x = 22 ∧ ¬ x = 24 ∧ ¬ x = 25 ∧ ¬ x = 26 ∧ ¬ x = 27 ∧ ¬ x = 29 := by omega
  rw [if_neg n.1, if_neg n.2.1, if_neg n.2.2.1, if_neg n.2.2.2.1, if_neg n.2.2.2.2.1, if_neg n.2.2.2.2.2.1, if_neg n.2.2.2.2.2.2.1, if_neg n.2.2.2.2.2.2.2.1, if_neg n.2.2.2.2.2.2.2.2.1, if_neg n.2.2.2.2.2.2.2.2.2, if_neg n.2.2.2.2.2.2.2.2.2, if_neg n.2.2.2.2.2.2.2.2.2]
  rcases hx with ⟨x0, x1, rfl⟩ | ⟨rfl, rfl⟩ | ⟨rfl, rfl⟩ | ⟨rfl, rfl⟩
  · rw [if_neg (by omega : ¬ x < 100), w32_in (x := x - 100) (by omega) (by omega)]
    rfl
  · rw [if_pos (by decide : (1 : Int) < 100), if_pos (by decide : (1 : Int) < 20), if_pos (by decide : 0 ≤ (1 : Int) ∧ (1 : Int) < 20), tn1, q5]
    rfl
  · rw [if_pos (by decide : (2 : Int) < 100), if_pos (by decide : (2 : Int) < 20), if_pos (by decide : 0 ≤ (2 : Int) ∧ (2 : Int) < 20), tn2, q6]
    rfl
  · rw [if_pos (by decide : (3 : Int) < 100), if_pos (by decide : (3 : Int) < 20), if_pos (by decide : 0 ≤ (3 : Int) ∧ (3 : Int) < 20), tn3, q7]
    rfl
/-- one depth down -/
theorem down {m : Mm} {a : Int} {k : Nat} {z : Int} (d0 : 0 ≤ D) (d1 : D + 1 ≤ 6) (a0 : 0 ≤ a) (a1 : a < 1000) : ∃ m', bo_Model_worked_66 0 (lp_Model_worked_14 0 k) (w32 (D + 1)) a (w32 (D + 1)) z m = lp_Model_worked_14 0 k (D + 1) (a + 1) m' ∧ FdM (D + 1) m m' ∧ prA (D + 1) m' ∧ m' 234 (D + 1).toNat = z := by
  unfold bo_Model_worked_66 bo_Model_worked_329
  rw [w32_in (x := D + 1) (by omega) (by omega), if_pos (by omega : 0 ≤ D + 1 ∧ D + 1 < 7), bn_eq]
  obtain ⟨m', e1, e2, e3, e4, e5, e6, e7, e8⟩ := opens_ok (D := D + 1) (m := mst m 234 (D + 1).toNat z) (by omega) (by omega)
  rw [e1, bd_some, w32_in (x := a + 1) (by omega) (by omega)]
  refine ⟨m', rfl, FdM_trans (FdM_m (by omega) (by omega) (by omega)) e2 (Int.le_refl _) (Int.le_refl _), ⟨⟨⟨e7, e5, e6⟩, e4⟩, e3⟩, ?_⟩
  rw [e8, mst_hit]
theorem SemP_not {a b : Int} {v : VL} (g : SemP (D + 1) r (a + 1) b v) (hr : r a.toNat = 30) (d0 : 0 ≤ D) (d1 : D + 1 ≤ 6) : SemP D r a b (fun o s y => if v o s y = 0 then 1 else 0) := by
  have hab := g.1
  refine ⟨by omega, fun m o s y k h1 h2 => ?_⟩
  have e1 : k + (b - a).toNat = k + (b - (a + 1)).toNat + 1 := by omega
  have q2 := h1.2.1
  have q3 := h1.2.2.1
  rw [e1, wk_step h1 (by omega) hr, if_neg (by decide : ¬ (30 : Int) = 28), if_pos rfl]
  unfold bo_Model_worked_46
  rw [if_pos rfl]
  obtain ⟨m1, w1, w2, w3, w4⟩ := down (m := m) (k := k + (b - (a + 1)).toNat) (z := 1) d0 d1 q3 (by omega)
  rw [w1]
  obtain ⟨m2, f, u1, u2, u3⟩ := g.2 m1 o s y k (EvM_sub h1 w2 (by omega) (by omega)) h2
  rw [u2]
  obtain ⟨f, rfl⟩ : ∃ t, f = t + 1 := ⟨f - 1, by omega⟩
  have e4 : m2 234 (D + 1).toNat = 1 := by rw [u3.2 234 (by omega) (by omega) _ (by omega)]; exact w4
  have e5 : lp_Model_worked_268 0 (lp_Model_worked_14 0 k) (f + 1) (D + 1) (b - 1) (v o s y) m2 = lp_Model_worked_268 0 (lp_Model_worked_14 0 k) f D (b - 1) (if v o s y = 0 then 1 else 0) m2 := by
    show bo_Model_worked_268 0 _ _ (D + 1) (b - 1) (v o s y) m2 = _
    unfold bo_Model_worked_268 bo_Model_worked_292
    have e6 : w32 (D + 1 + -1) = D := by rw [w32_in (by omega) (by omega)]; omega
    rw [if_pos (by omega : 0 < D + 1), if_pos (by omega : 0 ≤ D + 1 ∧ D + 1 < 7), if_pos e4, e6]
    by_cases z : v o s y = 0
    · rw [if_pos z, if_pos z]
    · rw [if_neg z, if_neg z]
  rw [e5]
  exact ⟨m2, f, by omega, rfl, FdM_trans w2 u3 (by omega) (by omega)⟩
theorem SemP_par {a e : Int} {v : VL} (g : SemA (D + 1) r (a + 1) e v) (hr : r a.toNat = 28) (he : r e.toNat = 29) (d0 : 0 ≤ D) (d1 : D + 1 ≤ 6) : SemP D r a (e + 1) v := by
  have hab := g.1
  refine ⟨by omega, fun m o s y k h1 h2 => ?_⟩
  have e1 : k + (e + 1 - a).toNat = k + 1 + (e - (a + 1)).toNat + 1 := by omega
  have q2 := h1.2.1
  have q3 := h1.2.2.1
  rw [e1, wk_step h1 (by omega) hr, if_pos rfl]
  unfold bo_Model_worked_46
  rw [if_neg (by decide : ¬ (28 : Int) = 30)]
  obtain ⟨m1, w1, w2, w3, w4⟩ := down (m := m) (k := k + 1 + (e - (a + 1)).toNat) (z := 0) d0 d1 q3 (by omega)
  rw [w1]
  obtain ⟨m2, u1, u2, u3⟩ := g.2 m1 o s y (k + 1) (EvM_sub h1 w2 (by omega) (by omega)) h2 (Or.inr (by rw [w4]; decide)) w3
  rw [u1]
  have hE : EvM m2 o s y r e (e + 1) := EvM_sub (EvM_sub h1 w2 (Int.le_refl _) (Int.le_refl _)) u2 (by omega) (by omega)
  rw [wk_step hE (by omega) he, if_neg (by decide : ¬ (29 : Int) = 28), if_neg (by decide : ¬ (29 : Int) = 30), if_neg (by decide : ¬ (29 : Int) = 20), if_neg (by decide : ¬ (29 : Int) = 21), if_neg (by decide : ¬ (29 : Int) = 22), if_neg (by decide : ¬ (29 : Int) = 24), if_neg (by decide : ¬ (29 : Int) = 25), if_neg (by decide : ¬ (29 : Int) = 26), if_neg (by decide : ¬ (29 : Int) = 27), if_pos (by decide : (29 : Int) < 100), if_neg (by decide : ¬ (29 : Int) < 20)]
  unfold bo_Model_worked_243
  obtain ⟨m3, t1, t2, t3, -⟩ := tests_ok (D := D + 1) (m := m2) (by omega) (by omega)
  have e6 : w32 (D + 1 + -1) = D := by rw [w32_in (by omega) (by omega)]; omega
  have e7 : e + 1 - 1 = e := by omega
  rw [if_pos rfl, t1, bd_some, if_pos (by omega : 0 ≤ D + 1 ∧ D + 1 < 7), bn_eq, t3, u3.2, e6, e7]
  exact ⟨m3, 2000, by omega, rfl, FdM_trans (FdM_trans w2 u2 (Int.le_refl _) (Int.le_refl _)) t2 (Int.le_refl _) (Int.le_refl _)⟩
theorem B0_kept {m m' : Mm} (h : B0 D m) (e : m' 234 D.toNat = m 234 D.toNat) : B0 D m' := by
  unfold B0 at h ⊢
  rw [e]
  exact h
theorem SemT_part {a b : Int} {v : VL} (g : SemP D r a b v) (d0 : 0 ≤ D) (d1 : D ≤ 6) : SemT D r a b v := by
  have hab := g.1
  refine ⟨hab, fun m o s y k h1 h2 h3 h4 => ?_⟩
  obtain ⟨m1, f, u1, u2, u3⟩ := g.2 m o s y k h1 h2
  have kp : ∀ a, 226 ≤ a → a ≤ 234 → m1 a D.toNat = m a D.toNat := fun a a0 a1 => u3.2 a a0 a1 _ (by omega)
  have q2 := h1.2.1
  have q3 := h1.2.2.1
  have e2 : w32 (b - 1 + 1) = b := by rw [w32_in (by omega) (by omega)]; omega
  rw [u2, dlv d0 (by omega) (by omega) (B0_kept h3 (kp 234 (by omega) (by omega))), e2, kp 233 (by omega) (by omega), if_pos (show m 233 D.toNat = 0 from h4)]
  refine ⟨_, rfl, FdM_trans u3 (FdM_m (by omega) (by omega) (by omega)) (by omega) (Int.le_refl _), fun a ha => ?_, mst_hit⟩
  rw [mst_ne (by omega), kp a (by omega) (by omega)]
theorem SemT_times {a b c : Int} {v w : VL} (g : SemT D r a b v) (hr : r b.toNat = 22) (g' : SemP D r (b + 1) c w) (d0 : 0 ≤ D) (d1 : D ≤ 6) : SemT D r a c (fun o s y => wor (-12) (v o s y) (w o s y)) := by
  have hab := g.1
  have hbc := g'.1
  refine ⟨by omega, fun m o s y k h1 h2 h3 h4 => ?_⟩
  have e1 : k + (c - a).toNat = k + (c - (b + 1)).toNat + 1 + (b - a).toNat := by omega
  have q2 := h1.2.1
  have q3 := h1.2.2.1
  obtain ⟨m1, u1, u2, u3, u4⟩ := g.2 m o s y (k + (c - (b + 1)).toNat + 1) (EvM_sub h1 (FdM_refl (D := D)) (Int.le_refl _) (by omega)) h2 h3 h4
  have hE : EvM m1 o s y r b c := EvM_sub h1 u2 (by omega) (Int.le_refl _)
  rw [e1, u1, wk_step hE (by omega) hr, if_neg (by decide : ¬ (22 : Int) = 28), if_neg (by decide : ¬ (22 : Int) = 30), if_neg (by decide : ¬ (22 : Int) = 20), if_neg (by decide : ¬ (22 : Int) = 21), if_pos rfl, if_pos (by omega : 0 ≤ D ∧ D < 7), bn_eq]
  unfold bo_Model_worked_329
  rw [w32_in (x := b + 1) (by omega) (by omega)]
  have f2 : FdM D m1 (mst m1 233 D.toNat 22) := FdM_m (by omega) (by omega) (by omega)
  obtain ⟨m2, f, w1, w2, w3⟩ := g'.2 (mst m1 233 D.toNat 22) o s y k (EvM_sub hE f2 (by omega) (Int.le_refl _)) h2
  have kp : ∀ a, 226 ≤ a → a ≤ 234 → m2 a D.toNat = mst m1 233 D.toNat 22 a D.toNat := fun a a0 a1 => w3.2 a a0 a1 _ (by omega)
  have kk : ∀ a, (226 ≤ a ∧ a ≤ 231) ∨ a = 234 → m2 a D.toNat = m a D.toNat := fun a ha => by rw [kp a (by omega) (by omega), mst_ne (by omega), u3 a ha]
  have k233 : m2 233 D.toNat = 22 := by rw [kp _ (by omega) (by omega), mst_hit]
  have k232 : m2 232 D.toNat = v o s y := by rw [kp _ (by omega) (by omega), mst_ne (by decide), u4]
  have e2 : w32 (c - 1 + 1) = c := by rw [w32_in (by omega) (by omega)]; omega
  rw [w2, dlv d0 (by omega) (by omega) (B0_kept h3 (kk 234 (Or.inr rfl))), e2, k233, if_neg (by decide : ¬ (22 : Int) = 0), k232]
  refine ⟨_, rfl, FdM_trans (FdM_trans u2 f2 (Int.le_refl _) (Int.le_refl _)) (FdM_trans w3 (FdM_m (by omega) (by omega) (by omega)) (by omega) (Int.le_refl D)) (Int.le_refl _) (Int.le_refl _), fun a ha => ?_, mst_hit⟩
  rw [mst_ne (by omega), kk a ha]
theorem SemS_prod {a b : Int} {v : VL} (g : SemT D r a b v) (hv : rngV v) : SemS D r a b v := by
  refine ⟨g.1, fun m o s y k h1 h2 h3 h4 => ?_⟩
  obtain ⟨m1, u1, u2, u3, u4⟩ := g.2 m o s y k h1 h2 h3 h4.1
  refine ⟨m1, u1, u2, fun a ha => u3 a (by omega), ?_⟩
  unfold sumv
  rw [u3 231 (by omega), h4.2.2, u3 230 (by omega), h4.2.1, u4, if_neg (by decide), Int.zero_add]
  exact hv o s y h2
theorem SemS_add {a b c op co : Int} {v w : VL} (g : SemS D r a b v) (ho : (op = 20 ∧ co = -10) ∨ (op = 21 ∧ co = -11)) (hr : r b.toNat = op) (g' : SemT D r (b + 1) c w) (d0 : 0 ≤ D) (d1 : D ≤ 6) : SemS D r a c (fun o s y => wor co (v o s y) (w o s y)) := by
  have hab := g.1
  have hbc := g'.1
  refine ⟨by omega, fun m o s y k h1 h2 h3 h4 => ?_⟩
  have e1 : k + (c - a).toNat = k + (c - (b + 1)).toNat + 1 + (b - a).toNat := by omega
  have q2 := h1.2.1
  have q3 := h1.2.2.1
  obtain ⟨m1, u1, u2, u3, u4⟩ := g.2 m o s y (k + (c - (b + 1)).toNat + 1) (EvM_sub h1 (FdM_refl (D := D)) (Int.le_refl _) (by omega)) h2 h3 h4
  have hE : EvM m1 o s y r b c := EvM_sub h1 u2 (by omega) (Int.le_refl _)
  have estep : lp_Model_worked_14 0 (k + (c - (b + 1)).toNat + 1) D b m1 = bo_Model_worked_89 0 (lp_Model_worked_14 0 (k + (c - (b + 1)).toNat)) D b op m1 := by
    rw [wk_step hE (by omega) hr]
    rcases ho with ⟨rfl, -⟩ | ⟨rfl, -⟩
    · rw [if_neg (by decide : ¬ (20 : Int) = 28), if_neg (by decide : ¬ (20 : Int) = 30), if_pos rfl]
    · rw [if_neg (by decide : ¬ (21 : Int) = 28), if_neg (by decide : ¬ (21 : Int) = 30), if_neg (by decide : ¬ (21 : Int) = 20), if_pos rfl]
  rw [e1, u1, estep]
  unfold bo_Model_worked_89 bo_Model_worked_329
  rw [sums_ok d0 (by omega), bd_some, if_pos (by omega : 0 ≤ D ∧ D < 7), bn_eq, w32_in (x := b + 1) (by omega) (by omega), u4]
  have f2 : FdM D m1 (mst (mst (mst m1 230 D.toNat (v o s y)) 233 D.toNat 0) 231 D.toNat op) := FdM_trans (FdM_trans (FdM_m (by omega) (by omega) (by omega)) (FdM_m (by omega) (by omega) (by omega)) (Int.le_refl _) (Int.le_refl _)) (FdM_m (by omega) (by omega) (by omega)) (Int.le_refl _) (Int.le_refl _)
  have a233 : mst (mst (mst m1 230 D.toNat (v o s y)) 233 D.toNat 0) 231 D.toNat op 233 D.toNat = 0 := by rw [mst_ne (by decide), mst_hit]
  have a230 : mst (mst (mst m1 230 D.toNat (v o s y)) 233 D.toNat 0) 231 D.toNat op 230 D.toNat = v o s y := by rw [mst_ne (by decide), mst_ne (by decide), mst_hit]
  have a231 : mst (mst (mst m1 230 D.toNat (v o s y)) 233 D.toNat 0) 231 D.toNat op 231 D.toNat = op := mst_hit
  have ao : ∀ a, (226 ≤ a ∧ a ≤ 229) ∨ a = 234 → mst (mst (mst m1 230 D.toNat (v o s y)) 233 D.toNat 0) 231 D.toNat op a D.toNat = m a D.toNat := fun a ha => by rw [mst_ne (by omega), mst_ne (by omega), mst_ne (by omega), u3 a ha]
  revert f2 a233 a230 a231 ao
  generalize mst (mst (mst m1 230 D.toNat (v o s y)) 233 D.toNat 0) 231 D.toNat op = m2
  intro f2 a233 a230 a231 ao
  obtain ⟨m3, w1, w2, w3, w4⟩ := g'.2 m2 o s y k (EvM_sub hE f2 (by omega) (Int.le_refl _)) h2 (B0_kept h3 (ao 234 (Or.inr rfl))) a233
  refine ⟨m3, w1, FdM_trans (FdM_trans u2 f2 (Int.le_refl _) (Int.le_refl _)) w2 (Int.le_refl _) (Int.le_refl _), fun a ha => by rw [w3 a (by omega), ao a ha], ?_⟩
  unfold sumv
  rw [w3 231 (by omega), w3 230 (by omega), w4, a231, a230]
  rcases ho with ⟨rfl, rfl⟩ | ⟨rfl, rfl⟩
  · rfl
  · rfl
theorem SemE_sum {a b : Int} {v : VL} (g : SemS D r a b v) : SemE D r a b v := by
  refine ⟨g.1, fun m o s y k h1 h2 h3 h4 => ?_⟩
  obtain ⟨m1, u1, u2, u3, u4⟩ := g.2 m o s y k h1 h2 h3 h4.1
  refine ⟨m1, u1, u2, fun a ha => u3 a (by omega), ?_⟩
  unfold testv
  rw [u3 229 (by omega), h4.2, if_neg (by decide), if_neg (by decide)]
  exact u4
theorem SemE_cmp {a b c op co : Int} {v w : VL} (g : SemS D r a b v) (ho : (op = 24 ∧ co = -8) ∨ (op = 25 ∧ co = -9)) (hr : r b.toNat = op) (g' : SemS D r (b + 1) c w) (d0 : 0 ≤ D) (d1 : D ≤ 6) : SemE D r a c (fun o s y => wor co (v o s y) (w o s y)) := by
  have hab := g.1
  have hbc := g'.1
  refine ⟨by omega, fun m o s y k h1 h2 h3 h4 => ?_⟩
  have e1 : k + (c - a).toNat = k + (c - (b + 1)).toNat + 1 + (b - a).toNat := by omega
  have q2 := h1.2.1
  have q3 := h1.2.2.1
  obtain ⟨m1, u1, u2, u3, u4⟩ := g.2 m o s y (k + (c - (b + 1)).toNat + 1) (EvM_sub h1 (FdM_refl (D := D)) (Int.le_refl _) (by omega)) h2 h3 h4.1
  have hE : EvM m1 o s y r b c := EvM_sub h1 u2 (by omega) (Int.le_refl _)
  have estep : lp_Model_worked_14 0 (k + (c - (b + 1)).toNat + 1) D b m1 = bo_Model_worked_137 0 (lp_Model_worked_14 0 (k + (c - (b + 1)).toNat)) D b op m1 := by
    rw [wk_step hE (by omega) hr]
    rcases ho with ⟨rfl, -⟩ | ⟨rfl, -⟩
    · rw [if_neg (by decide : ¬ (24 : Int) = 28), if_neg (by decide : ¬ (24 : Int) = 30), if_neg (by decide : ¬ (24 : Int) = 20), if_neg (by decide : ¬ (24 : Int) = 21), if_neg (by decide : ¬ (24 : Int) = 22), if_pos rfl]
    · rw [if_neg (by decide : ¬ (25 : Int) = 28), if_neg (by decide : ¬ (25 : Int) = 30), if_neg (by decide : ¬ (25 : Int) = 20), if_neg (by decide : ¬ (25 : Int) = 21), if_neg (by decide : ¬ (25 : Int) = 22), if_neg (by decide : ¬ (25 : Int) = 24), if_pos rfl]
  have gD : 0 ≤ D ∧ D < 7 := by omega
  rw [e1, u1, estep]
  unfold bo_Model_worked_137 bo_Model_worked_329
  rw [sums_ok d0 (by omega), bd_some, if_pos gD, if_pos gD, bn_eq, if_pos gD, bn_eq, if_pos gD, bn_eq, if_pos gD, bn_eq, w32_in (x := b + 1) (by omega) (by omega), u4, mst_ne (by decide : (230 : Nat) ≠ 233), mst_hit]
  have f2 : FdM D m1 (mst (mst (mst (mst (mst (mst m1 230 D.toNat (v o s y)) 233 D.toNat 0) 228 D.toNat (v o s y)) 229 D.toNat op) 230 D.toNat 0) 231 D.toNat 20) := FdM_trans (FdM_trans (FdM_trans (FdM_trans (FdM_trans (FdM_m (by omega) (by omega) (by omega)) (FdM_m (by omega) (by omega) (by omega)) (Int.le_refl _) (Int.le_refl _)) (FdM_m (by omega) (by omega) (by omega)) (Int.le_refl _) (Int.le_refl _)) (FdM_m (by omega) (by omega) (by omega)) (Int.le_refl _) (Int.le_refl _)) (FdM_m (by omega) (by omega) (by omega)) (Int.le_refl _) (Int.le_refl _)) (FdM_m (by omega) (by omega) (by omega)) (Int.le_refl _) (Int.le_refl _)
  have a233 : mst (mst (mst (mst (mst (mst m1 230 D.toNat (v o s y)) 233 D.toNat 0) 228 D.toNat (v o s y)) 229 D.toNat op) 230 D.toNat 0) 231 D.toNat 20 233 D.toNat = 0 := by rw [mst_ne (by decide), mst_ne (by decide), mst_ne (by decide), mst_ne (by decide), mst_hit]
  have a230 : mst (mst (mst (mst (mst (mst m1 230 D.toNat (v o s y)) 233 D.toNat 0) 228 D.toNat (v o s y)) 229 D.toNat op) 230 D.toNat 0) 231 D.toNat 20 230 D.toNat = 0 := by rw [mst_ne (by decide), mst_hit]
  have a231 : mst (mst (mst (mst (mst (mst m1 230 D.toNat (v o s y)) 233 D.toNat 0) 228 D.toNat (v o s y)) 229 D.toNat op) 230 D.toNat 0) 231 D.toNat 20 231 D.toNat = 20 := mst_hit
  have a228 : mst (mst (mst (mst (mst (mst m1 230 D.toNat (v o s y)) 233 D.toNat 0) 228 D.toNat (v o s y)) 229 D.toNat op) 230 D.toNat 0) 231 D.toNat 20 228 D.toNat = v o s y := by rw [mst_ne (by decide), mst_ne (by decide), mst_ne (by decide), mst_hit]
  have a229 : mst (mst (mst (mst (mst (mst m1 230 D.toNat (v o s y)) 233 D.toNat 0) 228 D.toNat (v o s y)) 229 D.toNat op) 230 D.toNat 0) 231 D.toNat 20 229 D.toNat = op := by rw [mst_ne (by decide), mst_ne (by decide), mst_hit]
  have ao : ∀ a, a = 226 ∨ a = 227 ∨ a = 234 → mst (mst (mst (mst (mst (mst m1 230 D.toNat (v o s y)) 233 D.toNat 0) 228 D.toNat (v o s y)) 229 D.toNat op) 230 D.toNat 0) 231 D.toNat 20 a D.toNat = m a D.toNat := fun a ha => by rw [mst_ne (by omega), mst_ne (by omega), mst_ne (by omega), mst_ne (by omega), mst_ne (by omega), mst_ne (by omega), u3 a (by omega)]
  revert f2 a233 a230 a231 a228 a229 ao
  generalize mst (mst (mst (mst (mst (mst m1 230 D.toNat (v o s y)) 233 D.toNat 0) 228 D.toNat (v o s y)) 229 D.toNat op) 230 D.toNat 0) 231 D.toNat 20 = m2
  intro f2 a233 a230 a231 a228 a229 ao
  obtain ⟨m3, w1, w2, w3, w4⟩ := g'.2 m2 o s y k (EvM_sub hE f2 (by omega) (Int.le_refl _)) h2 (B0_kept h3 (ao 234 (Or.inr (Or.inr rfl)))) ⟨a233, a230, a231⟩
  refine ⟨m3, w1, FdM_trans (FdM_trans u2 f2 (Int.le_refl _) (Int.le_refl _)) w2 (Int.le_refl _) (Int.le_refl _), fun a ha => by rw [w3 a (by omega), ao a ha], ?_⟩
  unfold testv
  rw [w3 229 (by omega), w3 228 (by omega), w4, a229, a228]
  rcases ho with ⟨rfl, rfl⟩ | ⟨rfl, rfl⟩
  · rfl
  · rfl
theorem SemA_test {a b : Int} {v : VL} (g : SemE D r a b v) : SemA D r a b v := by
  refine ⟨g.1, fun m o s y k h1 h2 h3 h4 => ?_⟩
  obtain ⟨m1, u1, u2, u3, u4⟩ := g.2 m o s y k h1 h2 h3 h4.1
  refine ⟨m1, u1, u2, u3 234 (by omega), ?_⟩
  unfold allv andv orv
  rw [u3 227 (by omega), h4.2, if_neg (by decide), if_neg (by decide)]
  exact u4
theorem SemA_and {a b c op co : Int} {v w : VL} (g : SemA D r a b v) (ho : (op = 26 ∧ co = -6) ∨ (op = 27 ∧ co = -7)) (hr : r b.toNat = op) (g' : SemE D r (b + 1) c w) (d0 : 0 ≤ D) (d1 : D ≤ 6) : SemA D r a c (fun o s y => wor co (v o s y) (w o s y)) := by
  have hab := g.1
  have hbc := g'.1
  refine ⟨by omega, fun m o s y k h1 h2 h3 h4 => ?_⟩
  have e1 : k + (c - a).toNat = k + (c - (b + 1)).toNat + 1 + (b - a).toNat := by omega
  have q2 := h1.2.1
  have q3 := h1.2.2.1
  obtain ⟨m1, u1, u2, u3, u4⟩ := g.2 m o s y (k + (c - (b + 1)).toNat + 1) (EvM_sub h1 (FdM_refl (D := D)) (Int.le_refl _) (by omega)) h2 h3 h4
  have hE : EvM m1 o s y r b c := EvM_sub h1 u2 (by omega) (Int.le_refl _)
  have estep : lp_Model_worked_14 0 (k + (c - (b + 1)).toNat + 1) D b m1 = bo_Model_worked_194 0 (lp_Model_worked_14 0 (k + (c - (b + 1)).toNat)) D b op m1 := by
    rw [wk_step hE (by omega) hr]
    rcases ho with ⟨rfl, -⟩ | ⟨rfl, -⟩
    · rw [if_neg (by decide : ¬ (26 : Int) = 28), if_neg (by decide : ¬ (26 : Int) = 30), if_neg (by decide : ¬ (26 : Int) = 20), if_neg (by decide : ¬ (26 : Int) = 21), if_neg (by decide : ¬ (26 : Int) = 22), if_neg (by decide : ¬ (26 : Int) = 24), if_neg (by decide : ¬ (26 : Int) = 25), if_pos rfl]
    · rw [if_neg (by decide : ¬ (27 : Int) = 28), if_neg (by decide : ¬ (27 : Int) = 30), if_neg (by decide : ¬ (27 : Int) = 20), if_neg (by decide : ¬ (27 : Int) = 21), if_neg (by decide : ¬ (27 : Int) = 22), if_neg (by decide : ¬ (27 : Int) = 24), if_neg (by decide : ¬ (27 : Int) = 25), if_neg (by decide : ¬ (27 : Int) = 26), if_pos rfl]
  have gD : 0 ≤ D ∧ D < 7 := by omega
  rw [e1, u1, estep]
  unfold bo_Model_worked_194 bo_Model_worked_329
  obtain ⟨m2, t1, t2, t3, t4, t5, t6, t7, t8⟩ := tests_ok (D := D) (m := m1) d0 (by omega)
  rw [t1, bd_some, if_pos gD, bn_eq, w32_in (x := b + 1) (by omega) (by omega)]
  have f2 : FdM D m1 (mst m2 227 D.toNat op) := FdM_trans t2 (FdM_m (by omega) (by omega) (by omega)) (Int.le_refl _) (Int.le_refl _)
  have ao : mst m2 227 D.toNat op 234 D.toNat = m 234 D.toNat := by rw [mst_ne (by decide), t8, u3]
  obtain ⟨m3, w1, w2, w3, w4⟩ := g'.2 (mst m2 227 D.toNat op) o s y k (EvM_sub hE f2 (by omega) (Int.le_refl _)) h2 (B0_kept h3 ao) ⟨⟨by rw [mst_ne (by decide)]; exact t7, by rw [mst_ne (by decide)]; exact t5, by rw [mst_ne (by decide)]; exact t6⟩, by rw [mst_ne (by decide)]; exact t4⟩
  refine ⟨m3, w1, FdM_trans (FdM_trans u2 f2 (Int.le_refl _) (Int.le_refl _)) w2 (Int.le_refl _) (Int.le_refl _), by rw [w3 234 (by omega), ao], ?_⟩
  have a226 : m3 226 D.toNat = v o s y := by rw [w3 226 (by omega), mst_ne (by decide), t3, u4]
  have a227 : m3 227 D.toNat = op := by rw [w3 227 (by omega), mst_hit]
  unfold allv
  rw [w4, a226, a227]
  rcases ho with ⟨rfl, rfl⟩ | ⟨rfl, rfl⟩
  · rfl
  · rfl
/-- a whole law of the reference -/
theorem SemA_law {d : Mm} {n : Int} {v : VL} (g : SemA 0 (fun t => d 223 (1000 + t)) 0 n v) (e : d 222 1 = 1000 + n) (n1 : n ≤ 1000) : LawM1 v d := by
  intro H h1 h2 h3 m o s y q1 q2 q3 q4 q5 q6
  have hn := g.1
  refine ⟨fun z => by omega, fun _ z1 z2 z3 => ?_⟩
  unfold fn_Model_worked
  obtain ⟨m1, u1, u2, u3, u4, u5, u6, u7, u8⟩ := opens_ok (D := 0) (m := m) (by decide) (by decide)
  have e221 : m1 221 0 = 0 := by rw [u2.1 221 (by omega), q1]; exact h1
  have e222 : m1 222 0 = n := by rw [u2.1 222 (by omega), q2, h2, e]; omega
  rw [u1, bd_some, if_pos (by decide : (0 : Int) ≤ 0 ∧ (0 : Int) < 2), tn0, e221, bn_eq]
  have hE : EvM m1 o s y (fun t => d 223 (1000 + t)) 0 n := ⟨by omega, n1, by omega, fun t t0 t1 => by rw [u2.1 223 (by omega), q3 _ (by omega)]; exact h3 _ (by omega), by rw [u2.1 235 (by omega)]; exact z1, by rw [u2.1 235 (by omega)]; exact z2, by rw [u2.1 235 (by omega)]; exact z3⟩
  obtain ⟨m2, w1, w2, w3, w4⟩ := g.2 m1 o s y (2000 - n.toNat) hE ⟨q4, q5, q6⟩ (Or.inl rfl) ⟨⟨⟨u7, u5, u6⟩, u4⟩, u3⟩
  have ef : FU = 2000 - n.toNat + (n - 0).toNat := by show 2000 = _; omega
  rw [ef, w1]
  obtain ⟨k, hk⟩ : ∃ t, 2000 - n.toNat = t + 1 := ⟨1999 - n.toNat, by omega⟩
  rw [hk]
  show TT (bo_Model_worked_14 0 _ 0 n m2) _
  unfold bo_Model_worked_14 bo_Model_worked_335
  obtain ⟨m3, t1, t2, t3, -⟩ := tests_ok (D := 0) (m := m2) (by decide) (by decide)
  have e2 : m2 222 0 = n := by rw [w2.1 222 (by omega)]; exact e222
  rw [if_pos (by decide : (0 : Int) ≤ 0 ∧ (0 : Int) < 2), tn0, if_neg (by omega : ¬ n < m2 222 0), t1, bd_some]
  refine TT_some.mpr ⟨t3.trans w4, fun a ha => ?_⟩
  rw [t2.1 a (by omega), w2.1 a (by omega), u2.1 a (by omega)]
end Lx
