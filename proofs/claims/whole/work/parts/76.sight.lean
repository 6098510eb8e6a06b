/-! Who is seen where. -/
section Sg
noncomputable def db (P : Prop) : Bool := @decide P (Classical.propDecidable P)
theorem db_t {P : Prop} : db P = true ↔ P := by unfold db; exact @decide_eq_true_iff P (Classical.propDecidable P)
theorem db_f {P : Prop} : db P = false ↔ ¬ P := by
  have h := db_t (P := P)
  cases e : db P with
  | true => exact ⟨(fun z => Bool.noConfusion z), fun z => absurd (h.mp e) z⟩
  | false =>
    refine ⟨fun _ z => ?_, fun _ => rfl⟩
    have := e.symm.trans (h.mpr z)
    exact Bool.noConfusion this
theorem db_1 {P : Prop} (h : P) : zi (db P) = 1 := by rw [db_t.mpr h]; rfl
theorem db_0 {P : Prop} (h : ¬ P) : zi (db P) = 0 := by rw [db_f.mpr h]; rfl
def FM2 (H m : Mm) : Prop := ∀ a, 205 ≤ a → (a ≤ 223 ∨ (236 ≤ a ∧ a ≤ 244) ∨ a = 250) → m a = H a
theorem wS_up (H : Mm) (S S2 : Nat → Int) (R : Mm) : ∀ n, wS (fun a => if a = 245 then S2 else if (224 ≤ a ∧ a ≤ 235) ∨ (246 ≤ a ∧ a ≤ 249) then R a else H a) S n = wS H S n := by
  intro n
  induction n with
  | zero => rfl
  | succ n ih =>
    show wNx _ S (wS _ S n) n = wNx H S (wS H S n) n
    rw [ih]
    rfl
theorem atS_up (H : Mm) (S S2 : Nat → Int) (R : Mm) (t w : Int) : atS (fun a => if a = 245 then S2 else if (224 ≤ a ∧ a ≤ 235) ∨ (246 ≤ a ∧ a ≤ 249) then R a else H a) S t w = atS H S t w := by
  unfold atS
  rw [wS_up]
  rfl
theorem laysDay_S {H m0 : Mm} {S : Nat → Int} (hf : FM2 H m0) (hs : m0 245 = S) (hH : HD H) (hS : SD H S) : TT (fn_Model_laysDay m0) (fun _ m => FR m0 m ∧ ∀ w u : Int, 0 ≤ w → w < H 205 1 → 0 ≤ u → u < 240 → m 251 (240 * w + u).toNat = atS H S u w) := by
  have h := laysDay_ok (H := fun a => if a = 245 then S else if (224 ≤ a ∧ a ≤ 235) ∨ (246 ≤ a ∧ a ≤ 249) then m0 a else H a) (m0 := m0) (fun a h1 h2 => by
    show m0 a = if a = 245 then S else if (224 ≤ a ∧ a ≤ 235) ∨ (246 ≤ a ∧ a ≤ 249) then m0 a else H a
    by_cases c : a = 245
    · subst c; rw [if_pos rfl, hs]
    · rw [if_neg c]
      by_cases d : (224 ≤ a ∧ a ≤ 235) ∨ (246 ≤ a ∧ a ≤ 249)
      · rw [if_pos d]
      · rw [if_neg d]; exact hf a h1 (by omega)) hH hS
  refine TT_mono h (fun r m q => ⟨q.1, fun w u h1 h2 h3 h4 => ?_⟩)
  have q2 := q.2 w u h1 h2 h3 h4
  have e := atS_up H S S m0 u w
  exact q2.trans e
/-- all who are at a place in a minute -/
def setS (H : Mm) (S : Nat → Int) (t p : Int) : Int := fld (fun w a => ior a (if atS H S t w = p then ishl 1 w else 0)) (H 205 1).toNat 0 0
theorem bt_or0_all : ∀ x, x < 64 → ior (x : Nat) 0 = (x : Nat) := by decide +kernel
theorem bt_or0 {x : Int} (h0 : 0 ≤ x) (h1 : x < 64) : ior x 0 = x := by
  obtain ⟨y, hy, rfl⟩ := nn h0 (n := 64) h1
  exact bt_or0_all y hy
theorem bt_ext_all : ∀ x : Nat, x < 64 → ((x : Nat) : Int) = bt (x : Nat) 0 + 2 * bt (x : Nat) 1 + 4 * bt (x : Nat) 2 + 8 * bt (x : Nat) 3 + 16 * bt (x : Nat) 4 + 32 * bt (x : Nat) 5 := by decide +kernel
theorem bt_sum {x : Int} (h0 : 0 ≤ x) (h1 : x < 64) : x = bt x 0 + 2 * bt x 1 + 4 * bt x 2 + 8 * bt x 3 + 16 * bt x 4 + 32 * bt x 5 := by
  obtain ⟨y, hy, rfl⟩ := nn h0 (n := 64) h1
  exact bt_ext_all y hy
theorem bt_ext {x y : Int} (h0 : 0 ≤ x) (h1 : x < 64) (h2 : 0 ≤ y) (h3 : y < 64) (h : ∀ k : Int, 0 ≤ k → k < 6 → (bt x k = 1 ↔ bt y k = 1)) : x = y := by
  rw [bt_sum h0 h1, bt_sum h2 h3]
  have e : ∀ k : Int, 0 ≤ k → k < 6 → bt x k = bt y k := by
    intro k k0 k1
    have a := bt_01 h0 h1 k0 k1
    have b := bt_01 h2 h3 k0 k1
    have c := h k k0 k1
    omega
  rw [e 0 (by omega) (by omega), e 1 (by omega) (by omega), e 2 (by omega) (by omega), e 3 (by omega) (by omega), e 4 (by omega) (by omega), e 5 (by omega) (by omega)]
theorem setS_b {H : Mm} {S : Nat → Int} (hH : HD H) (t p : Int) : 0 ≤ setS H S t p ∧ setS H S t p < 64 ∧ ∀ k : Int, 0 ≤ k → k < 6 → (bt (setS H S t p) k = 1 ↔ (k < H 205 1 ∧ atS H S t k = p)) := by
  have hn := hH.1
  have h := fld_inv (f := fun w a => ior a (if atS H S t w = p then ishl 1 w else 0)) (fun v a => 0 ≤ a ∧ a < 64 ∧ ∀ k : Int, 0 ≤ k → k < 6 → (bt a k = 1 ↔ (k < v ∧ atS H S t k = p))) (j := (H 205 1).toNat) (v := 0) (a := 0) ⟨by omega, by omega, fun k k0 k1 => by rw [bt_zero k0 k1]; omega⟩ (fun w a w0 w1 h => by
    obtain ⟨h1, h2, h3⟩ := h
    by_cases c : atS H S t w = p
    · simp only [if_pos c]
      have r := bt_set_r h1 h2 w0 (by omega : w < 6)
      refine ⟨r.1, r.2, fun k k0 k1 => ?_⟩
      rw [bt_set h1 h2 w0 (by omega) k0 k1]
      by_cases d : k = w
      · subst d
        simp only [if_true]
        constructor
        · intro _; exact ⟨by omega, c⟩
        · intro _; trivial
      · rw [if_neg d, h3 k k0 k1]
        constructor
        · intro z; exact ⟨by omega, z.2⟩
        · intro z; exact ⟨by omega, z.2⟩
    · simp only [if_neg c]
      rw [bt_or0 h1 h2]
      refine ⟨h1, h2, fun k k0 k1 => ?_⟩
      rw [h3 k k0 k1]
      constructor
      · intro z; exact ⟨by omega, z.2⟩
      · intro z
        refine ⟨?_, z.2⟩
        by_cases d : k = w
        · subst d; exact absurd z.2 c
        · omega)
  have e : (0 : Int) + ((H 205 1).toNat : Nat) = H 205 1 := by omega
  rw [e] at h
  exact h
theorem fillI_ok {n a : Nat} {x : Int} {m : Mm} (hn : n < 1990) : TT (fn_Arrays_fillI n a x m) (fun _ m' => (∀ b, b ≠ a → m' b = m b) ∧ (∀ j, j < n → m' a j = x) ∧ ∀ j, n ≤ j → m' a j = m a j) := by
  unfold fn_Arrays_fillI
  rw [bn_eq]
  refine lp_inv2 (bo := bo_Arrays_fillI_5 n a x) (fun _ => rfl) (fun i e m' => e = (n : Int) ∧ 0 ≤ i ∧ i ≤ n ∧ (∀ b, b ≠ a → m' b = m b) ∧ (∀ j : Nat, (j : Int) < i → m' a j = x) ∧ ∀ j : Nat, i ≤ (j : Int) → m' a j = m a j) (fun i _ _ => (n - i).toNat) ?_ FU 0 (n : Int) m ⟨rfl, by omega, by omega, fun _ _ => rfl, fun j hj => by omega, fun _ _ => rfl⟩ (by show ((n : Int) - 0).toNat < 2000; omega)
  intro k i e m' hI hk
  obtain ⟨rfl, i0, i1, h1, h2, h3⟩ := hI
  unfold bo_Arrays_fillI_5
  refine TT_if (fun c => ?_) (fun c => ?_)
  · refine TT_gd ⟨i0, c⟩ ?_
    simp (disch := omega) only [bn_eq, w32_in]
    refine hk _ _ _ ⟨rfl, by omega, by omega, fun b hb => ?_, fun j hj => ?_, fun j hj => ?_⟩ (by omega)
    · rw [mst_ne hb]; exact h1 b hb
    · by_cases d : j = i.toNat
      · subst d; exact mst_hit
      · rw [mst_miss d]; exact h2 j (by omega)
    · rw [mst_miss (by omega)]; exact h3 j (by omega)
  · exact TT_some.mpr ⟨h1, fun j hj => h2 j (by omega), fun j hj => h3 j (by omega)⟩
/-- the sight is taken -/
def SgO (H : Mm) (S : Nat → Int) (m : Mm) : Prop := ∀ p u : Int, 0 ≤ p → p < 6 → 0 ≤ u → u < 240 → m 105 (240 * p + u).toNat = setS H S u p
def sgQ (m : Mm) (Q : Int → Int → Int → Prop) : Prop := ∀ p u : Int, 0 ≤ p → p < 6 → 0 ≤ u → u < 240 → 0 ≤ m 105 (240 * p + u).toNat ∧ m 105 (240 * p + u).toNat < 64 ∧ ∀ k : Int, 0 ≤ k → k < 6 → (bt (m 105 (240 * p + u).toNat) k = 1 ↔ Q k p u)
theorem take_ok {H : Mm} {S : Nat → Int} {c m0 : Mm} {hc sc : Nat} (hH : HD H) (hv : VO H S c hc sc m0) : TT (fn_Sight_take (H 205 1) m0) (fun _ m' => (∀ a, a ≠ 105 → m' a = m0 a) ∧ SgO H S m') := by
  have hn := hH.1
  unfold fn_Sight_take
  refine TT_call (fillI_ok (by omega)) (fun r m hm => ?_)
  obtain ⟨f1, f2, -⟩ := hm
  refine lp_inv1 (bo := bo_Sight_take_10 (H 205 1)) (fun _ => rfl) (fun w m => 0 ≤ w ∧ w ≤ H 205 1 ∧ (∀ a, a ≠ 105 → m a = m0 a) ∧ sgQ m (fun k p u => k < w ∧ atS H S u k = p)) (fun w _ => (6 - w).toNat) ?_ FU 0 m ⟨by omega, by omega, f1, fun p u p0 p1 u0 u1 => ?_⟩ (by decide)
  · intro k10 w m hI hk10
    obtain ⟨w0, w1, hfr, hq⟩ := hI
    unfold bo_Sight_take_10
    refine TT_if (fun c1 => ?_) (fun c1 => ?_)
    · have hE := hv.2 w w0 c1
      have hE' := hE
      obtain ⟨n1, n2, n3, n4, n5, n6⟩ := hE
      have k10' : H 215 w.toNat ≤ 4 := (hH.2.1 w w0 c1).2.2.2.2.2.2.2.2.2.1
      simp (disch := omega) only [bn_eq, w32_in]
      refine lp_inv2 (bo := bo_Sight_take_20 (H 205 1) k10) (fun _ => rfl) (fun v q m => v = w ∧ ∃ i : Int, q = w * 4 + i ∧ 0 ≤ i ∧ i ≤ m0 99 w.toNat ∧ (∀ a, a ≠ 105 → m a = m0 a) ∧ sgQ m (fun k p u => (k < w ∧ atS H S u k = p) ∨ (k = w ∧ ∃ i' : Int, 0 ≤ i' ∧ i' < i ∧ m0 101 (4 * w + i').toNat ≤ u ∧ u ≤ m0 102 (4 * w + i').toNat ∧ H 214 (4 * w + i').toNat = p))) (fun _ q _ => (24 - q).toNat) ?_ FU w (w * 4) m ⟨rfl, 0, by omega, by omega, by omega, hfr, fun p u p0 p1 u0 u1 => ?_⟩ (by show (24 - w * 4).toNat < 2000; omega)
      · intro k20 v q m hI hk20
        obtain ⟨rfl, i, rfl, i0, i1, hfr, hq⟩ := hI
        have e : v * 4 + i = 4 * v + i := by omega
        unfold bo_Sight_take_20
        rw [hfr 99 (by omega)]
        simp (disch := omega) only [g_pos, w32_in, e]
        refine TT_if (fun c2 => ?_) (fun c2 => ?_)
        · obtain ⟨g1, g2, g3, g4, g5⟩ := n3 i i0 (by omega)
          have kp := (hH.2.1 v w0 c1).2.2.2.2.2.2.2.2.2.2.1 i i0 (by omega)
          rw [hfr 101 (by omega)]
          simp only [bn_eq]
          refine lp_inv3 (bo := bo_Sight_take_44 (H 205 1) k10 k20) (fun _ => rfl) (fun v' q u m => v' = v ∧ q = 4 * v + i ∧ m0 101 (4 * v + i).toNat ≤ u ∧ u ≤ m0 102 (4 * v + i).toNat + 1 ∧ (∀ a, a ≠ 105 → m a = m0 a) ∧ sgQ m (fun k p u' => ((k < v ∧ atS H S u' k = p) ∨ (k = v ∧ ∃ i' : Int, 0 ≤ i' ∧ i' < i ∧ m0 101 (4 * v + i').toNat ≤ u' ∧ u' ≤ m0 102 (4 * v + i').toNat ∧ H 214 (4 * v + i').toNat = p)) ∨ (k = v ∧ m0 101 (4 * v + i).toNat ≤ u' ∧ u' < u ∧ H 214 (4 * v + i).toNat = p))) (fun _ _ u _ => (240 - u).toNat) ?_ FU v (4 * v + i) (m0 101 (4 * v + i).toNat) m ⟨rfl, rfl, by omega, by omega, hfr, fun p u p0 p1 u0 u1 => ?_⟩ (by show (240 - m0 101 (4 * v + i).toNat).toNat < 2000; omega)
          · intro k44 v' q u m hI hk44
            obtain ⟨rfl, rfl, h0, h1, hfr, hq⟩ := hI
            unfold bo_Sight_take_44
            rw [hfr 102 (by omega), hfr 100 (by omega), g5]
            refine TT_gd (by omega) ?_
            refine TT_if (fun c3 => ?_) (fun c3 => ?_)
            · unfold bo_Sight_take_87
              simp (disch := omega) only [w32_in]
              refine hk20 _ _ m ⟨rfl, i + 1, by omega, by omega, by omega, hfr, fun p u' p0 p1 u0 u1 => ?_⟩ (by omega)
              obtain ⟨x1, x2, x3⟩ := hq p u' p0 p1 u0 u1
              refine ⟨x1, x2, fun k y0 y1 => ?_⟩
              rw [x3 k y0 y1]
              constructor
              · intro z
                rcases z with (z | z) | z
                · exact Or.inl z
                · obtain ⟨z0, i', z1, z2, z3⟩ := z
                  exact Or.inr ⟨z0, i', z1, by omega, z3⟩
                · exact Or.inr ⟨z.1, i, i0, by omega, z.2.1, by omega, z.2.2.2⟩
              · intro z
                rcases z with z | z
                · exact Or.inl (Or.inl z)
                · obtain ⟨z0, i', z1, z2, z3, z4, z5⟩ := z
                  by_cases d : i' = i
                  · subst d
                    exact Or.inr ⟨z0, z3, by omega, z5⟩
                  · exact Or.inl (Or.inr ⟨z0, i', z1, by omega, z3, z4, z5⟩)
            · have ex : H 214 (4 * v' + i).toNat * 240 + u = 240 * H 214 (4 * v' + i).toNat + u := by omega
              refine TT_gd (by omega) ?_
              simp (disch := omega) only [bn_eq, w32_in, ex]
              refine TT_gd (by omega) ?_
              refine TT_gd (by omega) ?_
              refine hk44 _ _ _ _ ⟨rfl, rfl, by omega, by omega, fun a ha => ?_, fun p u' p0 p1 u0 u1 => ?_⟩ (by omega)
              · rw [mst_ne ha]; exact hfr a ha
              · obtain ⟨x1, x2, x3⟩ := hq p u' p0 p1 u0 u1
                by_cases d : p = H 214 (4 * v' + i).toNat ∧ u' = u
                · obtain ⟨rfl, rfl⟩ := d
                  rw [mst_hit]
                  have r := bt_set_r x1 x2 w0 (by omega : v' < 6)
                  refine ⟨r.1, r.2, fun k y0 y1 => ?_⟩
                  rw [bt_set x1 x2 w0 (by omega) y0 y1]
                  by_cases d2 : k = v'
                  · subst d2
                    simp only [if_true, true_iff]
                    exact Or.inr ⟨trivial, by omega, by omega, trivial⟩
                  · rw [if_neg d2, x3 k y0 y1]
                    constructor
                    · intro z
                      rcases z with z | z
                      · exact Or.inl z
                      · exact absurd z.1 d2
                    · intro z
                      rcases z with z | z
                      · exact Or.inl z
                      · exact absurd z.1 d2
                · rw [mst_miss (by omega)]
                  refine ⟨x1, x2, fun k y0 y1 => ?_⟩
                  rw [x3 k y0 y1]
                  constructor
                  · intro z
                    rcases z with z | z
                    · exact Or.inl z
                    · exact Or.inr ⟨z.1, z.2.1, by omega, z.2.2.2⟩
                  · intro z
                    rcases z with z | z
                    · exact Or.inl z
                    · by_cases d2 : u' = u
                      · exact absurd ⟨z.2.2.2.symm, d2⟩ d
                      · exact Or.inr ⟨z.1, z.2.1, by omega, z.2.2.2⟩
          · obtain ⟨x1, x2, x3⟩ := hq p u p0 p1 u0 u1
            refine ⟨x1, x2, fun k y0 y1 => ?_⟩
            rw [x3 k y0 y1]
            constructor
            · intro z; exact Or.inl z
            · intro z
              rcases z with z | z
              · exact z
              · omega
        · unfold bo_Sight_take_93
          simp (disch := omega) only [w32_in]
          refine hk10 _ m ⟨by omega, by omega, hfr, fun p u p0 p1 u0 u1 => ?_⟩ (by omega)
          obtain ⟨x1, x2, x3⟩ := hq p u p0 p1 u0 u1
          refine ⟨x1, x2, fun k y0 y1 => ?_⟩
          rw [x3 k y0 y1]
          constructor
          · intro z
            rcases z with z | z
            · exact ⟨by omega, z.2⟩
            · obtain ⟨z0, i', z1, z2, z3, z4, z5⟩ := z
              subst z0
              exact ⟨by omega, (n5 i' u z1 (by omega) z3 z4 u1).trans z5⟩
          · intro z
            obtain ⟨z1, z2⟩ := z
            by_cases d : k = v
            · subst d
              rcases En_at hE' u0 u1 with y | ⟨i', j0, j1, j2, j3, j4⟩
              · omega
              · exact Or.inr ⟨rfl, i', j0, by omega, j2, j3, by omega⟩
            · exact Or.inl ⟨by omega, z2⟩
      · obtain ⟨x1, x2, x3⟩ := hq p u p0 p1 u0 u1
        refine ⟨x1, x2, fun k y0 y1 => ?_⟩
        rw [x3 k y0 y1]
        constructor
        · intro z; exact Or.inl z
        · intro z
          rcases z with z | z
          · exact z
          · obtain ⟨z0, i', z1, z2, z3⟩ := z
            omega
    · refine TT_some.mpr ⟨hfr, fun p u p0 p1 u0 u1 => ?_⟩
      obtain ⟨x1, x2, x3⟩ := hq p u p0 p1 u0 u1
      obtain ⟨y1, y2, y3⟩ := setS_b (S := S) hH u p
      refine bt_ext x1 x2 y1 y2 (fun k k0 k1 => ?_)
      rw [x3 k k0 k1, y3 k k0 k1]
      constructor
      · intro z; exact ⟨by omega, z.2⟩
      · intro z; exact ⟨by omega, z.2⟩
  · rw [f2 _ (by omega)]
    refine ⟨by omega, by omega, fun k k0 k1 => ?_⟩
    rw [bt_zero k0 k1]
    constructor
    · intro z; omega
    · intro z; omega
end Sg
