/-! rests, as far as nothing is thrown. -/
section Re
variable {f : Int → Int → Int → Int} {m c d : Mm}
/-- what one gets of an hour who comes so much later and waits so long -/
def gC (l g w o : Int) : Int := if l < 0 then (if w < -l then -w else g + l) else if o < l then 0 else g
theorem c_gain {l g w o : Int} (l0 : -9 ≤ l) (l1 : l ≤ 9) (g0 : 0 ≤ g) (g1 : g ≤ 20) (w0 : 0 ≤ w) (w1 : w ≤ 9) : fn_Clock_gain l g w o c = some (gC l g w o, c) := by
  unfold fn_Clock_gain gC
  by_cases h : l < 0
  · rw [if_pos h, if_pos h, w32_in (x := -l) (by omega) (by omega)]
    by_cases h2 : w < -l
    · rw [if_pos h2, if_pos h2, w32_in (by omega) (by omega)]
    · rw [if_neg h2, if_neg h2, w32_in (by omega) (by omega)]
  · rw [if_neg h, if_neg h]
    split <;> rfl
theorem m_getsBy {a b g w o : Int} (a0 : 0 ≤ a) (a1 : a ≤ 9) (b0 : 0 ≤ b) (b1 : b ≤ 9) (g0 : 0 ≤ g) (g1 : g ≤ 20) (w0 : 0 ≤ w) (w1 : w ≤ 9) : fn_Model_getsBy a b g w o d = some (gC (a - b) g w o, d) ∨ (a = b ∧ o < 0) := by
  unfold fn_Model_getsBy gC
  by_cases h : a = b
  · by_cases ho : o < 0
    · exact Or.inr ⟨h, ho⟩
    · left
      rw [if_pos h, if_neg (by omega), if_neg (by omega)]
  · left
    rw [if_neg h]
    by_cases h2 : a < b
    · rw [if_pos h2, w32_in (x := b - a) (by omega) (by omega), if_pos (by omega : a - b < 0)]
      by_cases h3 : w < b - a
      · rw [if_pos h3, if_pos (by omega), w32_in (by omega) (by omega)]
      · rw [if_neg h3, if_neg (by omega), w32_in (by omega) (by omega)]
        congr 2
        omega
    · rw [if_neg h2, w32_in (x := a - b) (by omega) (by omega), if_neg (by omega : ¬ a - b < 0)]
      by_cases h3 : o < a - b
      · rw [if_pos h3, if_pos h3]
      · rw [if_neg h3, if_neg h3]
/-- no other wait gets him more -/
def rsP (l g w o : Int) : Int := fst (fun v => decide (gC l g w o < gC l g v o)) 10 0
theorem c_isRest {l g w o : Int} (l0 : -9 ≤ l) (l1 : l ≤ 9) (g0 : 0 ≤ g) (g1 : g ≤ 20) (w0 : 0 ≤ w) (w1 : w ≤ 9) : fn_Clock_isRest l g w o c = some (if rsP l g w o = -1 then 1 else 0, c) := by
  unfold fn_Clock_isRest rsP
  rw [c_gain l0 l1 g0 g1 w0 w1, bd_some]
  exact lp_fst (lp := fun n v mm => lp_Clock_isRest_12 l g w o n (gC l g w o) v mm) (bo := fun k v mm => bo_Clock_isRest_12 l g w o (fun _ v' mm' => k v' mm') (gC l g w o) v mm) (N := 10) (m := c) (P := fun v => decide (gC l g w o < gC l g v o)) (g := fun _ => 0) (y := 1)
    (fun n => by
      funext v mm
      show bo_Clock_isRest_12 l g w o (lp_Clock_isRest_12 l g w o n) (gC l g w o) v mm = _
      unfold bo_Clock_isRest_12
      split
      · rfl
      · congr 1)
    (fun k v v0 v1 => by
      show bo_Clock_isRest_12 l g w o _ (gC l g w o) v c = _
      unfold bo_Clock_isRest_12
      rw [if_neg (by omega), c_gain l0 l1 g0 g1 v0 (by omega), bd_some, w32_in (x := v + 1) (by omega) (by omega)]
      simp only [decide_eq_true_eq])
    (fun k => by
      show bo_Clock_isRest_12 l g w o _ (gC l g w o) 10 c = _
      unfold bo_Clock_isRest_12
      rw [if_pos (by omega)])
    10 FU 0 (by omega) (by omega) (by show 10 < 2000; omega)
theorem m_gets {a b g w o : Int} (a0 : 0 ≤ a) (a1 : a ≤ 9) (b0 : 0 ≤ b) (b1 : b ≤ 9) (g0 : 0 ≤ g) (g1 : g ≤ 20) (w0 : 0 ≤ w) (w1 : w ≤ 9) (o0 : 0 ≤ o) : fn_Model_getsBy a b g w o d = some (gC (a - b) g w o, d) := by
  rcases m_getsBy (d := d) (o := o) a0 a1 b0 b1 g0 g1 w0 w1 with h | h
  · exact h
  · omega
theorem m_isRest {a b g w o : Int} (a0 : 0 ≤ a) (a1 : a ≤ 9) (b0 : 0 ≤ b) (b1 : b ≤ 9) (g0 : 0 ≤ g) (g1 : g ≤ 20) (w0 : 0 ≤ w) (w1 : w ≤ 9) (o0 : 0 ≤ o) (o1 : o ≤ 9) : fn_Model_isRest a b g w o d = some (if rsP (a - b) g w o = -1 ∧ rsP (b - a) g o w = -1 then 1 else 0, d) := by
  unfold fn_Model_isRest
  have e := lp_fst (lp := lp_Model_isRest_3 a b g w o) (bo := bo_Model_isRest_3 a b g w o) (fun n => rfl) (N := 10) (m := d) (P := fun v => decide (gC (a - b) g w o < gC (a - b) g v o ∨ gC (b - a) g o w < gC (b - a) g v w)) (g := fun _ => 0) (y := 1)
    (fun k v v0 v1 => by
      unfold bo_Model_isRest_3
      rw [if_pos (by omega : v < 10), m_gets a0 a1 b0 b1 g0 g1 v0 (by omega) o0, bd_some, m_gets a0 a1 b0 b1 g0 g1 w0 w1 o0, bd_some, m_gets b0 b1 a0 a1 g0 g1 v0 (by omega) w0, bd_some, m_gets b0 b1 a0 a1 g0 g1 o0 o1 w0, bd_some, w32_in (x := v + 1) (by omega) (by omega)]
      simp only [decide_eq_true_eq]
      by_cases y1 : gC (a - b) g w o < gC (a - b) g v o
      · rw [if_pos y1, if_pos (Or.inl y1)]
      · rw [if_neg y1]
        by_cases y2 : gC (b - a) g o w < gC (b - a) g v w
        · rw [if_pos y2, if_pos (Or.inr y2)]
        · rw [if_neg y2, if_neg (by omega)])
    (fun k => by
      unfold bo_Model_isRest_3
      rw [if_neg (by omega)])
    10 FU 0 (by omega) (by omega) (by show 10 < 2000; omega)
  rw [e]
  have q1 := fst_none (P := fun v => decide (gC (a - b) g w o < gC (a - b) g v o ∨ gC (b - a) g o w < gC (b - a) g v w)) (j := 10) (v := 0) (by omega)
  have q2 := fst_none (P := fun v => decide (gC (a - b) g w o < gC (a - b) g v o)) (j := 10) (v := 0) (by omega)
  have q3 := fst_none (P := fun v => decide (gC (b - a) g o w < gC (b - a) g v w)) (j := 10) (v := 0) (by omega)
  have q : (fst (fun v => decide (gC (a - b) g w o < gC (a - b) g v o ∨ gC (b - a) g o w < gC (b - a) g v w)) 10 0 = -1) ↔ (rsP (a - b) g w o = -1 ∧ rsP (b - a) g o w = -1) := by
    unfold rsP
    rw [q1, q2, q3]
    simp only [decide_eq_false_iff_not]
    constructor
    · intro h
      exact ⟨fun t t0 t1 => by have := h t t0 t1; omega, fun t t0 t1 => by have := h t t0 t1; omega⟩
    · intro h t t0 t1
      have := h.1 t t0 t1
      have := h.2 t t0 t1
      omega
  by_cases y : rsP (a - b) g w o = -1 ∧ rsP (b - a) g o w = -1
  · rw [if_pos (q.mpr y), if_pos y]
  · rw [if_neg (fun z => y (q.mp z)), if_neg y]
/-- the rest asked for, or how many there are -/
def rsS (P : Int → Bool) (what : Int) : Nat → Int → Int → Int × Bool
  | 0, many, _ => (many, false)
  | n + 1, many, v => if P v = true then (if many = what then (v, true) else rsS P what n (many + 1) (v + 1)) else rsS P what n many (v + 1)
def rsQ (a b g v : Int) : Bool := decide (rsP (a - b) g (v / 10) (v % 10) = -1 ∧ rsP (b - a) g (v % 10) (v / 10) = -1)
theorem di_all : ∀ k : Nat, k < 100 → idv (k : Int) 10 = ((k / 10 : Nat) : Int) ∧ irm (k : Int) 10 = ((k % 10 : Nat) : Int) := by decide +kernel
theorem di_in {v : Int} (v0 : 0 ≤ v) (v1 : v < 100) : idv v 10 = v / 10 ∧ irm v 10 = v % 10 := by
  obtain ⟨k, rfl⟩ : ∃ k : Nat, v = k := ⟨v.toNat, by omega⟩
  obtain ⟨h1, h2⟩ := di_all k (by omega)
  rw [h1, h2]
  omega
/-- what the reference's rests answers, and whether it throws -/
theorem m_rests {a b g what : Int} : fn_Model_rests a b g what d = 
    if a < 0 ∨ 9 < a ∨ b < 0 ∨ 9 < b ∨ g < 0 ∨ 20 < g ∨ what < -1 then some (0, mst d 203 0 1)
    else if (rsS (rsQ a b g) what 100 0 0).2 = true then some ((rsS (rsQ a b g) what 100 0 0).1, mst d 203 0 0)
    else if what = -1 then some ((rsS (rsQ a b g) what 100 0 0).1, mst (mst d 203 0 0) 203 0 0) else some (0, mst (mst d 203 0 0) 203 0 1) := by
  have bad : bo_Model_rests_41 a b g what d = some (0, mst d 203 0 1) := by
    unfold bo_Model_rests_41 bo_Model_rests_42
    rw [bn_eq, mst_hit, if_pos rfl]
  unfold fn_Model_rests
  rw [m_within, bd_some]
  by_cases h1 : a < 0
  · rw [if_pos h1, if_pos rfl, bad, if_pos (by omega)]
  rw [if_neg h1]
  by_cases h2 : 9 < a
  · rw [if_pos h2, if_pos rfl, bad, if_pos (by omega)]
  rw [if_neg h2, if_neg (by decide), m_within, bd_some]
  by_cases h3 : b < 0
  · rw [if_pos h3, if_pos rfl, bad, if_pos (by omega)]
  rw [if_neg h3]
  by_cases h4 : 9 < b
  · rw [if_pos h4, if_pos rfl, bad, if_pos (by omega)]
  rw [if_neg h4, if_neg (by decide), m_within, bd_some]
  by_cases h5 : g < 0
  · rw [if_pos h5, if_pos rfl, bad, if_pos (by omega)]
  rw [if_neg h5]
  by_cases h6 : 20 < g
  · rw [if_pos h6, if_pos rfl, bad, if_pos (by omega)]
  rw [if_neg h6, if_neg (by decide)]
  by_cases h7 : what < -1
  · rw [if_pos h7, bad, if_pos (by omega)]
  rw [if_neg h7, if_neg (by omega)]
  unfold bo_Model_rests_42
  rw [bn_eq, mst_hit, if_neg (by decide)]
  generalize mst d 203 0 0 = d0
  have key : ∀ (j n : Nat) (many v : Int), v + j = 100 → 0 ≤ v → j < n → 0 ≤ many → many ≤ v → lp_Model_rests_61 a b g what n many v d0 = if (rsS (rsQ a b g) what j many v).2 = true then some ((rsS (rsQ a b g) what j many v).1, d0) else if what = -1 then some ((rsS (rsQ a b g) what j many v).1, mst d0 203 0 0) else some (0, mst d0 203 0 1) := by
    intro j
    induction j with
    | zero =>
      intro n many v e1 e2 e3 e4 e5
      obtain ⟨n', rfl⟩ : ∃ n', n = n' + 1 := ⟨n - 1, by omega⟩
      show bo_Model_rests_61 a b g what _ many v d0 = _
      unfold bo_Model_rests_61 bo_Model_rests_109 bo_Model_rests_121 rsS
      rw [if_neg (by omega : ¬ v < 100), if_neg (by decide : ¬ (false = true))]
      by_cases y : what = -1
      · rw [if_pos y, if_pos y, bn_eq, if_pos y]
      · rw [if_neg y, if_neg y, bn_eq, if_neg y]
    | succ j ih =>
      intro n many v e1 e2 e3 e4 e5
      obtain ⟨n', rfl⟩ : ∃ n', n = n' + 1 := ⟨n - 1, by omega⟩
      obtain ⟨d1, d2⟩ := di_in e2 (by omega)
      show bo_Model_rests_61 a b g what (lp_Model_rests_61 a b g what n') many v d0 = _
      unfold bo_Model_rests_61 bo_Model_rests_103 rsS
      rw [if_pos (by omega : v < 100), d1, d2, m_isRest (by omega) (by omega) (by omega) (by omega) (by omega) (by omega) (by omega) (by omega) (by omega) (by omega), bd_some, w32_in (x := v + 1) (by omega) (by omega), w32_in (x := many + 1) (by omega) (by omega)]
      by_cases y : rsP (a - b) g (v / 10) (v % 10) = -1 ∧ rsP (b - a) g (v % 10) (v / 10) = -1
      · have yq : rsQ a b g v = true := by unfold rsQ; exact decide_eq_true y
        rw [if_pos y, if_neg (by decide : ¬ (1 : Int) = 0), if_pos yq]
        by_cases z : many = what
        · rw [if_pos z, if_pos z, if_pos rfl]
        · rw [if_neg z, if_neg z]
          exact ih n' (many + 1) (v + 1) (by omega) (by omega) (by omega) (by omega) (by omega)
      · have yq : ¬ rsQ a b g v = true := by unfold rsQ; rw [decide_eq_true_eq]; exact y
        rw [if_neg y, if_pos rfl, if_neg yq]
        exact ih n' many (v + 1) (by omega) (by omega) (by omega) (by omega) (by omega)
  exact key 100 FU 0 0 (by omega) (by omega) (by show 100 < 2000; omega) (by omega) (by omega)
end Re
