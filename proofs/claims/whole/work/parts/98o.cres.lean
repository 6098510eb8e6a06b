/-! What the class's rests answers. -/
section Cr
theorem rsS_app {P : Int → Bool} {what : Int} : ∀ (j1 j2 : Nat) (many v : Int), rsS P what (j1 + j2) many v = if (rsS P what j1 many v).2 = true then rsS P what j1 many v else rsS P what j2 (rsS P what j1 many v).1 (v + j1) := by
  intro j1
  induction j1 with
  | zero =>
    intro j2 many v
    have e : v + ((0 : Nat) : Int) = v := by omega
    show rsS P what (0 + j2) many v = if false = true then (many, false) else rsS P what j2 many (v + ((0 : Nat) : Int))
    rw [if_neg (by decide), e, Nat.zero_add]
  | succ j1 ih =>
    intro j2 many v
    have e : j1 + 1 + j2 = j1 + j2 + 1 := by omega
    have e2 : v + ((j1 + 1 : Nat) : Int) = v + 1 + (j1 : Int) := by omega
    rw [e, e2]
    show (if P v = true then (if many = what then (v, true) else rsS P what (j1 + j2) (many + 1) (v + 1)) else rsS P what (j1 + j2) many (v + 1)) = if (if P v = true then (if many = what then (v, true) else rsS P what j1 (many + 1) (v + 1)) else rsS P what j1 many (v + 1)).2 = true then (if P v = true then (if many = what then (v, true) else rsS P what j1 (many + 1) (v + 1)) else rsS P what j1 many (v + 1)) else rsS P what j2 (if P v = true then (if many = what then (v, true) else rsS P what j1 (many + 1) (v + 1)) else rsS P what j1 many (v + 1)).1 (v + 1 + (j1 : Int))
    by_cases y : P v = true
    · rw [if_pos y, if_pos y]
      by_cases z : many = what
      · rw [if_pos z, if_pos z, if_pos rfl]
      · rw [if_neg z, if_neg z]
        exact ih j2 (many + 1) (v + 1)
    · rw [if_neg y, if_neg y]
      exact ih j2 many (v + 1)
theorem rsS_r {P : Int → Bool} {what : Int} : ∀ (j : Nat) (many v : Int), ((rsS P what j many v).2 = true → v ≤ (rsS P what j many v).1 ∧ (rsS P what j many v).1 < v + j) ∧ (¬ (rsS P what j many v).2 = true → many ≤ (rsS P what j many v).1 ∧ (rsS P what j many v).1 ≤ many + j) := by
  intro j
  induction j with
  | zero =>
    intro many v
    refine ⟨fun h => ?_, fun _ => ?_⟩
    · have h : false = true := h
      exact absurd h (by decide)
    · show many ≤ many ∧ many ≤ many + ((0 : Nat) : Int)
      omega
  | succ j ih =>
    intro many v
    show ((if P v = true then (if many = what then (v, true) else rsS P what j (many + 1) (v + 1)) else rsS P what j many (v + 1)).2 = true → _) ∧ _
    have e : rsS P what (j + 1) many v = if P v = true then (if many = what then (v, true) else rsS P what j (many + 1) (v + 1)) else rsS P what j many (v + 1) := rfl
    rw [e]
    by_cases y : P v = true
    · rw [if_pos y]
      by_cases z : many = what
      · rw [if_pos z]
        refine ⟨fun _ => ?_, fun h => absurd rfl h⟩
        show v ≤ v ∧ v < v + ((j + 1 : Nat) : Int)
        omega
      · rw [if_neg z]
        obtain ⟨a1, a2⟩ := ih (many + 1) (v + 1)
        exact ⟨fun h => by have := a1 h; omega, fun h => by have := a2 h; omega⟩
    · rw [if_neg y]
      obtain ⟨a1, a2⟩ := ih many (v + 1)
      exact ⟨fun h => by have := a1 h; omega, fun h => by have := a2 h; omega⟩
variable {a b g what : Int} {c : Mm}
theorem cr_inner (a0 : 0 ≤ a) (a1 : a ≤ 9) (b0 : 0 ≤ b) (b1 : b ≤ 9) (g0 : 0 ≤ g) (g1 : g ≤ 20) {k50 : Int → Int → Mm → Res} {w : Int} (w0 : 0 ≤ w) (w1 : w ≤ 9) : ∀ (j n : Nat) (o many : Int), o + j = 10 → 0 ≤ o → j < n → 0 ≤ many → many ≤ 10 * w + o → lq60 a b g what k50 n many w o c = if (rsS (rsQ a b g) what j many (10 * w + o)).2 = true then some ((rsS (rsQ a b g) what j many (10 * w + o)).1, c) else k50 (rsS (rsQ a b g) what j many (10 * w + o)).1 (w + 1) c := by
  intro j
  induction j with
  | zero =>
    intro n o many h1 h2 h3 h4 h5
    obtain ⟨n, rfl⟩ : ∃ t, n = t + 1 := ⟨n - 1, by omega⟩
    show cr60 a b g what k50 _ many w o c = _
    unfold cr60 rsS
    rw [if_pos (by omega : 9 < o), if_neg (by decide : ¬ (false = true)), w32_in (x := w + 1) (by omega) (by omega)]
  | succ j ih =>
    intro n o many h1 h2 h3 h4 h5
    obtain ⟨n, rfl⟩ : ∃ t, n = t + 1 := ⟨n - 1, by omega⟩
    have e1 : (10 * w + o) / 10 = w := by omega
    have e2 : (10 * w + o) % 10 = o := by omega
    have e3 : 10 * w + o + 1 = 10 * w + (o + 1) := by omega
    show cr60 a b g what k50 (lq60 a b g what k50 n) many w o c = _
    unfold cr60 rsS
    rw [if_neg (by omega : ¬ 9 < o), w32_in (x := a - b) (by omega) (by omega), w32_in (x := b - a) (by omega) (by omega), c_isRest (by omega) (by omega) g0 g1 w0 w1, bd_some, w32_in (x := o + 1) (by omega) (by omega), w32_in (x := many + 1) (by omega) (by omega), w32_in (x := 10 * w) (by omega) (by omega), w32_in (x := 10 * w + o) (by omega) (by omega), e3]
    by_cases y1 : rsP (a - b) g w o = -1
    · rw [if_pos y1, if_neg (by decide : ¬ (1 : Int) = 0), c_isRest (by omega) (by omega) g0 g1 (by omega) (by omega), bd_some]
      by_cases y2 : rsP (b - a) g o w = -1
      · have yq : rsQ a b g (10 * w + o) = true := by
          unfold rsQ
          rw [e1, e2]
          exact decide_eq_true ⟨y1, y2⟩
        rw [if_pos y2, if_neg (by decide : ¬ (1 : Int) = 0), if_pos yq]
        by_cases z : many = what
        · rw [if_pos z, if_pos z, if_pos (by show ¬ (10 * w + o) = -9; omega), if_pos rfl]
        · rw [if_neg z, if_neg z]
          exact ih n (o + 1) (many + 1) (by omega) (by omega) (by omega) (by omega) (by omega)
      · have yq : ¬ rsQ a b g (10 * w + o) = true := by
          unfold rsQ
          rw [e1, e2, decide_eq_true_eq]
          exact fun h => y2 h.2
        rw [if_neg y2, if_pos rfl, if_neg yq]
        exact ih n (o + 1) many (by omega) (by omega) (by omega) (by omega) (by omega)
    · have yq : ¬ rsQ a b g (10 * w + o) = true := by
        unfold rsQ
        rw [e1, e2, decide_eq_true_eq]
        exact fun h => y1 h.1
      rw [if_neg y1, if_pos rfl, if_neg yq]
      exact ih n (o + 1) many (by omega) (by omega) (by omega) (by omega) (by omega)
theorem cr_outer (a0 : 0 ≤ a) (a1 : a ≤ 9) (b0 : 0 ≤ b) (b1 : b ≤ 9) (g0 : 0 ≤ g) (g1 : g ≤ 20) : ∀ (i n : Nat) (w many : Int), w + i = 10 → 0 ≤ w → i < n → 0 ≤ many → many ≤ 10 * w → lq50 a b g what n many w c = if (rsS (rsQ a b g) what (10 * i) many (10 * w)).2 = true then some ((rsS (rsQ a b g) what (10 * i) many (10 * w)).1, c) else if what = -1 then some ((rsS (rsQ a b g) what (10 * i) many (10 * w)).1, c) else some (THR, c) := by
  intro i
  induction i with
  | zero =>
    intro n w many h1 h2 h3 h4 h5
    obtain ⟨n, rfl⟩ : ∃ t, n = t + 1 := ⟨n - 1, by omega⟩
    show cr50 a b g what _ many w c = if false = true then some (many, c) else if what = -1 then some (many, c) else some (THR, c)
    unfold cr50
    rw [if_pos (by omega : 9 < w), if_neg (by decide : ¬ (false = true))]
    by_cases z : what = -1
    · rw [if_pos z, if_pos z, if_pos (by show ¬ many = -9; omega)]
    · rw [if_neg z, if_neg z]
  | succ i ih =>
    intro n w many h1 h2 h3 h4 h5
    obtain ⟨n, rfl⟩ : ∃ t, n = t + 1 := ⟨n - 1, by omega⟩
    have e : 10 * (i + 1) = 10 + 10 * i := by omega
    have e0 : 10 * w + 0 = 10 * w := by omega
    have e10 : 10 * w + ((10 : Nat) : Int) = 10 * (w + 1) := by omega
    show cr50 a b g what (lq50 a b g what n) many w c = _
    unfold cr50
    rw [if_neg (by omega : ¬ 9 < w), cr_inner a0 a1 b0 b1 g0 g1 h2 (by omega) 10 FU 0 many (by omega) (by omega) (by decide) h4 (by omega), e0, e, rsS_app, e10]
    have r := rsS_r (P := rsQ a b g) (what := what) 10 many (10 * w)
    by_cases y : (rsS (rsQ a b g) what 10 many (10 * w)).2 = true
    · rw [if_pos y, if_pos y, if_pos y]
    · rw [if_neg y, if_neg y]
      have r2 := r.2 y
      exact ih n (w + 1) _ (by omega) (by omega) (by omega) (by omega) (by omega)
theorem c_rests : fn_Clock_rests a b g what c =
    if a < 0 ∨ 9 < a ∨ b < 0 ∨ 9 < b ∨ g < 0 ∨ 20 < g ∨ what < -1 then some (THR, c)
    else if (rsS (rsQ a b g) what 100 0 0).2 = true then some ((rsS (rsQ a b g) what 100 0 0).1, c)
    else if what = -1 then some ((rsS (rsQ a b g) what 100 0 0).1, c) else some (THR, c) := by
  unfold fn_Clock_rests
  by_cases h1 : a < 0
  · rw [if_pos h1, if_pos (by omega)]
  rw [if_neg h1]
  by_cases h2 : 9 < a
  · rw [if_pos h2, if_pos (by omega)]
  rw [if_neg h2]
  by_cases h3 : b < 0
  · rw [if_pos h3, if_pos (by omega)]
  rw [if_neg h3]
  by_cases h4 : 9 < b
  · rw [if_pos h4, if_pos (by omega)]
  rw [if_neg h4]
  by_cases h5 : g < 0
  · rw [if_pos h5, if_pos (by omega)]
  rw [if_neg h5]
  by_cases h6 : 20 < g
  · rw [if_pos h6, if_pos (by omega)]
  rw [if_neg h6]
  by_cases h7 : what < -1
  · rw [if_pos h7, if_pos (by omega)]
  rw [if_neg h7, if_neg (by omega)]
  exact cr_outer (by omega) (by omega) (by omega) (by omega) (by omega) (by omega) 10 FU 0 0 (by omega) (by omega) (by decide) (by omega) (by omega)
/-- both: the class throws where the reference notes it; else the same answer -/
theorem rests_both {f : Int → Int → Int → Int} {m : Mm} (hR : RR f m m) (a b g what : Int) : ∃ r x m2, fn_Clock_rests a b g what m = some (r, m) ∧ fn_Model_rests a b g what m = some (x, m2) ∧ RR f m2 m2 ∧ ((r = THR ∧ m2 203 0 = 1) ∨ (r ≠ THR ∧ m2 203 0 = 0 ∧ r = x)) := by
  have fr : ∀ (d : Mm), (∀ k, k ≠ 203 → d k = m k) → (∀ j, j ≠ 0 → d 203 j = m 203 j) → RR f d d := fun d h1 h2 => by
    refine RR_FQ hR ⟨fun k k0 _ _ _ _ _ _ => h1 k (by omega), fun j _ => by rw [h1 0 (by decide)], fun j _ => by rw [h1 14 (by decide)], fun j _ => by rw [h1 51 (by decide)]⟩ ⟨fun k k0 _ _ _ => h1 k (by omega), h2 1 (by decide), h2 58 (by decide)⟩
  have f1 : ∀ x, RR f (mst m 203 0 x) (mst m 203 0 x) := fun x => fr _ (fun k hk => mst_ne hk) (fun j hj => mst_miss hj)
  have f2 : ∀ x y, RR f (mst (mst m 203 0 x) 203 0 y) (mst (mst m 203 0 x) 203 0 y) := fun x y => fr _ (fun k hk => by rw [mst_ne hk, mst_ne hk]) (fun j hj => by rw [mst_miss hj, mst_miss hj])
  rw [c_rests, m_rests]
  by_cases h : a < 0 ∨ 9 < a ∨ b < 0 ∨ 9 < b ∨ g < 0 ∨ 20 < g ∨ what < -1
  · rw [if_pos h, if_pos h]
    exact ⟨THR, 0, _, rfl, rfl, f1 1, Or.inl ⟨rfl, mst_hit⟩⟩
  · rw [if_neg h, if_neg h]
    have r := rsS_r (P := rsQ a b g) (what := what) 100 0 0
    by_cases y : (rsS (rsQ a b g) what 100 0 0).2 = true
    · rw [if_pos y, if_pos y]
      exact ⟨_, _, _, rfl, rfl, f1 0, Or.inr ⟨by have := r.1 y; show ¬ _ = (-9 : Int); omega, mst_hit, rfl⟩⟩
    · rw [if_neg y, if_neg y]
      by_cases z : what = -1
      · rw [if_pos z, if_pos z]
        exact ⟨_, _, _, rfl, rfl, f2 0 0, Or.inr ⟨by have := r.2 y; show ¬ _ = (-9 : Int); omega, mst_hit, rfl⟩⟩
      · rw [if_neg z, if_neg z]
        exact ⟨THR, 0, _, rfl, rfl, f2 0 1, Or.inl ⟨rfl, mst_hit⟩⟩
end Cr
