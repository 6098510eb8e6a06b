/-! The two constructors, run: what they leave. -/
def mem00 : Mm := fun k j => if k = 1 ∧ j = 2 then -1 else 0
def chkL (mem : Mm) (lo hi : Nat) : Bool := (List.range (hi - lo)).all (fun i =>
  let k := lo + i
  let t := ly_k k
  if t.1 < 12 then (List.range (ly_tg t.1).length).all (fun j => let g := (ly_tg t.1).getD j (0, 0); !(Nat.beq g.1 5) || decide (mem k j = (k : Int) + g.2))
  else if t.1 < 16 then true else (List.range t.2).all (fun j => decide (mem k j = ((k + (raO t.1).1 + (raO t.1).2 * j : Nat) : Int))))
def ini0 : List (Nat × Nat × Int) := [(4, 0, 0), (4, 1, 0), (4, 2, 0), (4, 3, 0), (4, 4, 0), (14, 2, 1), (15, 0, (-2)), (0, 2, 4), (0, 3, 41), (0, 8, 0), (0, 9, 0), (1, 0, 0), (83, 0, 0), (83, 1, 0), (83, 2, 0), (83, 3, 0), (84, 0, 0), (85, 0, 0), (84, 1, 0), (85, 1, 0), (84, 2, 0), (85, 2, 0), (84, 3, 0), (85, 3, 0), (84, 4, 0), (85, 4, 0), (84, 5, 0), (85, 5, 0), (86, 0, 0), (82, 3, 0), (111, 0, 0), (122, 0, 0), (133, 0, 0), (144, 0, 0), (203, 0, 0), (203, 1, 0), (203, 58, 0), (205, 0, 0), (205, 1, 0), (205, 2, 0), (205, 3, 0), (205, 4, 0), (245, 0, 0), (245, 1, 0), (245, 2, 0), (245, 3, 0), (245, 4, 0), (245, 5, 0), (245, 6, 0), (245, 7, 0), (245, 8, 0), (245, 9, 0), (245, 10, 0), (245, 11, 0), (245, 12, 0), (245, 13, 0), (245, 14, 0), (245, 15, 0), (236, 0, 0), (240, 0, 0), (249, 0, 0), (249, 1, 0), (249, 2, 0), (249, 3, 0), (244, 0, (-2)), (244, 1, (-2)), (244, 2, (-2)), (244, 3, (-2)), (244, 4, (-2)), (244, 5, (-2)), (221, 0, 0), (222, 0, 0)]
def chkI (mem : Mm) : Bool := ini0.all (fun q => decide (mem q.1 q.2.1 = q.2.2))
def iniT : Bool := match fc_Clock_init 203 0 (mnw mem00 (dfO 10)) with
  | none => false
  | some (r1, m1) => Nat.beq (mN m1) 203 && decide (r1 = 0) && match fc_Model_init 260 203 (mnw m1 (dfO 11)) with
    | none => false
    | some (r2, m2) => decide (r2 = 0) && (Nat.beq (mN m2) 260 && (chkL m2 0 260 && chkI m2))
set_option maxRecDepth 100000 in
theorem iniT_ok : iniT = true := by decide +kernel
theorem ini_mem : ∃ m1 m2 : Mm, fc_Clock_init 203 0 (mnw mem00 (dfO 10)) = some (0, m1) ∧ fc_Model_init 260 203 (mnw m1 (dfO 11)) = some (0, m2) ∧ mN m1 = 203 ∧ mN m2 = 260 ∧ chkL m2 0 260 = true ∧ chkI m2 = true := by
  have h := iniT_ok
  unfold iniT at h
  cases h1 : fc_Clock_init 203 0 (mnw mem00 (dfO 10)) with
  | none => rw [h1] at h; cases h
  | some x =>
    obtain ⟨r1, m1⟩ := x
    rw [h1] at h
    simp only [Bool.and_eq_true, decide_eq_true_eq] at h
    obtain ⟨⟨e1, e2⟩, h⟩ := h
    cases h2 : fc_Model_init 260 203 (mnw m1 (dfO 11)) with
    | none => rw [h2] at h; cases h
    | some y =>
      obtain ⟨r2, m2⟩ := y
      rw [h2] at h
      simp only [Bool.and_eq_true, decide_eq_true_eq] at h
      obtain ⟨e3, e4, e5, e6⟩ := h
      subst e2
      subst e3
      exact ⟨m1, m2, rfl, h2, Nat.eq_of_beq_eq_true e1, Nat.eq_of_beq_eq_true e4, e5, e6⟩
theorem arrV_congr {cA : ClassId} {n : Nat} {f g : Nat → Value} (h : ∀ j, j < n → f j = g j) : arrV cA n f = arrV cA n g := by
  unfold arrV
  congr 1
  apply Array.ext
  · simp
  · intro i h1 h2
    simp at h1
    simp [h i h1]
/-- a raw world whose final references lie as the layout says is a world -/
theorem Wd_of {E : EE} {mem : Mm} {H : Heap} (hw : Wc E mem H) (hN : mN mem = 261) (hL : ∀ k, k < 261 → (∀ j t, (ly_tg (ly_k k).1)[j]? = some t → (ly_k k).1 < 12 → t.1 = 5 → mem k j = (k : Int) + t.2) ∧ (∀ j, j < (ly_k k).2 → (ly_k k).1 = 16 ∨ (ly_k k).1 = 17 ∨ (ly_k k).1 = 18 → mem k j = ((k + (raO (ly_k k).1).1 + (raO (ly_k k).1).2 * j : Nat) : Int))) : Wd E mem H := by
  refine ⟨fun k q hk => ?_, hw.2.1⟩
  have hlt : k < 261 := by
    have := (List.getElem?_eq_some_iff.mp hk).1
    rw [wL_len] at this
    exact this
  rw [wL_get hlt] at hk
  cases hk
  have h1 := hw.1 k _ (wR_get (E := E) (by rw [hN]; exact hlt))
  obtain ⟨kd, n, hkn⟩ : ∃ kd n, ly_k k = (kd, n) := ⟨_, _, rfl⟩
  obtain ⟨l1, l2⟩ := hL k hlt
  rw [hkn] at l1 l2
  by_cases hc : kd < 12
  · rw [entR_obj hkn hc] at h1
    rw [ent_obj hkn hc]
    have e1 : rowO E k kd (mem k) = rowR E kd (mem k) := by
      apply List.ext_getElem?
      intro j
      by_cases hj : j < (ly_tg kd).length
      · obtain ⟨t, ht⟩ : ∃ t, (ly_tg kd)[j]? = some t := ⟨_, List.getElem?_eq_getElem hj⟩
        rw [rowO_get ht, rowR_get ht]
        have h6 : ∀ ci, ci < 12 → ∀ q ∈ ly_tg ci, q.1 < 6 := by decide +kernel
        have h7 := h6 kd hc t (List.mem_of_getElem? ht)
        obtain ⟨t1, t2⟩ := t
        have ht1 : t1 = 0 ∨ t1 = 1 ∨ t1 = 2 ∨ t1 = 3 ∨ t1 = 4 ∨ t1 = 5 := by
          have : t1 < 6 := h7
          omega
        rcases ht1 with rfl | rfl | rfl | rfl | rfl | rfl
        · rfl
        · rfl
        · show some (if mem k j < 0 then Value.null else .ref (eB E + (mem k j).toNat)) = some (va_rf (rfR E (mem k j)))
          unfold rfR
          split <;> rfl
        · rfl
        · rfl
        · have h8 := l1 j (5, t2) ht hc rfl
          have h5 : ∀ k, k < 261 → ∀ q ∈ ly_tg (ly_k k).1, q.1 = 5 → 0 ≤ (k : Int) + q.2 := by decide +kernel
          have h9 := h5 k hlt (5, t2) (by rw [hkn]; exact List.mem_of_getElem? ht) rfl
          have h9 : 0 ≤ (k : Int) + t2 := h9
          have h8 : mem k j = (k : Int) + t2 := h8
          show some (Value.ref (eB E + ((k : Int) + t2).toNat)) = some (fvR E 5 (mem k j))
          rw [h8, fvR_ref (Or.inr rfl) h9]
      · rw [List.getElem?_eq_none (by rw [rowO_len]; omega), List.getElem?_eq_none (by rw [rowR_len]; omega)]
    rw [e1]
    exact h1
  · rw [entR_arr hkn hc] at h1
    rw [ent_arr hkn hc]
    have h1 : H[eB E + k]? = some (vp_cell (eA E kd) (entAR E kd n (mem k))) := h1
    show H[eB E + k]? = some (vp_cell (eA E kd) (entA E k kd n (mem k)))
    rw [h1]
    congr 1
    have hrf : ∀ (x : Int) (z : Nat), x = ((z : Nat) : Int) → va_rf (rfR E x) = va_rf (some (eB E + z)) := fun x z hx => by
      subst hx
      unfold rfR
      rw [if_neg (by omega)]
      rfl
    by_cases c16 : kd = 16
    · subst c16
      exact arrV_congr (fun j hj => hrf _ _ (l2 j hj (Or.inl rfl)))
    by_cases c17 : kd = 17
    · subst c17
      exact arrV_congr (fun j hj => hrf _ _ (l2 j hj (Or.inr (Or.inl rfl))))
    by_cases c18 : kd = 18
    · subst c18
      exact arrV_congr (fun j hj => hrf _ _ (l2 j hj (Or.inr (Or.inr rfl))))
    have hm : ∀ k, k < 261 → (ly_k k).1 < 19 := by decide +kernel
    have hkd := hm k hlt
    rw [hkn] at hkd
    have h19 : kd = 12 ∨ kd = 13 ∨ kd = 14 ∨ kd = 15 := by
      have : kd < 19 := hkd
      omega
    rcases h19 with rfl | rfl | rfl | rfl <;> rfl
