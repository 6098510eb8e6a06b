/-! At the beginning both are tied. -/
section In
def chkZ (mem : Mm) : Bool := ((List.range 36).all fun j => decide (mem 8 j = 0) && decide (mem 209 j = 0) && decide (mem 250 j = 0)) && decide (mem 82 6 = 0) && decide (mem 221 0 = 0) && decide (mem 222 0 = 0) && decide (mem 236 0 = 0) && decide (mem 240 0 = 0) && decide (mem 14 2 = 1) && decide (mem 15 0 = -2)
def iniZ : Bool := match fc_Clock_init 203 0 (mnw mem00 (dfO 10)) with
  | none => false
  | some (_, m1) => match fc_Model_init 260 203 (mnw m1 (dfO 11)) with
    | none => false
    | some (_, m2) => chkZ m2
set_option maxRecDepth 100000 in
theorem iniZ_ok : iniZ = true := by decide +kernel
theorem iniZ_of {m1 m2 : Mm} {r1 r2 : Int} (h1 : fc_Clock_init 203 0 (mnw mem00 (dfO 10)) = some (r1, m1)) (h2 : fc_Model_init 260 203 (mnw m1 (dfO 11)) = some (r2, m2)) : chkZ m2 = true := by
  have h := iniZ_ok
  unfold iniZ at h
  rw [h1] at h
  dsimp only at h
  rw [h2] at h
  exact h
theorem RR_ini {m : Mm} (hI : chkI m = true) (hZ : chkZ m = true) (h243 : ∀ j, m 243 j = 0 ∨ m 243 j = 1) : RR (fun o _ _ => o) m m := by
  have q : ∀ a j x, (a, j, x) ∈ ini0 → m a j = x := fun a j x hx => of_decide_eq_true ((List.all_eq_true.mp hI) (a, j, x) hx)
  unfold chkZ at hZ
  simp only [Bool.and_eq_true, decide_eq_true_eq, List.all_eq_true, List.mem_range] at hZ
  obtain ⟨⟨⟨⟨⟨⟨⟨z1, z2⟩, z3⟩, z4⟩, z5⟩, z6⟩, z7⟩, z8⟩ := hZ
  have p : ∀ x y : Int, 0 ≤ x → x < 6 → 0 ≤ y → y < 6 → m 8 (6 * x + y).toNat = 0 ∧ m 209 (6 * x + y).toNat = 0 ∧ m 250 (6 * x + y).toNat = 0 := fun x y x0 x1 y0 y1 => by
    obtain ⟨⟨a1, a2⟩, a3⟩ := z1 (6 * x + y).toNat (by omega)
    exact ⟨a1, a2, a3⟩
  have n0 : m 205 0 = 0 := q 205 0 0 (by decide +kernel)
  have n1 : m 205 1 = 0 := q 205 1 0 (by decide +kernel)
  have n2 : m 205 2 = 0 := q 205 2 0 (by decide +kernel)
  have n3 : m 205 3 = 0 := q 205 3 0 (by decide +kernel)
  have n4 : m 205 4 = 0 := q 205 4 0 (by decide +kernel)
  have h2 : m 0 2 = 4 := q 0 2 4 (by decide +kernel)
  have h3 : m 0 3 = 41 := q 0 3 41 (by decide +kernel)
  have t0 : (0 : Int).toNat = 0 := rfl
  have t4 : (m 0 2).toNat = 4 := by rw [h2]; rfl
  have s245 : ∀ j : Nat, j < 16 → m 245 j = 0 := fun j hj => by
    have hall : ∀ j : Nat, j < 16 → ((245, j, 0) : Nat × Nat × Int) ∈ ini0 := by decide +kernel
    exact q 245 j 0 (hall j hj)
  have s84 : ∀ j : Nat, j < 6 → m 84 j = 0 := fun j hj => by
    have hall : ∀ j : Nat, j < 6 → ((84, j, 0) : Nat × Nat × Int) ∈ ini0 := by decide +kernel
    exact q 84 j 0 (hall j hj)
  have mk : ∀ i : Int, 0 ≤ i → i < 4 → m (11 * i.toNat + 111) 0 = 0 ∧ m 249 i.toNat = 0 := fun i i0 i1 => by
    have : i = 0 ∨ i = 1 ∨ i = 2 ∨ i = 3 := by omega
    rcases this with rfl | rfl | rfl | rfl
    · exact ⟨q 111 0 0 (by decide +kernel), q 249 0 0 (by decide +kernel)⟩
    · exact ⟨q 122 0 0 (by decide +kernel), q 249 1 0 (by decide +kernel)⟩
    · exact ⟨q 133 0 0 (by decide +kernel), q 249 2 0 (by decide +kernel)⟩
    · exact ⟨q 144 0 0 (by decide +kernel), q 249 3 0 (by decide +kernel)⟩
  refine ⟨⟨?_, ?_, ?_, fun i i0 i1 => ?_⟩, Or.inl ⟨h2, h3⟩, ?_, ⟨⟨?_, ?_, ?_, ?_, fun w w0 w1 => ?_, fun h h0 h1 => ?_⟩, ?_, ?_, ?_, fun w w0 w1 => ?_, fun h h0 h1 => ?_, ?_⟩, ?_, ?_, fun h h0 h1 => ?_, fun i i0 i1 => ?_, ?_, h243⟩
  · rw [q 1 0 0 (by decide +kernel), q 203 1 0 (by decide +kernel)]
  · rw [q 1 0 0 (by decide +kernel)]; decide
  · rw [q 1 0 0 (by decide +kernel)]; decide
  · rw [q 1 0 0 (by decide +kernel)] at i1; omega
  · rw [t4]
    have c0 : m 4 0 = 0 := q 4 0 0 (by decide +kernel)
    have c1 : m 4 1 = 0 := q 4 1 0 (by decide +kernel)
    have c2 : m 4 2 = 0 := q 4 2 0 (by decide +kernel)
    refine ⟨⟨by omega, fun w w0 w1 => by omega, fun x y x0 x1 y0 y1 => ?_, fun x y x0 x1 y0 y1 => ?_, fun h h0 h1 => by omega⟩, ⟨Or.inl rfl, by omega, by omega, by omega, fun w w0 w1 => by omega, fun x y x0 x1 => by omega⟩, fun h h0 h1 => by omega, ?_, ?_, fun x y x0 x1 y0 y1 => ?_, fun i i0 i1 => by omega, fun i i0 i1 => by omega, fun i i0 i1 => by omega, ?_, ?_⟩
    · rw [(p x y x0 x1 y0 y1).2.2]
      exact ⟨by omega, by omega, fun _ _ _ => by omega⟩
    · rw [(p x y x0 x1 y0 y1).2.1]
      exact ⟨by omega, by omega, fun _ => rfl⟩
    · rw [q 4 3 0 (by decide +kernel), n3]
    · rw [q 4 4 0 (by decide +kernel), n4]
    · show m 8 _ = _
      rw [(p x y x0 x1 y0 y1).1, (p x y x0 x1 y0 y1).2.1]
    · have g : SemC 14 (m 15) 0 1 64 (fun o _ _ => o) := SemC_h (SemC_leaf (x := -2) (i := 0) z8 (Or.inr (Or.inl ⟨rfl, rfl⟩))) (by decide)
      exact SemC_law (th := 14) g z7 (by decide)
    · intro H o s y q1 q2 q3 q4 q5 q6
      exact ⟨fun _ => rfl, fun z => by omega⟩
  · rw [q 83 0 0 (by decide +kernel), s245 0 (by decide)]
  · rw [q 83 1 0 (by decide +kernel), s245 1 (by decide)]
  · rw [q 83 2 0 (by decide +kernel), s245 2 (by decide)]
  · rw [q 83 3 0 (by decide +kernel), s245 3 (by decide)]
  · rw [s84 _ (by omega), s245 _ (by omega)]
    exact ⟨rfl, by omega⟩
  · omega
  · rw [s245 2 (by decide)]; decide
  · rw [s245 2 (by decide)]; decide
  · rw [s245 3 (by decide)]; exact Or.inl rfl
  · rw [s245 _ (by omega)]
    exact ⟨by omega, by omega⟩
  · omega
  · rw [s245 0 (by decide)]; rfl
  · unfold LnR
    rw [t0, q 86 0 0 (by decide +kernel), z5]
    exact ⟨rfl, by omega, by omega, fun i i0 i1 => by omega⟩
  · unfold SnR
    rw [t0, q 82 3 0 (by decide +kernel), z6, z2]
    exact ⟨rfl, by omega, by omega, by omega, by omega, fun i i0 i1 => by omega⟩
  · omega
  · obtain ⟨a1, a2⟩ := mk i i0 i1
    rw [a1, a2]
    exact ⟨rfl, Or.inl rfl, fun z => by omega⟩
  · have e1 : m 0 9 = 0 := q 0 9 0 (by decide +kernel)
    have e2 : m 203 58 = 0 := q 203 58 0 (by decide +kernel)
    have e3 : m 0 8 = 0 := q 0 8 0 (by decide +kernel)
    refine ⟨by omega, by omega, by omega, by omega, by omega, fun i i0 i1 => by omega⟩
end In
