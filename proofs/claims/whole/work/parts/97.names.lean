/-! Names and words, as either side packs them. -/
section Nw
theorem pk_app {b x : Int} {l : List Int} : pk b (l ++ [x]) = pk b l * b + x := by
  unfold pk
  rw [List.foldl_append]
  rfl
def dig (l : List Int) : Prop := ∀ a, a ∈ l → 1 ≤ a ∧ a ≤ 26
theorem dig_app {l : List Int} {x : Int} : dig (l ++ [x]) ↔ dig l ∧ 1 ≤ x ∧ x ≤ 26 := by
  unfold dig
  constructor
  · intro h
    exact ⟨fun a ha => h a (List.mem_append_left _ ha), h x (List.mem_append_right _ (List.mem_singleton.mpr rfl))⟩
  · intro h a ha
    rcases List.mem_append.mp ha with z | z
    · exact h.1 a z
    · rw [List.mem_singleton.mp z]; exact h.2
theorem pk_r {b : Int} (hb : b = 27 ∨ b = 32) : ∀ (k : Nat) (l : List Int), l.length ≤ k → dig l → 0 ≤ pk b l ∧ pk b l < b ^ k := by
  intro k
  induction k with
  | zero =>
    intro l h1 h2
    have : l = [] := List.length_eq_zero_iff.mp (by omega)
    subst this
    exact ⟨by unfold pk; exact Int.le_refl 0, by rw [Int.pow_zero]; unfold pk; show (0 : Int) < 1; omega⟩
  | succ k ih =>
    intro l h1 h2
    rcases List.eq_nil_or_concat l with z | ⟨l', x, z⟩
    · subst z
      refine ⟨by unfold pk; exact Int.le_refl 0, ?_⟩
      have : (0 : Int) < b ^ (k + 1) := Int.pow_pos (by omega)
      exact this
    · have z' : l = l' ++ [x] := by rw [z, List.concat_eq_append]
      subst z'
      obtain ⟨d1, d2, d3⟩ := dig_app.mp h2
      have hl : l'.length ≤ k := by
        rw [List.length_append] at h1
        simp at h1
        exact h1
      obtain ⟨i1, i2⟩ := ih l' hl d1
      rw [pk_app, Int.pow_succ]
      generalize b ^ k = B at *
      generalize pk b l' = P at *
      rcases hb with e | e <;> subst e <;> omega
theorem pk_inj {b : Int} (hb : b = 27 ∨ b = 32) : ∀ (k : Nat) (l l' : List Int), l.length ≤ k → dig l → dig l' → pk b l = pk b l' → l = l' := by
  intro k
  induction k with
  | zero =>
    intro l l' h1 h2 h3 h4
    have : l = [] := List.length_eq_zero_iff.mp (by omega)
    subst this
    rcases List.eq_nil_or_concat l' with z | ⟨m', y, z⟩
    · exact z.symm
    · have z' : l' = m' ++ [y] := by rw [z, List.concat_eq_append]
      subst z'
      obtain ⟨d1, d2, d3⟩ := dig_app.mp h3
      have i1 := (pk_r hb m'.length m' (Nat.le_refl _) d1).1
      rw [pk_app] at h4
      have e0 : pk b [] = 0 := rfl
      rw [e0] at h4
      generalize pk b m' = P at *
      rcases hb with e | e <;> subst e <;> omega
  | succ k ih =>
    intro l l' h1 h2 h3 h4
    rcases List.eq_nil_or_concat l with z | ⟨m, x, z⟩
    · exact (ih [] l' (by simp) (fun a ha => by cases ha) h3 (by rw [← z]; exact h4)) ▸ z
    · have z' : l = m ++ [x] := by rw [z, List.concat_eq_append]
      subst z'
      obtain ⟨d1, d2, d3⟩ := dig_app.mp h2
      have hl : m.length ≤ k := by
        rw [List.length_append] at h1
        simp at h1
        exact h1
      rcases List.eq_nil_or_concat l' with w | ⟨m', y, w⟩
      · subst w
        have i1 := (pk_r hb m.length m (Nat.le_refl _) d1).1
        rw [pk_app] at h4
        have e0 : pk b [] = 0 := rfl
        rw [e0] at h4
        generalize pk b m = P at *
        exfalso
        rcases hb with e | e <;> subst e <;> omega
      · have w' : l' = m' ++ [y] := by rw [w, List.concat_eq_append]
        subst w'
        obtain ⟨f1, f2, f3⟩ := dig_app.mp h3
        rw [pk_app, pk_app] at h4
        have g : x = y ∧ pk b m = pk b m' := by
          generalize pk b m = P at *
          generalize pk b m' = P' at *
          rcases hb with e | e <;> subst e <;> omega
        rw [g.1, ih m m' hl d1 f1 g.2]
theorem Nm_iff {x y x' y' : Int} (h : NmR x y) (h' : NmR x' y') : x = x' ↔ y = y' := by
  obtain ⟨l, l1, l2, rfl, rfl⟩ := h
  obtain ⟨l', l1', l2', rfl, rfl⟩ := h'
  constructor
  · intro e
    rw [pk_inj (Or.inr rfl) l.length l l' (Nat.le_refl _) l2 l2' e]
  · intro e
    rw [pk_inj (Or.inl rfl) l.length l l' (Nat.le_refl _) l2 l2' e]
theorem BB_n {x : Int} (h0 : 0 ≤ x) (h1 : x < 9223372036854775808) : (BB x).toNat = x.toNat := by
  show (BitVec.ofInt 64 x).toNat = _
  rw [BitVec.toNat_ofInt]
  omega
theorem lsh5 {x y : Int} (x0 : 0 ≤ x) (x1 : x < 1099511627776) (y0 : 0 ≤ y) (y1 : y < 32) : lor (lshl x 5) y = 32 * x + y := by
  refine BB_inj (okL_lor _ _) ⟨by omega, by omega⟩ ?_
  rw [BB_or]
  have e : BB (lshl x 5) = BB x <<< 5 := by
    unfold BB
    have e1 : Int64.ofInt (lshl x 5) = Int64.ofInt x <<< ((Int32.ofInt 5).toInt64 &&& 63) := Int64.ofInt_toInt _
    rw [e1, Int64.toBitVec_shiftLeft]
    have e2 : (((Int32.ofInt 5).toInt64 &&& 63).toBitVec.smod 64).toNat = 5 := by decide +kernel
    show (Int64.ofInt x).toBitVec <<< (((Int32.ofInt 5).toInt64 &&& 63).toBitVec.smod 64).toNat = _
    rw [e2]
  rw [e]
  apply BitVec.eq_of_toNat_eq
  rw [BitVec.toNat_or, BitVec.toNat_shiftLeft, BB_n x0 (by omega), BB_n y0 (by omega), BB_n (by omega) (by omega)]
  have e3 : x.toNat <<< 5 % 2 ^ 64 = x.toNat <<< 5 := by
    rw [Nat.shiftLeft_eq]
    omega
  rw [e3, ← Nat.shiftLeft_add_eq_or_of_lt (by omega : y.toNat < 2 ^ 5), Nat.shiftLeft_eq]
  omega
/-- one letter more -/
theorem letter {l : List Int} {ch : Int} (hl : l.length ≤ 7) (hd : dig l) (c0 : 97 ≤ ch) (c1 : ch ≤ 122) : lor (lshl (pk 32 l) 5) (w32 (w32 (ch - 97) + 1)) = pk 32 (l ++ [ch - 96]) ∧ w64 (w64 (w64 (pk 27 l * 27) + ch) - 96) = pk 27 (l ++ [ch - 96]) ∧ dig (l ++ [ch - 96]) := by
  obtain ⟨a1, a2⟩ := pk_r (Or.inr rfl) 7 l hl hd
  obtain ⟨b1, b2⟩ := pk_r (Or.inl rfl) 7 l hl hd
  have e1 : (32 : Int) ^ 7 = 34359738368 := by decide
  have e2 : (27 : Int) ^ 7 = 10460353203 := by decide
  rw [e1] at a2
  rw [e2] at b2
  rw [pk_app, pk_app]
  refine ⟨?_, ?_, dig_app.mpr ⟨hd, by omega, by omega⟩⟩
  · rw [w32_in (x := ch - 97) (by omega) (by omega), w32_in (x := ch - 97 + 1) (by omega) (by omega), lsh5 a1 (by omega) (by omega) (by omega)]
    omega
  · rw [w64_in (x := pk 27 l * 27) (by omega) (by omega), w64_in (x := pk 27 l * 27 + ch) (by omega) (by omega), w64_in (by omega) (by omega)]
    omega
/-- the language's words -/
def wds : List (List Int) := [[16,12,1,3,5],[16,1,20,8],[23,1,12,11,5,18],[19,20,1,18,20],[16,1,3,5],[8,1,12,20],[18,15,21,14,4],[23,1,9,20,19],[1,20],[6,15,18],[8,15,21,18],[2,25],[9,19],[13,9,19,19,5,4],[12,1,20,5],[4,9,5,19],[4,5,16,21,20,25],[19,14,15,23],[4,1,25],[16,12,1,9,14],[19,12,15,23],[9,4,12,5],[2,18,9,19,11],[14,15,20],[1,14,4],[15,18],[15,6,6],[14,15,14,5],[4,1,25,19]]
def wdM : List Int := [8740067, 316205, 330800670, 10492274, 315743, 158537, 9876874, 12249946, 47, 4797, 168984, 79, 262, 191706727, 237470, 85447, 60383635, 384611, 2968, 8740238, 383153, 180392, 1424261, 10631, 1111, 423, 11103, 286880, 80155]
theorem wds_ok : ∀ k : Nat, k < 29 → wdL.getD k 0 = pk 32 (wds.getD k []) ∧ wdM.getD k 0 = pk 27 (wds.getD k []) ∧ (wds.getD k []).length ≤ 8 ∧ ((wds.getD k []).all fun a => decide (1 ≤ a) && decide (a ≤ 26)) = true := by decide +kernel
theorem wd_Nm {k : Nat} (hk : k < 29) : NmR (wdL.getD k 0) (wdM.getD k 0) := by
  obtain ⟨h1, h2, h3, h4⟩ := wds_ok k hk
  refine ⟨wds.getD k [], h3, fun a ha => ?_, h1, h2⟩
  have := List.all_eq_true.mp h4 a ha
  simp at this
  exact this
/-- which word it is -/
def wdk (x : Int) : Int := fld (fun v a => if wdL.getD v.toNat 0 = x then -v - 2 else a) 29 0 (-1)
theorem wdk_all : ∀ k : Nat, k < 29 → wdk (wdL.getD k 0) = -(k : Int) - 2 := by decide +kernel
theorem wdk_iff {x : Int} {k : Nat} (hk : k < 29) : wdk x = -(k : Int) - 2 ↔ x = wdL.getD k 0 := by
  constructor
  · intro h
    have := fld_inv (f := fun v a => if wdL.getD v.toNat 0 = x then -v - 2 else a) (fun _ a => a = -1 ∨ (a ≤ -2 ∧ x = wdL.getD (-a - 2).toNat 0)) (j := 29) (v := 0) (a := -1) (Or.inl rfl) (fun t b t0 t1 hI => by
      show (if wdL.getD t.toNat 0 = x then -t - 2 else b) = -1 ∨ ((if wdL.getD t.toNat 0 = x then -t - 2 else b) ≤ -2 ∧ x = wdL.getD (-(if wdL.getD t.toNat 0 = x then -t - 2 else b) - 2).toNat 0)
      by_cases y : wdL.getD t.toNat 0 = x
      · rw [if_pos y]
        right
        have e : -(-t - 2) - 2 = t := by omega
        rw [e]
        exact ⟨by omega, y.symm⟩
      · rw [if_neg y]
        exact hI)
    change wdk x = -1 ∨ (wdk x ≤ -2 ∧ x = wdL.getD (-(wdk x) - 2).toNat 0) at this
    rw [h] at this
    rcases this with z | z
    · omega
    · have e : (-(-(k : Int) - 2) - 2).toNat = k := by omega
      rw [e] at z
      exact z.2
  · intro h
    rw [h]
    exact wdk_all k hk
end Nw
