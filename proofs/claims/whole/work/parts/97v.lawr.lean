/-! Reading a law: the small steps of both. -/
section Lr
def sb (p : Int) (c : Mm) : Int := if c 1 6 = 4 then (if c 2 (c 1 7).toNat = p then 1 else 0) else 0
theorem sb_01 {p : Int} {c : Mm} : sb p c = 0 ∨ sb p c = 1 := by
  unfold sb
  split
  · split
    · exact Or.inr rfl
    · exact Or.inl rfl
  · exact Or.inl rfl
theorem sb_one {p q : Int} {c : Mm} (h : sb p c = 1) (hq : q ≠ p) : sb q c = 0 := by
  unfold sb at h ⊢
  by_cases z : c 1 6 = 4
  · rw [if_pos z] at h ⊢
    by_cases y : c 2 (c 1 7).toNat = p
    · rw [if_neg (by omega)]
    · rw [if_neg y] at h; omega
  · rw [if_neg z]
theorem sb_kind {p : Int} {c : Mm} (h : sb p c = 1) : c 1 6 = 4 := by
  unfold sb at h
  by_cases z : c 1 6 = 4
  · exact z
  · rw [if_neg z] at h; omega
theorem sign_sb {c d : Mm} {p : Int} (h : TkR c d) : fn_Tape_isSign p c = some (sb p c, c) ∧ fn_Model_isSign p d = some (sb p c, d) := by
  obtain ⟨b, e1, e2, e3⟩ := sign_eq (p := p) h
  have : b = sb p c := by
    have s3 := h.1.2.2.1
    obtain ⟨s, h1, h2, h3, h4, h5, h6⟩ := h
    unfold fn_Tape_isSign at e1
    unfold sb
    by_cases z : c 1 6 = 4
    · rw [if_pos z] at e1 ⊢
      rw [if_pos (by omega : 0 ≤ c 1 7 ∧ c 1 7 < 1000)] at e1
      by_cases y : c 2 (c 1 7).toNat = p
      · rw [if_pos y] at e1 ⊢
        injection e1 with e1; injection e1 with e1 _; exact e1.symm
      · rw [if_neg y] at e1 ⊢
        injection e1 with e1; injection e1 with e1 _; exact e1.symm
    · rw [if_neg z] at e1 ⊢
      injection e1 with e1; injection e1 with e1 _; exact e1.symm
  rw [← this]
  exact ⟨e1, e2⟩
theorem Tk_29 {c d : Mm} {z : Int} (h : TkR c d) : TkR c (mst d 203 29 z) := by
  have e : ∀ i, i < 29 → mst d 203 29 z 203 i = d 203 i := fun i hi => mst_miss (by omega)
  have e2 : mst d 203 29 z 204 = d 204 := mst_ne (by omega)
  unfold TkR Sz at h ⊢
  rw [e 3 (by omega), e 4 (by omega), e 5 (by omega), e 6 (by omega), e 7 (by omega), e 8 (by omega), e2]
  exact h
/-- what law reading may change -/
def PL (th : Nat) (i : Int) (a j : Nat) : Prop := (a = th ∧ j = 2) ∨ (a = th + 1 ∧ i ≤ (j : Int))
def QL (x dp cb : Int) (a j : Nat) : Prop := (a = 203 ∧ j = 29) ∨ (a = 223 ∧ 1000 + x ≤ (j : Int)) ∨ (a = 224 ∧ dp < (j : Int)) ∨ (a = 225 ∧ cb ≤ (j : Int))
theorem put_eq {c : Mm} {th : Nat} {i z : Int} (e : c th 2 = i) (i0 : 0 ≤ i) (i1 : i < 1000) : fn_Law_put th z c = some (0, mst (mst c (th + 1) i.toNat z) th 2 (i + 1)) := by
  unfold fn_Law_put
  rw [e, if_pos i1, if_pos ⟨i0, i1⟩, bn_eq, mst_ne (by omega), e, w32_in (x := i + 1) (by omega) (by omega), bn_eq]
theorem puts_eq {d : Mm} {x z : Int} (e : d 203 29 = 1000 + x) (i0 : 0 ≤ x) (i1 : x < 1000) : fn_Model_puts z d = some (0, mst (mst d 223 (1000 + x).toNat z) 203 29 (1000 + x + 1)) := by
  unfold fn_Model_puts
  rw [e, if_pos (by omega : 0 ≤ 1000 + x ∧ 1000 + x < 2000), bn_eq, mst_ne (by omega), e, w32_in (x := 1000 + x + 1) (by omega) (by omega), bn_eq]
theorem Tk_put {c d : Mm} {x z : Int} (h : TkR c d) : TkR c (mst (mst d 223 (1000 + x).toNat z) 203 29 (1000 + x + 1)) := Tk_29 (Tk_congr h rfl rfl (mst_ne (by omega)) (mst_ne (by omega)))
/-- which fact a word is -/
def fct (w : Int) : Int := if w = -28 then 1 else if w = -29 then 2 else if w = -30 then 3 else 0
theorem fact_eq {c d : Mm} (h : TkR c d) : fn_Model_fact d = some (fct (c 1 2), d) := by
  have q1 := word_iff (k := 26) h (by decide)
  have q2 := word_iff (k := 27) h (by decide)
  have q3 := word_iff (k := 28) h (by decide)
  have w1 : wdM.getD 26 0 = 11103 := rfl
  have w2 : wdM.getD 27 0 = 286880 := rfl
  have w3 : wdM.getD 28 0 = 80155 := rfl
  rw [w1] at q1
  rw [w2] at q2
  rw [w3] at q3
  unfold fn_Model_fact fct
  by_cases y : d 203 6 = 1
  · rw [if_pos y]
    by_cases z1 : c 1 2 = -28
    · rw [if_pos z1, if_pos (lcm_0.mpr (q1.mpr (by omega)).2)]
    · rw [if_neg z1, if_neg (fun t => z1 (by have := q1.mp ⟨y, lcm_0.mp t⟩; omega))]
      by_cases z2 : c 1 2 = -29
      · rw [if_pos z2, if_pos (lcm_0.mpr (q2.mpr (by omega)).2)]
      · rw [if_neg z2, if_neg (fun t => z2 (by have := q2.mp ⟨y, lcm_0.mp t⟩; omega))]
        by_cases z3 : c 1 2 = -30
        · rw [if_pos z3, if_pos (lcm_0.mpr (q3.mpr (by omega)).2)]
        · rw [if_neg z3, if_neg (fun t => z3 (by have := q3.mp ⟨y, lcm_0.mp t⟩; omega))]
  · rw [if_neg y, if_neg (fun t => y (q1.mpr (by omega)).1), if_neg (fun t => y (q2.mpr (by omega)).1), if_neg (fun t => y (q3.mpr (by omega)).1)]
def lef (c : Mm) : Int := if c 1 6 = 3 then c 1 4 else if c 1 2 = -28 then -2 else if c 1 2 = -29 then -3 else if c 1 2 = -30 then -4 else -1
theorem leaf_eq {c : Mm} : fn_Law_leafOf c = some (lef c, c) := by
  unfold fn_Law_leafOf lef fn_Tape_isNumber
  by_cases y : c 1 6 = 3
  · rw [if_pos y, if_pos y, bd_some, if_neg (by decide : ¬ (1 : Int) = 0)]
  · rw [if_neg y, if_neg y, bd_some, if_pos rfl]
    by_cases z1 : c 1 2 = -28
    · rw [if_pos z1, if_pos z1]
    · rw [if_neg z1, if_neg z1]
      by_cases z2 : c 1 2 = -29
      · rw [if_pos z2, if_pos z2]
      · rw [if_neg z2, if_neg z2]
        by_cases z3 : c 1 2 = -30
        · rw [if_pos z3, if_pos z3]
        · rw [if_neg z3, if_neg z3]
/-- unwinding the denials -/
def Unw (d : Mm) (dp b : Int) : Prop := 0 ≤ b ∧ b ≤ dp ∧ (∀ t : Int, b < t → t ≤ dp → d 224 t.toNat = 1) ∧ (b = 0 ∨ d 224 b.toNat ≠ 1)
theorem unw152 {k11 : Int → Int → Mm → Res} {b v2 : Int} {d : Mm} : ∀ (j f : Nat) (v1 : Int), v1 - b = j → j < f → v1 < 7 → Unw d v1 b → lp_Model_reads_152 k11 f v1 v2 d = bo_Model_reads_172 k11 b v2 d := by
  intro j
  induction j with
  | zero =>
    intro f v1 h1 h2 h3 h4
    obtain ⟨f, rfl⟩ : ∃ t, f = t + 1 := ⟨f - 1, by omega⟩
    obtain ⟨u1, u2, u3, u4⟩ := h4
    have e : v1 = b := by omega
    subst e
    show bo_Model_reads_152 k11 _ v1 v2 d = _
    unfold bo_Model_reads_152
    by_cases y : 0 < v1
    · rw [if_pos y, if_pos (by omega : 0 ≤ v1 ∧ v1 < 7), if_neg (by omega)]
    · rw [if_neg y]
  | succ j ih =>
    intro f v1 h1 h2 h3 h4
    obtain ⟨f, rfl⟩ : ∃ t, f = t + 1 := ⟨f - 1, by omega⟩
    obtain ⟨u1, u2, u3, u4⟩ := h4
    show bo_Model_reads_152 k11 _ v1 v2 d = _
    unfold bo_Model_reads_152
    have e : v1 + -1 = v1 - 1 := by omega
    rw [if_pos (by omega : 0 < v1), if_pos (by omega : 0 ≤ v1 ∧ v1 < 7), if_pos (u3 v1 (by omega) (by omega)), w32_in (x := v1 + -1) (by omega) (by omega), e]
    exact ih f (v1 - 1) (by omega) (by omega) (by omega) ⟨u1, by omega, fun t t0 t1 => u3 t t0 (by omega), u4⟩
theorem unw379 {k11 : Int → Int → Mm → Res} {b v2 : Int} {d : Mm} : ∀ (j f : Nat) (v1 : Int), v1 - b = j → j < f → v1 < 7 → Unw d v1 b → lp_Model_reads_379 k11 f v1 v2 d = bo_Model_reads_424 k11 b v2 d := by
  intro j
  induction j with
  | zero =>
    intro f v1 h1 h2 h3 h4
    obtain ⟨f, rfl⟩ : ∃ t, f = t + 1 := ⟨f - 1, by omega⟩
    obtain ⟨u1, u2, u3, u4⟩ := h4
    have e : v1 = b := by omega
    subst e
    show bo_Model_reads_379 k11 _ v1 v2 d = _
    unfold bo_Model_reads_379
    by_cases y : 0 < v1
    · rw [if_pos y, if_pos (by omega : 0 ≤ v1 ∧ v1 < 7), if_neg (by omega)]
    · rw [if_neg y]
  | succ j ih =>
    intro f v1 h1 h2 h3 h4
    obtain ⟨f, rfl⟩ : ∃ t, f = t + 1 := ⟨f - 1, by omega⟩
    obtain ⟨u1, u2, u3, u4⟩ := h4
    show bo_Model_reads_379 k11 _ v1 v2 d = _
    unfold bo_Model_reads_379
    have e : v1 + -1 = v1 - 1 := by omega
    rw [if_pos (by omega : 0 < v1), if_pos (by omega : 0 ≤ v1 ∧ v1 < 7), if_pos (u3 v1 (by omega) (by omega)), w32_in (x := v1 + -1) (by omega) (by omega), e]
    exact ih f (v1 - 1) (by omega) (by omega) (by omega) ⟨u1, by omega, fun t t0 t1 => u3 t t0 (by omega), u4⟩
/-- a step over a token that is there -/
theorem Tk_go {c d : Mm} (h : TkR c d) (hk : ¬ c 1 6 = 1) : ∃ c' d', fn_Tape_step c = some (0, c') ∧ fn_Model_nextToken d = some (0, d') ∧ TkR c' d' ∧ FPc c c' ∧ FPm d d' ∧ c' 1 1 = c 1 1 ∧ c 1 7 < c' 1 7 ∧ c' 1 7 ≤ 1000 := by
  obtain ⟨c', d', w1, w2, w3, w4, w5, w6⟩ := Tk_next h
  have hl : c 1 7 < c 1 8 := by
    obtain ⟨s, h1, h2, h3, h4, h5, h6⟩ := h
    omega
  have l2 : c' 1 7 ≤ 1000 := by
    have := w3.1.2.2.1
    have := w3.2.2.2.2
    omega
  exact ⟨c', d', w1, w2, w3, FPc_of w4 (by omega), FPm_of w5, w4.2.2, by omega, l2⟩
/-- which operator of a level is next -/
def opr (L : Int) (c : Mm) : Int := if L = 0 then (if c 1 2 = -26 then -6 else if c 1 2 = -27 then -7 else -1) else if L = 1 then (if sb 60 c = 0 then (if sb 61 c = 0 then -1 else -9) else -8) else if L = 2 then (if sb 43 c = 0 then (if sb 45 c = 0 then -1 else -11) else -10) else (if sb 42 c = 0 then -1 else -12)
theorem opr_eq {c d : Mm} {L : Int} (h : TkR c d) (l0 : 0 ≤ L) (l3 : L ≤ 3) : fn_Law_operatorOf L c = some (opr L c, c) := by
  have s := fun p => (sign_sb (p := p) h).1
  unfold fn_Law_operatorOf opr
  have hL : L = 0 ∨ L = 1 ∨ L = 2 ∨ L = 3 := by omega
  rcases hL with rfl | rfl | rfl | rfl
  · show (if c 1 2 = -26 then some (-6, c) else if c 1 2 = -27 then some (-7, c) else some (-1, c)) = some (if c 1 2 = -26 then -6 else if c 1 2 = -27 then -7 else -1, c)
    split
    · rfl
    · split <;> rfl
  · show (bd (fn_Tape_isSign 60 c) fun r1 m2 => if r1 = 0 then (bd (fn_Tape_isSign 61 m2) fun r3 m4 => if r3 = 0 then (some ((-1), m4)) else (some ((-9), m4))) else (some ((-8), m2))) = some (if sb 60 c = 0 then (if sb 61 c = 0 then -1 else -9) else -8, c)
    rw [s, bd_some]
    split
    · rw [s, bd_some]
      split <;> rfl
    · rfl
  · show (bd (fn_Tape_isSign 43 c) fun r1 m2 => if r1 = 0 then (bd (fn_Tape_isSign 45 m2) fun r3 m4 => if r3 = 0 then (some ((-1), m4)) else (some ((-11), m4))) else (some ((-10), m2))) = some (if sb 43 c = 0 then (if sb 45 c = 0 then -1 else -11) else -10, c)
    rw [s, bd_some]
    split
    · rw [s, bd_some]
      split <;> rfl
    · rfl
  · show (bd (fn_Tape_isSign 42 c) fun r1 m2 => if r1 = 0 then (some ((-1), m2)) else (some ((-12), m2))) = some (if sb 42 c = 0 then -1 else -12, c)
    rw [s, bd_some]
    split <;> rfl
def mop (co : Int) : Int := if co = -6 then 26 else if co = -7 then 27 else if co = -8 then 24 else if co = -9 then 25 else if co = -10 then 20 else if co = -11 then 21 else 22
end Lr
