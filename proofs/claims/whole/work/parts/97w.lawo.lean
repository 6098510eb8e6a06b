/-! Reading a law: operators, and where a level ends. -/
section Lo
theorem word_sb {c d : Mm} {p : Int} (h : TkR c d) (hw : c 1 2 ≠ -1) : sb p c = 0 := by
  unfold sb
  obtain ⟨s, h1, h2, h3, h4, h5, h6⟩ := h
  rw [if_neg (by omega)]
theorem dsp {c d : Mm} {k11 : Int → Int → Mm → Res} {v1 : Int} (h : TkR c d) : bo_Model_reads_11 k11 v1 0 d = if sb 43 c = 0 then (if sb 45 c = 0 then (if sb 42 c = 0 then (if sb 60 c = 0 then (if sb 61 c = 0 then bo_Model_reads_304 k11 v1 0 d else bo_Model_reads_263 k11 v1 0 d) else bo_Model_reads_263 k11 v1 0 d) else bo_Model_reads_206 k11 v1 d) else bo_Model_reads_206 k11 v1 d) else bo_Model_reads_206 k11 v1 d := by
  have s := fun p => (sign_sb (p := p) h).2
  unfold bo_Model_reads_11
  rw [if_pos rfl, s, bd_some]
  split
  · rw [s, bd_some]
    split
    · rw [s, bd_some]
      split
      · rw [s, bd_some]
        split
        · rw [s, bd_some]
        · rfl
      · rfl
    · rfl
  · rfl
theorem dsp206 {c d : Mm} {k11 : Int → Int → Mm → Res} {v1 : Int} (h : TkR c d) : bo_Model_reads_206 k11 v1 d = bo_Model_reads_237 k11 v1 (if sb 43 c = 0 then (if sb 45 c = 0 then 22 else 21) else 20) d := by
  have s := fun p => (sign_sb (p := p) h).2
  unfold bo_Model_reads_206
  rw [s, bd_some]
  by_cases y : sb 43 c = 0
  · rw [if_pos y, if_pos y, s, bd_some]
    by_cases z : sb 45 c = 0
    · rw [if_pos z, if_pos z]
    · rw [if_neg z, if_neg z]
  · rw [if_neg y, if_neg y]
theorem dsp304 {c d : Mm} {k11 : Int → Int → Mm → Res} {v1 : Int} (h : TkR c d) : bo_Model_reads_304 k11 v1 0 d = if c 1 2 = -26 then bo_Model_reads_342 k11 v1 26 d else if c 1 2 = -27 then bo_Model_reads_342 k11 v1 27 d else if sb 41 c = 0 then bo_Model_reads_399 v1 d else (if 0 < v1 then (bd (fn_Model_puts 29 d) fun r7 m8 => lp_Model_reads_379 k11 FU (w32 (v1 + (-1))) 0 m8) else (bo_Model_reads_399 v1 d)) := by
  unfold bo_Model_reads_304 bo_Model_reads_324
  have e1 := m_isW (k := 24) (x := 1111) (w := -26) h (by decide) rfl (by decide)
  have e2 := m_isW (k := 25) (x := 423) (w := -27) h (by decide) rfl (by decide)
  rw [e1, bd_some]
  by_cases y : c 1 2 = -26
  · rw [if_pos y, if_pos y, if_neg (by decide : ¬ (1 : Int) = 0), e1, bd_some, if_pos y, if_neg (by decide : ¬ (1 : Int) = 0)]
  · rw [if_neg y, if_neg y, if_pos rfl, e2, bd_some]
    by_cases z : c 1 2 = -27
    · rw [if_pos z, if_pos z, if_neg (by decide : ¬ (1 : Int) = 0), e1, bd_some, if_neg y, if_pos rfl]
    · rw [if_neg z, if_neg z, if_pos rfl, (sign_sb h).2, bd_some]
/-- the code is put, then the next token -/
theorem op_go {c d d1 : Mm} {k11 : Int → Int → Mm → Res} {v1 w : Int} (h : TkR c d1) (hk : ¬ c 1 6 = 1) : ∃ c' d', fn_Tape_step c = some (0, c') ∧ bo_Model_reads_424 k11 v1 w d1 = k11 v1 w d' ∧ TkR c' d' ∧ FPc c c' ∧ FPm d1 d' ∧ c' 1 1 = c 1 1 ∧ c 1 7 < c' 1 7 ∧ c' 1 7 ≤ 1000 := by
  obtain ⟨c', d', w1, w2, w3⟩ := Tk_go h hk
  unfold bo_Model_reads_424
  rw [w2, bd_some]
  exact ⟨c', d', w1, rfl, w3⟩
theorem op_step {c d : Mm} {L dp x : Int} {k : Nat} (h : TkR c d) (l0 : 0 ≤ L) (l3 : L ≤ 3) (hop : opr L c ≠ -1) (d0 : 0 ≤ dp) (d1 : dp < 7) (hcmp : L = 1 → d 225 dp.toNat = 0) (e29 : d 203 29 = 1000 + x) (x0 : 0 ≤ x) (x1 : x ≤ c 1 7) : ∃ c' d', fn_Tape_step c = some (0, c') ∧ lp_Model_reads_11 (k + 1) dp 0 d = lp_Model_reads_11 k dp 1 d' ∧ TkR c' d' ∧ FPc c c' ∧ c' 1 1 = c 1 1 ∧ c 1 7 < c' 1 7 ∧ c' 1 7 ≤ 1000 ∧ FXm (QL x dp (if L ≤ 1 then dp else dp + 1)) d d' ∧ d' 203 29 = 1000 + (x + 1) ∧ d' 223 (1000 + x).toNat = mop (opr L c) ∧ d' 225 dp.toNat = (if L = 0 then 0 else if L = 1 then 1 else d 225 dp.toNat) := by
  have hk : ¬ c 1 6 = 1 := by
    intro z
    have hs : ∀ p, sb p c = 0 := fun p => by unfold sb; rw [if_neg (by omega)]
    have hw : c 1 2 = -1 := by
      obtain ⟨s, h1, h2, h3, h4, h5, h6⟩ := h
      omega
    unfold opr at hop
    rw [hs, hs, hs, hs, hs, hw] at hop
    revert hop
    split
    · simp
    · split
      · simp
      · split <;> simp
  have g7 : 0 ≤ dp ∧ dp < 7 := ⟨d0, d1⟩
  have hx : x < 1000 := by
    obtain ⟨c', d', -, -, -, -, -, -, q1, q2⟩ := Tk_go h hk
    omega
  -- the end that all share
  have fin : ∀ (z : Int) (w : Option Int) (om : Res), om = bo_Model_reads_424 (lp_Model_reads_11 k) dp 1 (match w with | none => mst (mst d 223 (1000 + x).toNat z) 203 29 (1000 + x + 1) | some u => mst (mst (mst d 223 (1000 + x).toNat z) 203 29 (1000 + x + 1)) 225 dp.toNat u) →
      ∃ c' d', fn_Tape_step c = some (0, c') ∧ om = lp_Model_reads_11 k dp 1 d' ∧ TkR c' d' ∧ FPc c c' ∧ c' 1 1 = c 1 1 ∧ c 1 7 < c' 1 7 ∧ c' 1 7 ≤ 1000 ∧ FXm (QL x dp (match w with | none => dp + 1 | some _ => dp)) d d' ∧ d' 203 29 = 1000 + (x + 1) ∧ d' 223 (1000 + x).toNat = z ∧ d' 225 dp.toNat = (match w with | none => d 225 dp.toNat | some u => u) := by
    intro z w om e
    have eo : (1000 + x + 1 : Int) = 1000 + (x + 1) := by omega
    cases w with
    | none =>
      obtain ⟨c', d', w1, w2, w3, w4, w5, w6⟩ := op_go (k11 := lp_Model_reads_11 k) (v1 := dp) (w := 1) (d := d) (Tk_put (x := x) (z := z) h) hk
      refine ⟨c', d', w1, e.trans w2, w3, w4, w6.1, w6.2.1, w6.2.2, ?_, ?_, ?_, ?_⟩
      · exact FXm_trans (FXm_trans (FXm_m (Or.inr (Or.inl ⟨rfl, by omega⟩))) (FXm_m (Or.inl ⟨rfl, rfl⟩))) (FXm_p w5)
      · rw [w5.2 29 (by omega), mst_hit]; exact eo
      · rw [w5.1 _ (by omega), mst_ne (by omega), mst_hit]
      · rw [w5.1 _ (by omega), mst_ne (by omega), mst_ne (by omega)]
    | some u =>
      have hT : TkR c (mst (mst (mst d 223 (1000 + x).toNat z) 203 29 (1000 + x + 1)) 225 dp.toNat u) := Tk_congr (Tk_put (x := x) (z := z) h) rfl rfl (mst_ne (by omega)) (mst_ne (by omega))
      obtain ⟨c', d', w1, w2, w3, w4, w5, w6⟩ := op_go (k11 := lp_Model_reads_11 k) (v1 := dp) (w := 1) (d := d) hT hk
      refine ⟨c', d', w1, e.trans w2, w3, w4, w6.1, w6.2.1, w6.2.2, ?_, ?_, ?_, ?_⟩
      · show FXm (QL x dp dp) d d'
        exact FXm_trans (FXm_trans (FXm_trans (FXm_m (Or.inr (Or.inl ⟨rfl, by omega⟩))) (FXm_m (Or.inl ⟨rfl, rfl⟩))) (FXm_m (Or.inr (Or.inr (Or.inr ⟨rfl, by omega⟩))))) (FXm_p w5)
      · rw [w5.2 29 (by omega), mst_ne (by omega), mst_hit]; exact eo
      · rw [w5.1 _ (by omega), mst_ne (by omega), mst_ne (by omega), mst_hit]
      · rw [w5.1 _ (by omega), mst_hit]
  have eC : lp_Model_reads_11 (k + 1) dp 0 d = bo_Model_reads_11 (lp_Model_reads_11 k) dp 0 d := rfl
  rw [eC, dsp h]
  have P := fun z => puts_eq (z := z) e29 x0 hx
  have e237 : ∀ z, bo_Model_reads_237 (lp_Model_reads_11 k) dp z d = bo_Model_reads_424 (lp_Model_reads_11 k) dp 1 (mst (mst d 223 (1000 + x).toNat z) 203 29 (1000 + x + 1)) := fun z => by
    unfold bo_Model_reads_237
    rw [P, bd_some]
  have e289 : ∀ z, bo_Model_reads_289 (lp_Model_reads_11 k) dp z d = bo_Model_reads_424 (lp_Model_reads_11 k) dp 1 (mst (mst (mst d 223 (1000 + x).toNat z) 203 29 (1000 + x + 1)) 225 dp.toNat 1) := fun z => by
    unfold bo_Model_reads_289
    rw [P, bd_some, if_pos g7, bn_eq]
  have e342 : ∀ z, bo_Model_reads_342 (lp_Model_reads_11 k) dp z d = bo_Model_reads_424 (lp_Model_reads_11 k) dp 1 (mst (mst (mst d 223 (1000 + x).toNat z) 203 29 (1000 + x + 1)) 225 dp.toNat 0) := fun z => by
    unfold bo_Model_reads_342
    rw [P, bd_some, if_pos g7, bn_eq]
  have hL : L = 0 ∨ L = 1 ∨ L = 2 ∨ L = 3 := by omega
  rcases hL with rfl | rfl | rfl | rfl
  · -- and, or
    have hw : c 1 2 = -26 ∨ c 1 2 = -27 := by
      unfold opr at hop
      rw [if_pos rfl] at hop
      by_cases y : c 1 2 = -26
      · exact Or.inl y
      · rw [if_neg y] at hop
        by_cases z : c 1 2 = -27
        · exact Or.inr z
        · rw [if_neg z] at hop; exact absurd rfl hop
    have s := fun p => word_sb (p := p) h (by omega)
    rw [if_pos (s _), if_pos (s _), if_pos (s _), if_pos (s _), if_pos (s _), dsp304 h]
    rcases hw with y | y
    · have eo : opr 0 c = -6 := by unfold opr; rw [if_pos rfl, if_pos y]
      rw [if_pos y, eo]
      exact fin 26 (some 0) _ (e342 26)
    · have eo : opr 0 c = -7 := by unfold opr; rw [if_pos rfl, if_neg (by omega), if_pos y]
      rw [if_neg (by omega), if_pos y, eo]
      exact fin 27 (some 0) _ (e342 27)
  · have hw : sb 60 c = 1 ∨ (sb 60 c = 0 ∧ sb 61 c = 1) := by
      unfold opr at hop
      rw [if_neg (by decide), if_pos rfl] at hop
      by_cases y : sb 60 c = 0
      · rw [if_pos y] at hop
        by_cases z : sb 61 c = 0
        · rw [if_pos z] at hop; exact absurd rfl hop
        · exact Or.inr ⟨y, sb_01.resolve_left z⟩
      · exact Or.inl (sb_01.resolve_left y)
    have e263 : bo_Model_reads_263 (lp_Model_reads_11 k) dp 0 d = bo_Model_reads_289 (lp_Model_reads_11 k) dp (if sb 60 c = 0 then 25 else 24) d := by
      unfold bo_Model_reads_263
      rw [if_pos g7, if_pos (hcmp rfl), (sign_sb h).2, bd_some]
      by_cases y : sb 60 c = 0
      · rw [if_pos y, if_pos y]
      · rw [if_neg y, if_neg y]
    rcases hw with y | ⟨y0, y⟩
    · have eo : opr 1 c = -8 := by unfold opr; rw [if_neg (by decide), if_pos rfl, if_neg (by omega)]
      rw [if_pos (sb_one y (by decide)), if_pos (sb_one y (by decide)), if_pos (sb_one y (by decide)), if_neg (by omega), eo, e263, if_neg (by omega)]
      exact fin 24 (some 1) _ (e289 24)
    · have eo : opr 1 c = -9 := by unfold opr; rw [if_neg (by decide), if_pos rfl, if_pos y0, if_neg (by omega)]
      rw [if_pos (sb_one y (by decide)), if_pos (sb_one y (by decide)), if_pos (sb_one y (by decide)), if_pos y0, if_neg (by omega), eo, e263, if_pos y0]
      exact fin 25 (some 1) _ (e289 25)
  · have hw : sb 43 c = 1 ∨ (sb 43 c = 0 ∧ sb 45 c = 1) := by
      unfold opr at hop
      rw [if_neg (by decide), if_neg (by decide), if_pos rfl] at hop
      by_cases y : sb 43 c = 0
      · rw [if_pos y] at hop
        by_cases z : sb 45 c = 0
        · rw [if_pos z] at hop; exact absurd rfl hop
        · exact Or.inr ⟨y, sb_01.resolve_left z⟩
      · exact Or.inl (sb_01.resolve_left y)
    rcases hw with y | ⟨y0, y⟩
    · have eo : opr 2 c = -10 := by unfold opr; rw [if_neg (by decide), if_neg (by decide), if_pos rfl, if_neg (by omega)]
      rw [if_neg (by omega), dsp206 h, if_neg (by omega), eo]
      exact fin 20 none _ (e237 20)
    · have eo : opr 2 c = -11 := by unfold opr; rw [if_neg (by decide), if_neg (by decide), if_pos rfl, if_pos y0, if_neg (by omega)]
      rw [if_pos y0, if_neg (by omega), dsp206 h, if_pos y0, if_neg (by omega), eo]
      exact fin 21 none _ (e237 21)
  · have y : sb 42 c = 1 := by
      unfold opr at hop
      rw [if_neg (by decide), if_neg (by decide), if_neg (by decide)] at hop
      by_cases y : sb 42 c = 0
      · rw [if_pos y] at hop; exact absurd rfl hop
      · exact sb_01.resolve_left y
    have eo : opr 3 c = -12 := by unfold opr; rw [if_neg (by decide), if_neg (by decide), if_neg (by decide), if_neg (by omega)]
    rw [if_pos (sb_one y (by decide)), if_pos (sb_one y (by decide)), if_neg (by omega), dsp206 h, if_pos (sb_one y (by decide)), if_pos (sb_one y (by decide)), eo]
    exact fin 22 none _ (e237 22)
/-- behind a whole level -/
def NoOp (c d : Mm) (dp : Int) : Prop := opr 3 c = -1 ∧ opr 2 c = -1 ∧ (opr 1 c = -1 ∨ d 225 dp.toNat = 1) ∧ opr 0 c = -1
theorem to304 {c d : Mm} {dp : Int} {k : Nat} (h : TkR c d) (d0 : 0 ≤ dp) (d1 : dp < 7) (hn : NoOp c d dp) : lp_Model_reads_11 (k + 1) dp 0 d = if sb 41 c = 0 then bo_Model_reads_399 dp d else (if 0 < dp then (bd (fn_Model_puts 29 d) fun r7 m8 => lp_Model_reads_379 (lp_Model_reads_11 k) FU (w32 (dp + (-1))) 0 m8) else (bo_Model_reads_399 dp d)) := by
  obtain ⟨n3, n2, n1, n0⟩ := hn
  have y42 : sb 42 c = 0 := by
    unfold opr at n3
    rw [if_neg (by decide), if_neg (by decide), if_neg (by decide)] at n3
    by_cases y : sb 42 c = 0
    · exact y
    · rw [if_neg y] at n3; exact absurd n3 (by decide)
  have y43 : sb 43 c = 0 ∧ sb 45 c = 0 := by
    unfold opr at n2
    rw [if_neg (by decide), if_neg (by decide), if_pos rfl] at n2
    by_cases y : sb 43 c = 0
    · rw [if_pos y] at n2
      by_cases z : sb 45 c = 0
      · exact ⟨y, z⟩
      · rw [if_neg z] at n2; exact absurd n2 (by decide)
    · rw [if_neg y] at n2; exact absurd n2 (by decide)
  have yw : ¬ c 1 2 = -26 ∧ ¬ c 1 2 = -27 := by
    unfold opr at n0
    rw [if_pos rfl] at n0
    by_cases y : c 1 2 = -26
    · rw [if_pos y] at n0; exact absurd n0 (by decide)
    · rw [if_neg y] at n0
      by_cases z : c 1 2 = -27
      · rw [if_pos z] at n0; exact absurd n0 (by decide)
      · exact ⟨y, z⟩
  have e263 : (sb 60 c = 0 ∧ sb 61 c = 0) ∨ bo_Model_reads_263 (lp_Model_reads_11 k) dp 0 d = bo_Model_reads_304 (lp_Model_reads_11 k) dp 0 d := by
    rcases n1 with n1 | n1
    · left
      unfold opr at n1
      rw [if_neg (by decide), if_pos rfl] at n1
      by_cases y : sb 60 c = 0
      · rw [if_pos y] at n1
        by_cases z : sb 61 c = 0
        · exact ⟨y, z⟩
        · rw [if_neg z] at n1; exact absurd n1 (by decide)
      · rw [if_neg y] at n1; exact absurd n1 (by decide)
    · right
      unfold bo_Model_reads_263
      rw [if_pos (by omega : 0 ≤ dp ∧ dp < 7), if_neg (by omega)]
  have e304 : lp_Model_reads_11 (k + 1) dp 0 d = bo_Model_reads_304 (lp_Model_reads_11 k) dp 0 d := by
    show bo_Model_reads_11 _ dp 0 d = _
    rw [dsp h, if_pos y43.1, if_pos y43.2, if_pos y42]
    rcases e263 with ⟨z1, z2⟩ | z
    · rw [if_pos z1, if_pos z2]
    · rw [z]
      split
      · split <;> rfl
      · rfl
  rw [e304, dsp304 h, if_neg yw.1, if_neg yw.2]
end Lo
