/-! Draws; both states when something is only tried out. -/
section Dr
variable {f : Int → Int → Int → Int} {m : Mm}
theorem ldv_pos {x y : Int} (h0 : 0 ≤ x) (h1 : x ≤ 9223372036854775807) (h2 : 0 < y) (h3 : y ≤ 9223372036854775807) : Int64.ofInt x / Int64.ofInt y = Int64.ofInt (x / y) := by
  have e1 : (Int64.ofInt x).toInt = x := toL ⟨by omega, h1⟩
  have e2 : (Int64.ofInt y).toInt = y := toL ⟨by omega, h3⟩
  have hq0 : 0 ≤ x / y := Int.ediv_nonneg h0 (by omega)
  have hq1 : x / y ≤ x := Int.ediv_le_self y h0
  have e3 : (Int64.ofInt (x / y)).toInt = x / y := toL ⟨by omega, by omega⟩
  rw [← Int64.toInt_inj, e3, Int64.toInt_div, e1, e2, Int.tdiv_eq_ediv_of_nonneg h0]
  exact Int.bmod_eq_of_le (by omega) (by omega)
theorem ldv_e {x y : Int} (h0 : 0 ≤ x) (h1 : x ≤ 9223372036854775807) (h2 : 0 < y) (h3 : y ≤ 9223372036854775807) : ldv x y = x / y := by
  have hq0 : 0 ≤ x / y := Int.ediv_nonneg h0 (by omega)
  have hq1 : x / y ≤ x := Int.ediv_le_self y h0
  unfold ldv
  rw [ldv_pos h0 h1 h2 h3]
  exact toL ⟨by omega, by omega⟩
theorem lrm_e {x y : Int} (h0 : 0 ≤ x) (h1 : x ≤ 9223372036854775807) (h2 : 0 < y) (h3 : y ≤ 9223372036854775807) : lrm x y = x % y := by
  have hm0 := Int.emod_nonneg x (by omega : y ≠ 0)
  have hm1 := Int.emod_lt_of_pos x h2
  have hd := Int.emod_def x y
  have e : x - x / y * y = x % y := by
    have : x / y * y = y * (x / y) := Int.mul_comm _ _
    omega
  unfold lrm
  rw [ldv_pos h0 h1 h2 h3, ← Int64.ofInt_mul, ← Int64.ofInt_sub, e]
  exact toL ⟨by omega, by omega⟩
def dnx (g : Int) : Int := lrm (w64 ((w64 (g * 1103515245)) + 12345)) 2147483648
def dvl (g p : Int) : Int := w32 (lrm (ldv g 65536) p)
theorem dnx_r {g : Int} (h0 : 0 ≤ g) (h1 : g < 2147483648) : 0 ≤ dnx g ∧ dnx g < 2147483648 := by
  unfold dnx
  rw [w64_in (x := g * 1103515245) (by omega) (by omega), w64_in (by omega) (by omega), lrm_e (by omega) (by omega) (by omega) (by omega)]
  omega
theorem dvl_r {g p : Int} (h0 : 0 ≤ g) (h1 : g < 2147483648) (p0 : 0 < p) (p1 : p ≤ 1000) : 0 ≤ dvl g p ∧ dvl g p < p := by
  unfold dvl
  have hm0 := Int.emod_nonneg (g / 65536) (by omega : p ≠ 0)
  have hm1 := Int.emod_lt_of_pos (g / 65536) p0
  rw [ldv_e h0 (by omega) (by omega) (by omega), lrm_e (by omega) (by omega) p0 (by omega), w32_in (by omega) (by omega)]
  omega
theorem c_draw {c : Mm} {p g : Int} (h : c 0 18 = g) (p0 : 0 < p) : fn_Clock_draw p c = some (dvl (dnx g) p, mst c 0 18 (dnx g)) := by
  unfold fn_Clock_draw
  rw [bn_eq, if_pos p0, if_neg (by omega), mst_hit, h]
  rfl
theorem m_draws {d : Mm} {p g : Int} (h : d 203 71 = g) (p0 : 0 < p) : fn_Model_draws p d = some (dvl (dnx g) p, mst d 203 71 (dnx g)) := by
  unfold fn_Model_draws
  rw [bn_eq, if_neg (by omega), mst_hit, h]
  rfl
/-- both try out the same state -/
def YR (m d : Mm) (S : Nat → Int) (kC kM : Mm) : Prop := FQ m kC ∧ EqM m kC ∧ StR kC 95 m S ∧ (∀ a, 204 ≤ a → (a < 226 ∨ 236 ≤ a) → a ≠ 245 → a ≠ 246 → a < 251 → kM a = m a) ∧ kM 203 1 = d 203 1 ∧ kM 203 58 = d 203 58 ∧ EqC d kM ∧ kM 245 = S ∧ (∀ j : Nat, j < 16 → kM 246 j = m 245 j) ∧ ∀ j : Nat, 16 ≤ j → S j = m 245 j
theorem YR_FM2 {d kC kM : Mm} {S : Nat → Int} (h : YR m d S kC kM) : FM2 m kM := fun a a0 a1 => h.2.2.2.1 a (by omega) (by omega) (by omega) (by omega) (by omega)
/-- at the end the reference takes its state back -/
theorem YR_back {d kC kM : Mm} {S : Nat → Int} (hE : EqM m d) (h : YR m d S kC kM) : ∃ r kM', fn_Model_copies 16 246 0 16 245 0 kM = some (r, kM') ∧ FQM d kM' ∧ EqC d kM' := by
  obtain ⟨h1, h2, h3, h4, h5, h6, h7, h8, h9, h10⟩ := h
  obtain ⟨r, d4, w1, w2, w3⟩ := copies_ok (na := 16) (nb := 16) (a := 246) (b := 245) (p := 0) (q := 0) (m := kM) (by omega) (by omega) (by omega) (by omega) (by omega) (by omega) (by omega)
  have e45 : d4 245 = m 245 := by
    funext q
    rw [w3 q]
    by_cases gq : (0 : Int) ≤ (q : Int) ∧ (q : Int) < 0 + 16
    · rw [if_pos gq]
      have eq : (0 + ((q : Int) - 0)).toNat = q := by omega
      rw [eq, h9 q (by omega)]
    · rw [if_neg gq, h8, h10 q (by omega)]
  refine ⟨r, d4, w1, ⟨fun a a0 a1 a2 a3 => ?_, ?_, ?_⟩, fun a ha => by rw [w2 a (by omega)]; exact h7 a ha⟩
  · by_cases ga : a = 245
    · subst ga; rw [e45, hE 245 (by omega)]
    · rw [w2 a ga, h4 a a0 a1 ga a2 a3, hE a (by omega)]
  · rw [w2 203 (by omega)]; exact h5
  · rw [w2 203 (by omega)]; exact h6
/-- a day passes in both -/
theorem YR_day {d kC kM : Mm} {S : Nat → Int} (hR : RR f m m) (h : YR m d S kC kM) : ∃ (r1 r3 : Int) (k1 k2 k3 kM' : Mm), fn_Walk_go (m 0 2).toNat 95 kC = some (r1, k1) ∧ fn_Walk_missing k1 = some (miS m S, k1) ∧ fn_Walk_costs k1 = some (csS f m S, k2) ∧ fn_Walk_missing k2 = some (miS m S, k2) ∧ fn_Walk_meetings k2 = some (mtC m S, k2) ∧ fn_State_pass 95 (csS f m S) k2 = some (r3, k3) ∧ fn_Model_passes kM = some (csS f m S, kM') ∧ kM' 203 64 = miS m S ∧ fn_Model_meetings kM' = some (mtC m S, kM') ∧ YR m d (psS S (csS f m S)) k3 kM' ∧ (∀ j, k3 0 j = kC 0 j) ∧ ∀ j, j ≠ 64 → kM' 203 j = kM 203 j := by
  have hf2 := YR_FM2 h
  obtain ⟨h1, h2, h3, h4, h5, h6, h7, h8, h9, h10⟩ := h
  have hH := hR.2.2.1.1
  have hL : LawM f m := hR.2.2.1.2.2.2.2.2.2.2.2.2.2
  have hc0 := RR_hc hR
  obtain ⟨l1, l2⟩ := Hl_FQ hR h1
  obtain ⟨r1, k1, e1, g1, g2⟩ := c_go_g (Or.inr rfl) l1 h3
  obtain ⟨r2, k2, e2, rfl, g3⟩ := costs_ok g1
  have w2 := WB_law g1 g3
  have hs1 : StR k1 95 m S := StR_congr h3 (g2 _ (by omega)) (g2 _ (by omega)) (g2 _ (by omega)) rfl
  have hs2 : StR k2 95 m S := StR_congr hs1 (g3.1 _ (by omega) (by omega)) (g3.1 _ (by omega) (by omega)) (g3.1 _ (by omega) (by omega)) rfl
  obtain ⟨r3, k3, e3, p1, p2, p3⟩ := pass_ok (x := csS f m S) hH hs2
  obtain ⟨r4, kM', e4, rfl, q2, q3, q4, q5, q6⟩ := m_passes hH h3.2 hL hf2 h8
  have f1 := FW_FQ g2
  have f2 := LwF_FQ hc0.2 g3
  refine ⟨r1, r3, k1, k2, k3, kM', e1, missing_eq g1, e2, missing_eq w2, meetings_eq w2, e3, e4, q2, by rw [m_meetings hH q4, mtC_eq hH], ⟨?_, ?_, p3, fun a a0 a1 a2 a3 a4 => ?_, ?_, ?_, fun a ha => ?_, q3, fun j hj => ?_, fun j hj => ?_⟩, fun j => ?_, q6⟩
  · exact FQ_trans (FQ_trans (FQ_trans h1 f1.1) f2.1) ⟨fun a a0 a1 a2 _ _ _ _ => p1 a (by omega) (by omega), fun j _ => by rw [p1 0 (by omega) (by omega)], fun j _ => by rw [p1 14 (by omega) (by omega)], fun j _ => by rw [p1 51 (by omega) (by omega)]⟩
  · exact EqM_trans (EqM_trans (EqM_trans h2 f1.2) f2.2) (fun a ha => p1 a (by omega) (by omega))
  · rw [q5 a (by omega) a2 (by omega) (by omega)]; exact h4 a a0 a1 a2 a3 a4
  · rw [q6 1 (by omega)]; exact h5
  · rw [q6 58 (by omega)]; exact h6
  · rw [q5 a (by omega) (by omega) (by omega) (by omega)]; exact h7 a ha
  · rw [q5 246 (by omega) (by omega) (by omega) (by omega)]; exact h9 j hj
  · unfold psS
    rw [if_neg (by omega), if_neg (by omega), if_neg (by omega)]
    exact h10 j hj
  · rw [p1 0 (by omega) (by omega), g3.1 0 (by omega) (by omega), g2 0 (by omega)]
end Dr
