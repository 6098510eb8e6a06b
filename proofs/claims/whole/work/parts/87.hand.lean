/-! Calls by hand. -/
section Ha
variable {f : Int → Int → Int → Int} {m : Mm}
def putS (k : Nat) (v : Int) (S : Nat → Int) : Nat → Int := fun j => if j = k then v else S j
theorem put_h {k : Nat} {v : Int} {S : Nat → Int} : putS k v S k = v := if_pos rfl
theorem put_n {k j : Nat} {v : Int} {S : Nat → Int} (h : j ≠ k) : putS k v S j = S j := if_neg h
theorem s_both {oc om : Mm → Res} {x : Int} {C : Mm → Prop} (hc : TT (oc m) (fun r c' => r = x ∧ EqM m c' ∧ C c')) (hm : ∀ d, EqM m d → TT (om d) (fun r d' => r = x ∧ EqC d d' ∧ ∀ c', C c' → RR f c' d')) : Both oc om m := by
  obtain ⟨r, m1, e1, rfl, hE, hC⟩ := hc
  obtain ⟨r2, m2, e2, rfl, hE2, h⟩ := hm m1 hE
  refine ⟨_, m1, m2, f, e1, e2, RR_FQ (h m1 hC) ⟨fun a a0 _ _ _ _ _ _ => hE2 a a0, fun j hj => by rw [hE2 0 (by omega)], fun j hj => by rw [hE2 14 (by omega)], fun j hj => by rw [hE2 51 (by omega)]⟩ FQM_refl⟩
/-- the class, but for its state now -/
def FS (c c' : Mm) : Prop := (∀ a, a < 203 → a ≠ 0 → (a < 95 ∨ 110 < a) → (a < 83 ∨ 85 < a) → a ≠ 14 → a ≠ 16 → a ≠ 51 → a ≠ 53 → c' a = c a) ∧ (∀ j, j < 17 → c' 0 j = c 0 j) ∧ (∀ j, j ≠ 3 → c' 14 j = c 14 j) ∧ (∀ j, j ≠ 3 → c' 51 j = c 51 j)
def FSM (d d' : Mm) : Prop := (∀ a, 204 ≤ a → (a < 226 ∨ 236 ≤ a) → a ≠ 245 → a ≠ 246 → a < 251 → d' a = d a) ∧ d' 203 1 = d 203 1 ∧ d' 203 58 = d 203 58
theorem RR_state {c c' d d' : Mm} (hR : RR f c d) (hc : FS c c') (hm : FSM d d') (hS : StR c' 83 d' (d' 245)) : RR f c' d' := by
  obtain ⟨h1, h2, h3, h4, h5, h6, h7, h8, h9, h10⟩ := hR
  obtain ⟨q1, q2, q3, q4⟩ := hc
  obtain ⟨m1, m2, m3⟩ := hm
  have e205 : d' 205 = d 205 := m1 205 (by omega) (by omega) (by omega) (by omega) (by omega)
  have qq : ∀ a, (a < 203 ∧ a ≠ 0 ∧ (a < 95 ∨ 110 < a) ∧ (a < 83 ∨ 85 < a) ∧ a ≠ 14 ∧ a ≠ 16 ∧ a ≠ 51 ∧ a ≠ 53) → c' a = c a := fun a z => q1 a z.1 z.2.1 z.2.2.1 z.2.2.2.1 z.2.2.2.2.1 z.2.2.2.2.2.1 z.2.2.2.2.2.2.1 z.2.2.2.2.2.2.2
  have mm : ∀ a, (204 ≤ a ∧ (a < 226 ∨ 236 ≤ a) ∧ a ≠ 245 ∧ a ≠ 246 ∧ a < 251) → d' a = d a := fun a z => m1 a z.1 z.2.1 z.2.2.1 z.2.2.2.1 z.2.2.2.2
  have hc0 := h3.2.1.1
  refine ⟨TpR_congr h1 (by rw [qq 1 (by omega)]) (qq 2 (by omega)) m2 (mm 204 (by omega)), ?_, ?_, hS, ?_, ?_, ?_, ?_, ?_, ?_⟩
  · rw [q2 2 (by omega), q2 3 (by omega)]; exact h2
  · rw [q2 2 (by omega)]
    refine HlR_congr h3 (fun a a0 a1 a2 a3 => qq a (by omega)) (fun j hj => ?_) (fun a a0 a1 => mm a (by omega))
    rcases hc0 with e | e
    · rw [e]; exact q3 j hj
    · rw [e]; exact q4 j hj
  · exact LnR_congr h5 (by rw [qq _ (by omega)]) (qq _ (by omega)) (qq _ (by omega)) (qq _ (by omega)) e205 (mm _ (by omega)) (mm _ (by omega)) (mm _ (by omega)) (mm _ (by omega))
  · exact SnR_congr h6 (by rw [qq _ (by omega)]) (by rw [qq _ (by omega)]) (qq _ (by omega)) (qq _ (by omega)) e205 (mm _ (by omega)) (mm _ (by omega)) (mm _ (by omega)) (mm _ (by omega))
  · exact TdR_congr h7 (qq _ (by omega)) e205 (mm _ (by omega))
  · exact MkR_congr h8 (fun a a0 a1 => qq a (by omega)) (fun a ha => mm a (by omega))
  · exact UnR_congr h9 (q2 8 (by omega)) (q2 9 (by omega)) (fun a a0 a1 => qq a (by omega)) e205 m3 (mm _ (by omega))
  · rw [mm 243 (by omega)]; exact h10
theorem RR_kept {c c1 d d1 : Mm} (hR : RR f c d) (hc : RemP c c1) (hm : KeeP d d1) : RR f c1 d1 := by
  obtain ⟨h1, h2, h3, h4, h5, h6, h7, h8, h9, h10⟩ := hR
  have hU := keep_UnR h3.1 h9 h4 hc hm
  obtain ⟨q1, q2, -⟩ := hc
  obtain ⟨m1, m2, -⟩ := hm
  have mm : ∀ a, (a ≠ 203 ∧ a ≠ 248) → d1 a = d a := fun a z => m1 a z.1 z.2
  have qq : ∀ a, (a ≠ 0 ∧ ¬ (155 ≤ a ∧ a < 203)) → c1 a = c a := fun a z => q1 a z.1 z.2
  have e205 : d1 205 = d 205 := mm 205 (by omega)
  have hc0 := h3.2.1.1
  refine ⟨TpR_congr h1 (by rw [qq 1 (by omega)]) (qq 2 (by omega)) (m2 1 (by omega)) (mm 204 (by omega)), ?_, ?_, ?_, ?_, ?_, ?_, ?_, hU, ?_⟩
  · rw [q2 2 (by omega) (by omega), q2 3 (by omega) (by omega)]; exact h2
  · rw [q2 2 (by omega) (by omega)]
    exact HlR_congr h3 (fun a a0 a1 a2 a3 => qq a (by omega)) (fun j hj => by rw [qq _ (by omega)]) (fun a a0 a1 => mm a (by omega))
  · rw [mm 245 (by omega)]
    exact StR_congr h4 (qq _ (by omega)) (qq _ (by omega)) (qq _ (by omega)) e205
  · exact LnR_congr h5 (by rw [qq _ (by omega)]) (qq _ (by omega)) (qq _ (by omega)) (qq _ (by omega)) e205 (mm _ (by omega)) (mm _ (by omega)) (mm _ (by omega)) (mm _ (by omega))
  · exact SnR_congr h6 (by rw [qq _ (by omega)]) (by rw [qq _ (by omega)]) (qq _ (by omega)) (qq _ (by omega)) e205 (mm _ (by omega)) (mm _ (by omega)) (mm _ (by omega)) (mm _ (by omega))
  · exact TdR_congr h7 (qq _ (by omega)) e205 (mm _ (by omega))
  · exact MkR_congr h8 (fun a a0 a1 => qq a (by omega)) (fun a ha => mm a (by omega))
  · rw [mm 243 (by omega)]; exact h10
theorem RR_th {c d : Mm} (hR : RR f c d) {j : Nat} {x : Int} (h1 : j ≠ 1) (h2 : j ≠ 58) : RR f c (mst d 203 j x) := RR_FQ hR FQ_refl (th_FQM h1 h2).1
theorem RR_E {c d d' : Mm} (hR : RR f c d) (hE : EqM d d') : RR f c d' := RR_FQ hR FQ_refl ⟨fun a _ _ _ _ => hE a (by omega), by rw [hE 203 (by omega)], by rw [hE 203 (by omega)]⟩
theorem call_tell (hR : RR f m m) (a b : Int) : Both (fn_Clock_tell a b) (fn_Model_tell a b) m := by
  have hn := hR.2.2.1.1.1
  have er : ∀ d, EqM m d → ∀ k, 204 ≤ k → mst d 203 0 0 k = m k := fun d hE k hk => by rw [mst_ne (by omega)]; exact hE k (by omega)
  by_cases c1 : iR a (m 205 2) = 0
  · refine q_rel hR (fun d hE hd => ⟨0, ?_, ?_⟩)
    · unfold fn_Clock_tell
      rw [c_isHour hR, bd_some, if_pos c1]
      exact TT_some.mpr ⟨rfl, FQ_refl, fun _ _ => rfl⟩
    · unfold fn_Model_tell
      rw [bn_eq, m_isHour, bd_some, er d hE 205 (by omega), if_pos c1]
      exact TT_some.mpr ⟨rfl, th_FQM (by omega) (by omega)⟩
  · by_cases c2 : -1 ≤ b ∧ b < 240
    · have c1' := c1
      rw [iR_0] at c1'
      refine s_both (f := f) (x := 1) (C := fun c' => c' = mst m 92 a.toNat b) ?_ (fun d hE => ?_)
      · unfold fn_Clock_tell bo_Clock_tell_23
        rw [c_isHour hR, bd_some, if_neg c1, bn_eq]
        have fin : TT (if 0 ≤ a ∧ a < 6 then some (1, mst m 92 a.toNat b) else none) (fun r c' => r = 1 ∧ EqM m c' ∧ c' = mst m 92 a.toNat b) := by
          rw [if_pos (by omega)]
          exact TT_some.mpr ⟨rfl, fun k hk => mst_ne (by omega), rfl⟩
        refine TT_if (fun g => fin) (fun g => ?_)
        rw [c_isMinute, bd_some, if_neg (by rw [iR_0]; omega)]
        exact fin
      · unfold fn_Model_tell
        rw [bn_eq, m_isHour, bd_some, er d hE 205 (by omega), if_neg c1, m_within, bd_some, if_neg (by omega : ¬ b < -1), if_neg (by omega : ¬ 239 < b), if_neg (by decide), if_pos (by omega), bn_eq]
        refine TT_some.mpr ⟨rfl, fun k hk => by rw [mst_ne (by omega), mst_ne (by omega)], fun c' hc => ?_⟩
        subst hc
        have hR1 : RR f m (mst d 203 0 0) := RR_th (RR_E hR hE) (by omega) (by omega)
        obtain ⟨h1, h2, h3, h4, h5, h6, h7, h8, h9, h10⟩ := hR1
        generalize hd1 : mst d 203 0 0 = d1 at *
        have e205 : d1 205 = m 205 := by rw [← hd1]; exact er d hE 205 (by omega)
        refine ⟨TpR_congr h1 (by rw [mst_ne (by omega)]) (mst_ne (by omega)) (by rw [mst_ne (by omega)]) (mst_ne (by omega)), ?_, ?_, ?_, ?_, ?_, fun x x0 x1 => ?_, ?_, ?_, ?_⟩
        · rw [mst_ne (by omega)]; exact h2
        · rw [mst_ne (by omega : 0 ≠ 92)]
          have hc0 := h3.2.1.1
          exact HlR_congr h3 (fun k _ _ _ _ => mst_ne (by omega)) (fun j _ => by rw [mst_ne (by omega)]) (fun k _ _ => mst_ne (by omega))
        · rw [mst_ne (by omega : 245 ≠ 244)]
          exact StR_congr h4 (mst_ne (by omega)) (mst_ne (by omega)) (mst_ne (by omega)) (mst_ne (by omega))
        · exact LnR_congr h5 (by rw [mst_ne (by omega)]) (mst_ne (by omega)) (mst_ne (by omega)) (mst_ne (by omega)) (mst_ne (by omega)) (mst_ne (by omega)) (mst_ne (by omega)) (mst_ne (by omega)) (mst_ne (by omega))
        · exact SnR_congr h6 (by rw [mst_ne (by omega)]) (by rw [mst_ne (by omega)]) (mst_ne (by omega)) (mst_ne (by omega)) (mst_ne (by omega)) (mst_ne (by omega)) (mst_ne (by omega)) (mst_ne (by omega)) (mst_ne (by omega))
        · rw [mst_ne (by omega : 205 ≠ 244)] at x1
          have e0 : (6 * 0 + x).toNat = x.toNat := by omega
          have hx := h7 x x0 x1
          rw [e0] at hx ⊢
          by_cases g : x = a
          · subst g
            rw [mst_hit, mst_hit]
            exact ⟨rfl, by omega, by omega⟩
          · rw [mst_miss (by omega), mst_miss (by omega)]
            exact hx
        · -- the marks: what is told there stands apart
          intro i i0 i1
          obtain ⟨z1, z2, z3⟩ := h8 i i0 i1
          rw [mst_ne (by omega : 249 ≠ 244), mst_ne (by omega : 11 * i.toNat + 111 ≠ 92)]
          refine ⟨z1, z2, fun z => ?_⟩
          obtain ⟨y1, y2, y3, y4⟩ := z3 z
          have e7 : rowS (mst d1 244 a.toNat b) 247 i = rowS d1 247 i := by unfold rowS; rw [mst_ne (by omega)]
          rw [e7]
          refine ⟨StR_congr y1 (mst_ne (by omega)) (mst_ne (by omega)) (mst_ne (by omega)) (mst_ne (by omega)), LnR_congr y2 (by rw [mst_ne (by omega)]) (mst_ne (by omega)) (mst_ne (by omega)) (mst_ne (by omega)) (mst_ne (by omega)) (mst_ne (by omega)) (mst_ne (by omega)) (mst_ne (by omega)) (mst_ne (by omega)), SnR_congr y3 (by rw [mst_ne (by omega)]) (by rw [mst_ne (by omega)]) (mst_ne (by omega)) (mst_ne (by omega)) (mst_ne (by omega)) (mst_ne (by omega)) (mst_ne (by omega)) (mst_ne (by omega)) (mst_ne (by omega)), fun x x0 x1 => ?_⟩
          rw [mst_ne (by omega : 205 ≠ 244)] at x1
          rw [mst_ne (by omega : 11 * i.toNat + 121 ≠ 92), mst_miss (by omega)]
          exact y4 x x0 x1
        · exact UnR_congr h9 (by rw [mst_ne (by omega)]) (by rw [mst_ne (by omega)]) (fun k _ _ => mst_ne (by omega)) (mst_ne (by omega)) (by rw [mst_ne (by omega)]) (mst_ne (by omega))
        · rw [mst_ne (by omega : 243 ≠ 244)]; exact h10
    · refine q_rel hR (fun d hE hd => ⟨0, ?_, ?_⟩)
      · unfold fn_Clock_tell
        rw [c_isHour hR, bd_some, if_neg c1, if_neg (by omega), c_isMinute, bd_some, if_pos (by rw [iR_0]; omega)]
        exact TT_some.mpr ⟨rfl, FQ_refl, fun _ _ => rfl⟩
      · unfold fn_Model_tell
        have z : (if b < -1 then (0 : Int) else if 239 < b then 0 else 1) = 0 := by split <;> (try split) <;> omega
        rw [bn_eq, m_isHour, bd_some, er d hE 205 (by omega), if_neg c1, m_within, bd_some, z, if_pos rfl]
        exact TT_some.mpr ⟨rfl, th_FQM (by omega) (by omega)⟩
/-- what is done to the state by hand, both kept before -/
theorem hand_both (hR : RR f m m) {oc om : Mm → Res} {up : (Nat → Int) → Nat → Int} (hc : TT (oc m) (fun r c' => r = 1 ∧ EqM m c' ∧ ∃ c1, RemP m c1 ∧ FS c1 c' ∧ ∀ d', d' 205 = m 205 → d' 245 = up (m 245) → StR c' 83 d' (d' 245))) (hm : ∀ d, EqM m d → TT (om d) (fun r d' => r = 1 ∧ EqC d d' ∧ ∃ d1, KeeP (mst d 203 0 0) d1 ∧ FSM d1 d' ∧ d' 205 = m 205 ∧ d' 245 = up (m 245))) : Both oc om m := by
  refine s_both (f := f) hc (fun d hE => TT_mono (hm d hE) (fun r d' q => ⟨q.1, q.2.1, fun c' hc' => ?_⟩))
  obtain ⟨-, -, d1, k1, k2, k3, k4⟩ := q
  obtain ⟨c1, r1, r2, r3⟩ := hc'
  exact RR_state (RR_kept (RR_th (RR_E hR hE) (by omega) (by omega)) r1 k1) r2 k2 (r3 d' k3 k4)
theorem lies_ok {d : Mm} {k v : Int} (h : 0 ≤ d 203 58 ∧ d 203 58 ≤ 16) (k0 : 0 ≤ k) (k1 : k < 16) : TT (fn_Model_lies k v d) (fun r d' => r = 1 ∧ ∃ d1, KeeP d d1 ∧ d' = mst d1 245 k.toNat v) := by
  unfold fn_Model_lies
  refine TT_call (keeps_ok h) (fun r d1 q => ?_)
  rw [if_pos ⟨k0, k1⟩, bn_eq]
  exact TT_some.mpr ⟨rfl, d1, q, rfl⟩
theorem FSM_245 {d1 : Mm} {j : Nat} {v : Int} : FSM d1 (mst d1 245 j v) := ⟨fun a _ _ a1 _ _ => mst_ne a1, by rw [mst_ne (by omega)], by rw [mst_ne (by omega)]⟩
theorem FS_st {c1 : Mm} {a j : Nat} {v : Int} (h : 83 ≤ a ∧ a ≤ 85) : FS c1 (mst c1 a j v) := ⟨fun b _ _ _ _ _ _ _ _ => mst_ne (by omega), fun b _ => by rw [mst_ne (by omega)], fun b _ => by rw [mst_ne (by omega)], fun b _ => by rw [mst_ne (by omega)]⟩
/-- the reference's side of what is done by hand -/
theorem m_hand (hR : RR f m m) {d : Mm} (hE : EqM m d) {k v : Int} (k0 : 0 ≤ k) (k1 : k < 16) : TT (fn_Model_lies k v (mst d 203 0 0)) (fun r d' => r = 1 ∧ EqC d d' ∧ ∃ d1, KeeP (mst d 203 0 0) d1 ∧ FSM d1 d' ∧ d' 205 = m 205 ∧ d' 245 = putS k.toNat v (m 245)) := by
  have hU := hR.2.2.2.2.2.2.2.2.1
  have e58 : mst d 203 0 0 203 58 = m 203 58 := by rw [mst_miss (by omega), hE 203 (by omega)]
  refine TT_mono (lies_ok (by rw [e58]; exact ⟨hU.2.1, hU.2.2.1⟩) k0 k1) (fun r d' q => ?_)
  obtain ⟨q1, d1, q2, rfl⟩ := q
  refine ⟨q1, fun a ha => ?_, d1, q2, FSM_245, ?_, ?_⟩
  · rw [mst_ne (by omega), q2.1 a (by omega) (by omega), mst_ne (by omega)]
  · rw [mst_ne (by omega), q2.1 205 (by omega) (by omega), mst_ne (by omega)]; exact hE 205 (by omega)
  · funext j
    by_cases g : j = k.toNat
    · subst g; rw [mst_hit, put_h]
    · rw [mst_miss g, put_n g, q2.1 245 (by omega) (by omega), mst_ne (by omega), hE 245 (by omega)]
theorem c_rem (hR : RR f m m) : TT (fn_Clock_remember m) (fun _ c' => RemP m c') := by
  have hU := hR.2.2.2.2.2.2.2.2.1
  have hS := hR.2.2.2.1
  exact remember_ok ⟨hU.2.2.2.1, hU.2.2.2.2.1⟩ (by rw [hU.1]; exact ⟨hU.2.1, hU.2.2.1⟩) (by rw [hS.1.2.2.2.1]; exact hS.2.2.2.1)
theorem RemP_E {c c1 : Mm} (h : RemP c c1) : EqM c c1 := fun a ha => h.1 a (by omega) (by omega)
theorem call_late (hR : RR f m m) (a b : Int) : Both (fn_Clock_late a b) (fn_Model_late a b) m := by
  have hn := hR.2.2.1.1.1
  have hS := hR.2.2.2.1
  have er : ∀ d, EqM m d → ∀ k, 204 ≤ k → mst d 203 0 0 k = m k := fun d hE k hk => by rw [mst_ne (by omega)]; exact hE k (by omega)
  by_cases c1 : iR a (m 205 1) = 0
  · refine q_rel hR (fun d hE hd => ⟨0, ?_, ?_⟩)
    · unfold fn_Clock_late
      rw [c_isWalker hR, bd_some, if_pos c1]
      exact TT_some.mpr ⟨rfl, FQ_refl, fun _ _ => rfl⟩
    · unfold fn_Model_late
      rw [bn_eq, m_isWalker, bd_some, er d hE 205 (by omega), if_pos c1]
      exact TT_some.mpr ⟨rfl, th_FQM (by omega) (by omega)⟩
  · by_cases c2 : 0 ≤ b ∧ b ≤ 60
    · have c1' := c1
      rw [iR_0] at c1'
      refine hand_both hR (up := putS (4 + a).toNat b) ?_ (fun d hE => ?_)
      · unfold fn_Clock_late
        rw [c_isWalker hR, bd_some, if_neg c1, if_neg (by omega), if_neg (by omega)]
        refine TT_call (c_rem hR) (fun r c1 q => ?_)
        rw [if_pos (by omega), bn_eq]
        refine TT_some.mpr ⟨rfl, fun k hk => by rw [mst_ne (by omega)]; exact RemP_E q k hk, c1, q, FS_st (by omega), fun d' e205 e245 => ?_⟩
        obtain ⟨⟨s0, s1, s2, s3, s4, s5⟩, ⟨t1, t2, t3, t4, t5, t6⟩⟩ := hS
        have q83 := q.1 83 (by omega) (by omega)
        have q84 := q.1 84 (by omega) (by omega)
        have q85 := q.1 85 (by omega) (by omega)
        rw [e245]
        refine ⟨⟨?_, ?_, ?_, ?_, fun w w0 w1 => ?_, fun x x0 x1 => ?_⟩, ⟨?_, ?_, ?_, fun w w0 w1 => ?_, fun x x0 x1 => ?_, by rw [put_n (by omega)]; exact t6⟩⟩
        · rw [mst_ne (by omega), q83, put_n (by omega)]; exact s0
        · rw [mst_ne (by omega), q83, put_n (by omega)]; exact s1
        · rw [mst_ne (by omega), q83, put_n (by omega)]; exact s2
        · rw [mst_ne (by omega), q83, put_n (by omega)]; exact s3
        · by_cases g : w = a
          · subst g; rw [mst_hit, put_h]; exact ⟨rfl, by omega⟩
          · rw [mst_miss (by omega), put_n (by omega), q84]; exact s4 w w0 w1
        · rw [e205] at x1
          rw [mst_ne (by omega), put_n (by omega), q85]; exact s5 x x0 x1
        · rw [put_n (by omega)]; exact t1
        · rw [put_n (by omega)]; exact t2
        · rw [put_n (by omega)]; exact t3
        · by_cases g : w = a
          · subst g; rw [put_h]; omega
          · rw [put_n (by omega)]; exact t4 w w0 w1
        · rw [e205] at x1 ⊢
          rw [put_n (by omega)]; exact t5 x x0 x1
      · unfold fn_Model_late
        rw [bn_eq, m_isWalker, bd_some, er d hE 205 (by omega), if_neg c1, m_within, bd_some, if_neg (by omega : ¬ b < 0), if_neg (by omega : ¬ 60 < b), if_neg (by decide), w32_in (by omega) (by omega)]
        refine TT_call (m_hand hR hE (by omega) (by omega)) (fun r d' q => ?_)
        rw [q.1, if_neg (by decide)]
        exact TT_some.mpr ⟨rfl, q.2⟩
    · refine q_rel hR (fun d hE hd => ⟨0, ?_, ?_⟩)
      · unfold fn_Clock_late
        rw [c_isWalker hR, bd_some, if_neg c1]
        refine TT_if (fun _ => TT_some.mpr ⟨rfl, FQ_refl, fun _ _ => rfl⟩) (fun g => ?_)
        rw [if_pos (by omega)]
        exact TT_some.mpr ⟨rfl, FQ_refl, fun _ _ => rfl⟩
      · unfold fn_Model_late
        have z : (if b < 0 then (0 : Int) else if 60 < b then 0 else 1) = 0 := by split <;> (try split) <;> omega
        rw [bn_eq, m_isWalker, bd_some, er d hE 205 (by omega), if_neg c1, m_within, bd_some, z, if_pos rfl]
        exact TT_some.mpr ⟨rfl, th_FQM (by omega) (by omega)⟩
end Ha
