/-! Who waits for whom is told. -/
section Wa
variable {hc : Nat}
theorem HR_waits {c d : Mm} {w p o v : Int} (H : HR hc c d) (w0 : 0 ≤ w) (w1 : w < d 205 6) (p0 : 0 ≤ p) (p1 : p < 6) (o0 : 0 ≤ o) (o1 : o < d 205 6) (v0 : 1 ≤ v) (v1 : v ≤ 60) (h9 : d 205 9 < 6) : HR hc (mst (mst (mst c (hc + 4 * w.toNat + 13 + 2) p.toNat o) (hc + 4 * w.toNat + 13 + 3) p.toNat v) hc 4 (d 205 9 + 1)) (mst (mst (mst d 216 (36 + 6 * w + p).toNat (1 + o)) 217 (36 + 6 * w + p).toNat v) 205 9 (d 205 9 + 1)) := by
  obtain ⟨c1, c2, c3, c4, c5, c6⟩ := HR_cnt H
  obtain ⟨h1, h2, h3, h4, h5, h6, h7, h8⟩ := H
  have G : FXc (fun a j => (a = hc ∧ j = 4) ∨ ((a = hc + 4 * w.toNat + 15 ∨ a = hc + 4 * w.toNat + 16) ∧ j = p.toNat)) c (mst (mst (mst c (hc + 4 * w.toNat + 13 + 2) p.toNat o) (hc + 4 * w.toNat + 13 + 3) p.toNat v) hc 4 (d 205 9 + 1)) := FXc_trans (FXc_trans (FXc_m (Or.inr ⟨Or.inl (by omega), rfl⟩)) (FXc_m (Or.inr ⟨Or.inr (by omega), rfl⟩))) (FXc_m (Or.inl ⟨rfl, rfl⟩))
  have G' : FXm (fun a j => (a = 205 ∧ j = 9) ∨ ((a = 216 ∨ a = 217) ∧ j = (36 + 6 * w + p).toNat)) d (mst (mst (mst d 216 (36 + 6 * w + p).toNat (1 + o)) 217 (36 + 6 * w + p).toNat v) 205 9 (d 205 9 + 1)) := FXm_trans (FXm_trans (FXm_m (Or.inr ⟨Or.inl rfl, rfl⟩)) (FXm_m (Or.inr ⟨Or.inr rfl, rfl⟩))) (FXm_m (Or.inl ⟨rfl, rfl⟩))
  have q1 : mst (mst (mst c (hc + 4 * w.toNat + 13 + 2) p.toNat o) (hc + 4 * w.toNat + 13 + 3) p.toNat v) hc 4 (d 205 9 + 1) hc 4 = d 205 9 + 1 := mst_hit
  have q2 : mst (mst (mst d 216 (36 + 6 * w + p).toNat (1 + o)) 217 (36 + 6 * w + p).toNat v) 205 9 (d 205 9 + 1) 205 9 = d 205 9 + 1 := mst_hit
  have q3 : ∀ a, a = hc + 4 * w.toNat + 15 → mst (mst (mst c (hc + 4 * w.toNat + 13 + 2) p.toNat o) (hc + 4 * w.toNat + 13 + 3) p.toNat v) hc 4 (d 205 9 + 1) a p.toNat = o := fun a ha => by
    rw [mst_ne (by omega), mst_ne (by omega)]; subst ha; exact mst_hit
  have q4 : ∀ a, a = hc + 4 * w.toNat + 16 → mst (mst (mst c (hc + 4 * w.toNat + 13 + 2) p.toNat o) (hc + 4 * w.toNat + 13 + 3) p.toNat v) hc 4 (d 205 9 + 1) a p.toNat = v := fun a ha => by
    rw [mst_ne (by omega)]; subst ha; exact mst_hit
  have q5 : mst (mst (mst d 216 (36 + 6 * w + p).toNat (1 + o)) 217 (36 + 6 * w + p).toNat v) 205 9 (d 205 9 + 1) 216 (36 + 6 * w + p).toNat = 1 + o := by rw [mst_ne (by omega), mst_ne (by omega), mst_hit]
  have q6 : mst (mst (mst d 216 (36 + 6 * w + p).toNat (1 + o)) 217 (36 + 6 * w + p).toNat v) 205 9 (d 205 9 + 1) 217 (36 + 6 * w + p).toNat = v := by rw [mst_ne (by omega), mst_hit]
  revert G G' q1 q2 q3 q4 q5 q6
  generalize mst (mst (mst c (hc + 4 * w.toNat + 13 + 2) p.toNat o) (hc + 4 * w.toNat + 13 + 3) p.toNat v) hc 4 (d 205 9 + 1) = cf
  generalize mst (mst (mst d 216 (36 + 6 * w + p).toNat (1 + o)) 217 (36 + 6 * w + p).toNat v) 205 9 (d 205 9 + 1) = df
  intro G G' q1 q2 q3 q4 q5 q6
  have f5 : df 205 5 = d 205 5 := gm G' (by omega) (by omega)
  have f6 : df 205 6 = d 205 6 := gm G' (by omega) (by omega)
  have f7 : df 205 7 = d 205 7 := gm G' (by omega) (by omega)
  refine ⟨h1, ?_, ?_, ?_, ?_, ?_, ?_, ?_⟩
  · rw [gc G (by omega) (by omega)]; exact h2
  · exact NmX_fx h3 G G' h1 (fun k j z => by omega) (fun j z => by omega) (fun j z => by omega) (fun j z => by omega) (fun j z => by omega) (fun j z => by omega) (fun j z => by omega) (fun j z => by omega)
  · rw [q1, q2, gc G (by omega) (by omega), gm G' (by omega) (by omega)]
    exact ⟨h4.1, rfl, by omega, by omega⟩
  · exact PaR_congr h5 (gcr G (by omega) (fun j => by omega)) (gmr G' (by omega) (fun j => by omega)) (by omega)
  · rw [f6]
    intro u u0 u1
    have hu := h6 u u0 u1
    by_cases z : u = w
    · subst z
      unfold WkR at hu ⊢
      obtain ⟨g1, g2, g3, g4, g5, g6, g7, g8⟩ := hu
      have e13 : ∀ j, cf (hc + 4 * u.toNat + 13) j = c (hc + 4 * u.toNat + 13) j := fun j => gc G (by omega) (by omega)
      have e14 : ∀ j, cf (hc + 4 * u.toNat + 14) j = c (hc + 4 * u.toNat + 14) j := fun j => gc G (by omega) (by omega)
      have ed : ∀ a, 210 ≤ a → a ≤ 215 → ∀ j, df a j = d a j := fun a a0 a1 j => gm G' (by omega) (by omega)
      rw [e13, e13, e13, e13, e13, ed 210 (by omega) (by omega), ed 211 (by omega) (by omega), ed 212 (by omega) (by omega), ed 213 (by omega) (by omega), ed 215 (by omega) (by omega), f5, f6]
      refine ⟨g1, g2, g3, g4, g5, fun i i0 i1 => ?_, fun i i0 i1 => ?_, fun q q0 q1' => ?_⟩
      · rw [e14, ed 214 (by omega) (by omega)]; exact g6 i i0 i1
      · rw [ed 214 (by omega) (by omega), ed 214 (by omega) (by omega)]; exact g7 i i0 i1
      · by_cases y : q = p
        · subst y
          rw [q3 _ rfl, q4 _ rfl, q5, q6]
          exact ⟨by omega, by omega, by omega, fun _ => ⟨rfl, v0, v1⟩⟩
        · rw [gc G (by omega) (by omega), gc G (by omega) (by omega), gm G' (by omega) (by omega), gm G' (by omega) (by omega)]
          exact g8 q q0 q1'
    · exact WkR_congr hu (fun j _ => gc G (by omega) (by omega)) (fun i i0 i1 j => gc G (by omega) (by omega)) (fun a a0 a1 => gm G' (by omega) (by omega)) (fun i i0 i1 => gm G' (by omega) (by omega)) (fun q q0 q1 => ⟨gm G' (by omega) (by omega), gm G' (by omega) (by omega)⟩) (by omega) (by omega)
  · rw [f7]
    exact HR_ho h7 G G' h1 (fun a j a0 a1 a2 => by omega) (fun a j a0 a1 a2 => by omega) (by omega) (by omega)
  · exact HR_lw h8 G G' h1 (fun a j a0 => by omega) (fun a j a0 => by omega)
/-- the tail: from the other walker on -/
theorem waits_tail {c0 d0 c d : Mm} {w p o : Int} (S : SX (PH hc) QH c0 d0 c d) (H : HR hc c d) (w0 : 0 ≤ w) (w1 : w < d 205 6) (p0 : 0 ≤ p) (p1 : p < 6) (o0 : 0 ≤ o) (o1 : o < d 205 6) (h9 : d 205 9 < 6) :
    LR hc c0 d0 (bo_HillsReader_readWaits_83 w p (hc + 4 * w.toNat + 13) o c) (if o = w then (bd (fn_Model_fails 3 d) fun r27 m28 => if r27 = 0 ∨ r27 = 1 then some (r27, m28) else none) else (bd (fn_Model_nextToken d) fun r30 m31 => bd (fn_Model_needsNumber 1 60 m31) fun r32 m33 => if r32 = 0 then (some (0, m33)) else (if 0 ≤ 36 + 6 * w + p ∧ 36 + 6 * w + p < 72 then bn (mst m33 216 (36 + 6 * w + p).toNat (w32 (1 + o))) fun m35 => if 0 ≤ 36 + 6 * w + p ∧ 36 + 6 * w + p < 72 then bn (mst m35 217 (36 + 6 * w + p).toNat (m35 203 42)) fun m37 => bn (mst m37 205 (9 : Int).toNat (w32 ((m37 205 (9 : Int).toNat) + 1))) fun m38 => bd (fn_Model_closes m38) fun r39 m40 => if r39 = 0 ∨ r39 = 1 then some (r39, m40) else none else none else none))) := by
  have pid : ∀ a j, PH hc a j → PH hc a j := fun _ _ z => z
  have qid : ∀ a j, QH a j → QH a j := fun _ _ z => z
  have h1 := H.1
  have hcnt := HR_cnt H
  unfold bo_HillsReader_readWaits_83
  rw [if_neg (by omega : ¬ o = -1)]
  by_cases z : o = w
  · obtain ⟨c5, d5, u1, u2, u3⟩ := wrong_no (p := 3) S pid qid (by omega) (by omega)
    rw [if_pos z, if_pos z, u1, u2, bd_some, bd_some, if_pos (Or.inl rfl), if_pos (Or.inl rfl)]
    exact u3
  · obtain ⟨c1, d1, v1, v2, S1, g1, g1'⟩ := SX_next S
    have H1 := HR_p H g1 g1'
    rw [if_neg z, if_neg z, v1, v2, bd_some, bd_some]
    obtain ⟨v, rv, c2, d2, t1, t2, t3, t4, t5⟩ := number_ok (lo := 1) (hi := 60) S1.2.2.1 (by omega)
    rw [t1, t2, bd_some, bd_some]
    rcases t5 with ⟨y, t5, t6, t7, t8, t9⟩ | ⟨y, t5, t6⟩
    · have S2 := SX_p S1 t3 t4 t8 t9
      have H2 := HR_p H1 t3 t4
      have e205 : d2 205 = d 205 := by rw [t4.1 _ (by omega), g1'.1 _ (by omega)]
      have e4 : c2 hc 4 = d 205 9 := by rw [H2.2.2.2.1.2.1, e205]
      have e9 : (9 : Int).toNat = 9 := rfl
      have hK : isK 0 (c2 3 1) = true := isK0 (by have := H2.2.1; omega)
      have e3 : (c2 3 1).toNat = hc := by have := H2.2.1; omega
      have m3 : mst (mst c2 (hc + 4 * w.toNat + 13 + 2) p.toNat o) (hc + 4 * w.toNat + 13 + 3) p.toNat v 3 1 = c2 3 1 := by rw [mst_ne (by omega), mst_ne (by omega)]
      have m4 : mst (mst c2 (hc + 4 * w.toNat + 13 + 2) p.toNat o) (hc + 4 * w.toNat + 13 + 3) p.toNat v hc 4 = d 205 9 := by rw [mst_ne (by omega), mst_ne (by omega)]; exact e4
      have m5 : ∀ x, mst d2 216 (36 + 6 * w + p).toNat x 203 42 = v := fun x => by rw [mst_ne (by omega)]; exact t7
      have m6 : ∀ x y, mst (mst d2 216 (36 + 6 * w + p).toNat x) 217 (36 + 6 * w + p).toNat y 205 9 = d 205 9 := fun x y => by rw [mst_ne (by omega), mst_ne (by omega), e205]
      have h4b := H.2.2.2.1
      rw [if_neg (by omega : ¬ v = -1), if_neg (by omega : ¬ rv = 0), if_pos (by omega : 0 ≤ p ∧ p < 6), bn_eq, if_pos (by omega : 0 ≤ p ∧ p < 6), bn_eq, m3, if_pos hK, e3, m4, bn_eq, if_pos (by omega : 0 ≤ 36 + 6 * w + p ∧ 36 + 6 * w + p < 72), bn_eq, if_pos (by omega : 0 ≤ 36 + 6 * w + p ∧ 36 + 6 * w + p < 72), m5, bn_eq, e9, m6, bn_eq, w32_in (x := 1 + o) (by omega) (by omega), w32_in (x := d 205 9 + 1) (by omega) (by omega)]
      have HF := HR_waits (v := v) H2 w0 (by rw [e205]; exact w1) p0 p1 o0 (by rw [e205]; exact o1) t5 t6 (by rw [e205]; exact h9)
      rw [e205] at HF
      refine LR_fin ?_ HF
      exact SX_md (SX_md (SX_md (SX_mc (SX_mc (SX_mc S2 (Or.inr (by omega)) (by omega) (by omega)) (Or.inr (by omega)) (by omega) (by omega)) (Or.inr (by omega)) (by omega) (by omega)) (Or.inr ⟨by omega, by omega, by show 36 ≤ _; omega⟩) (by omega) (by omega)) (Or.inr ⟨by omega, by omega, by show 36 ≤ _; omega⟩) (by omega) (by omega)) (Or.inr ⟨by omega, by omega, by show 5 ≤ 9; omega⟩) (by omega) (by omega)
    · rw [if_pos t5, if_pos y]
      exact LR_fail S1 pid qid t3 t4 t6
theorem waits_line {c d : Mm} (h : TkR c d) (hk : ¬ c 1 6 = 1) (hH : HR hc c d) : LR hc c d (clN (c hc 4) fn_HillsReader_readWaits c) (fn_Model_readsWaits d) := by
  have h1 := hH.1
  obtain ⟨-, h9, h9a, h9b⟩ := hH.2.2.2.1
  have pid : ∀ a j, PH hc a j → PH hc a j := fun _ _ z => z
  have qid : ∀ a j, QH a j → QH a j := fun _ _ z => z
  unfold clN fn_HillsReader_canBegin fn_Model_readsWaits
  have e9 : (9 : Int).toNat = 9 := rfl
  rw [e9]
  by_cases y : c hc 4 < 6
  · obtain ⟨c1, d1, v1, v2, S1, g1, g1'⟩ := SX_first (P := PH hc) (Q := QH) h hk FXc_refl FXm_refl rfl (Int.le_refl _)
    have H1 := HR_p hH g1 g1'
    rw [if_pos y, if_neg (by omega : ¬ d 205 9 = 6), v1, v2, bd_some, bd_some, bd_some, if_neg (by decide : ¬ (1 : Int) = 0)]
    refine LR_wrap ?_
    unfold fn_HillsReader_readWaits fn_HillsReader_takeWalkerAt
    obtain ⟨w, rw', c2, d2, a1, a2, a3, a4, a5⟩ := SX_walker S1 h1 H1.2.1 H1.2.2.1
    have e205 : d1 205 = d 205 := g1'.1 _ (by omega)
    rw [a1, a2, bd_some, bd_some]
    rcases a5 with ⟨z, w0, w1, a5, a6, a7⟩ | ⟨z, a5, a6⟩
    · have S2 := SX_p S1 a3 a4 a7 (by rw [a5])
      have H2 := HR_p H1 a3 a4
      obtain ⟨c3, d3, b1, b2, S3, g3, g3'⟩ := SX_next S2
      have H3 := HR_p H2 g3 g3'
      rw [if_neg (by omega : ¬ w = -1), if_neg (by omega : ¬ rw' = 0), bn_eq, a6, b1, b2, bd_some, bd_some]
      obtain ⟨rt, c4, d4, x1, x2, x3, x4, x5⟩ := word_ok (k := 8) (x := 47) (w := -10) S3.2.2.1 (by decide) rfl (by decide)
      rw [x1, x2, bd_some, bd_some]
      rcases x5 with ⟨z2, x5, x6⟩ | ⟨z2, x5⟩
      · have S4 := SX_p S3 x3 x4 x5 x6
        have H4 := HR_p H3 x3 x4
        have e205b : d4 205 = d 205 := by rw [x4.1 _ (by omega), g3'.1 _ (by omega), a4.1 _ (by omega), e205]
        rw [if_neg (by omega : ¬ rt = 0), if_neg (by omega : ¬ rt = 0), bd_some, if_neg (by omega : ¬ w = -1)]
        obtain ⟨p, rp, c5, d5, i1, i2, i3, i4, i5⟩ := SX_place S4 h1 H4.2.1 H4.2.2.1
        rw [i1, i2, bd_some, bd_some]
        unfold bo_HillsReader_readWaits_18
        rcases i5 with ⟨z3, p0, p1, i5, i6, i7⟩ | ⟨z3, i5, i6⟩
        · have S5 := SX_p S4 i3 i4 i7 (by rw [i5])
          have H5 := HR_p H4 i3 i4
          have cnt := HR_cnt H5
          have e205c : d5 205 = d 205 := by rw [i4.1 _ (by omega), e205b]
          have hK : isK 0 (c5 3 1) = true := isK0 (by have := H5.2.1; omega)
          have e3 : (c5 3 1).toNat = hc := by have := H5.2.1; omega
          rw [e205b] at p1
          rw [e205] at w1
          rw [e205c] at cnt
          rw [if_neg (by omega : ¬ p = -1), if_neg (by omega : ¬ rp = 0), if_pos hK, if_pos (by omega : 0 ≤ w ∧ w < 6), if_pos (by omega : 0 ≤ p ∧ p < 6), e3, i6, w32_in (x := 6 * w) (by omega) (by omega), w32_in (x := 36 + 6 * w) (by omega) (by omega), w32_in (x := 36 + 6 * w + p) (by omega) (by omega), bn_eq, if_pos (by omega : 0 ≤ 36 + 6 * w + p ∧ 36 + 6 * w + p < 72)]
          obtain ⟨k1, k2, k3, k4⟩ := (H5.2.2.2.2.2.1 w w0 (by rw [e205c]; exact w1)).2.2.2.2.2.2.2 p p0 (by omega)
          by_cases z4 : 0 < d5 216 (36 + 6 * w + p).toNat
          · obtain ⟨c6, d6, u1, u2, u3⟩ := wrong_no (p := 3) S5 pid qid (by omega) (by omega)
            rw [if_pos z4, if_neg (by omega : ¬ c5 (hc + 4 * w.toNat + 15) p.toNat = -1), u1, u2, bd_some, bd_some, if_pos (Or.inl rfl), if_pos (Or.inl rfl)]
            exact u3
          · obtain ⟨c6, d6, u1, u2, S6, g6, g6'⟩ := SX_next S5
            have H6 := HR_p H5 g6 g6'
            rw [if_neg z4, if_pos (by omega : c5 (hc + 4 * w.toNat + 15) p.toNat = -1), u1, u2, bd_some, bd_some]
            obtain ⟨rt2, c7, d7, j1, j2, j3, j4, j5⟩ := word_ok (k := 9) (x := 4797) (w := -11) S6.2.2.1 (by decide) rfl (by decide)
            rw [j1, j2, bd_some, bd_some]
            rcases j5 with ⟨z5, j5, j6⟩ | ⟨z5, j5⟩
            · have S7 := SX_p S6 j3 j4 j5 j6
              have H7 := HR_p H6 j3 j4
              rw [if_neg (by omega : ¬ rt2 = 0), if_neg (by omega : ¬ rt2 = 0)]
              obtain ⟨o, ro, c8, d8, l1, l2, l3, l4, l5⟩ := SX_walker S7 h1 H7.2.1 H7.2.2.1
              rw [l1, l2, bd_some, bd_some]
              have e205e : d7 205 = d 205 := by rw [j4.1 _ (by omega), g6'.1 _ (by omega), e205c]
              rcases l5 with ⟨z6, o0, o1, l5, l6, l7⟩ | ⟨z6, l5, l6⟩
              · have S8 := SX_p S7 l3 l4 l7 (by rw [l5])
                have H8 := HR_p H7 l3 l4
                have e205d : d8 205 = d 205 := by rw [l4.1 _ (by omega), e205e]
                rw [if_neg (by omega : ¬ ro = 0), bn_eq, l6]
                exact waits_tail S8 H8 w0 (by rw [e205d]; exact w1) p0 (by omega) o0 (by rw [e205d, ← e205e]; exact o1) (by rw [e205d]; omega)
              · rw [if_pos z6, l5]
                unfold bo_HillsReader_readWaits_83
                rw [if_pos rfl]
                exact LR_fail S7 pid qid l3 l4 l6
            · rw [if_pos z5, if_pos z5]
              unfold bo_HillsReader_readWaits_83
              rw [if_pos rfl]
              exact LR_fail S6 pid qid j3 j4 j5
        · rw [if_pos i5, if_pos z3]
          exact LR_fail S4 pid qid i3 i4 i6
      · rw [if_pos z2, if_pos z2, bd_some, if_pos rfl]
        unfold bo_HillsReader_readWaits_18
        rw [if_pos rfl]
        exact LR_fail S3 pid qid x3 x4 x5
    · rw [if_pos a5, if_pos z, bd_some, if_pos rfl]
      unfold bo_HillsReader_readWaits_18
      rw [if_pos rfl]
      exact LR_fail S1 pid qid a3 a4 a6
  · obtain ⟨c', d', w1, w2, w3⟩ := beg_no h hH
    rw [if_neg y, if_pos (by omega : d 205 9 = 6), w1, w2, bd_some, bd_some, if_pos (Or.inl rfl), if_pos (Or.inl rfl), bd_some, if_pos rfl]
    exact w3
end Wa
