/-! The law's line. -/
section Mi
variable {hc : Nat}
theorem QL_QH {x dp cb : Int} (h : 0 ≤ x) : ∀ a j, QL x dp cb a j → QH a j := fun a j z => by
  rcases z with ⟨z1, z2⟩ | ⟨rfl, z⟩ | ⟨z, -⟩ | ⟨z, -⟩
  · exact Or.inl (Or.inl ⟨z1, z2⟩)
  · exact Or.inr ⟨by omega, by omega, by show 1000 ≤ j; omega⟩
  · exact Or.inl (Or.inr (Or.inl z))
  · exact Or.inl (Or.inr (Or.inr z))
theorem PL_PH {i : Int} : ∀ a j, PL (hc + 10) i a j → PH hc a j := fun a j z => by unfold PL at z; exact Or.inr (by omega)
def PMi (hc : Nat) (a j : Nat) : Prop := (a = 3 ∧ j = 2) ∨ (a = hc + 10 ∧ j = 2) ∨ a = hc + 11
def QMi (a j : Nat) : Prop := (a = 203 ∧ j = 29) ∨ a = 224 ∨ a = 225 ∨ (221 ≤ a ∧ a ≤ 223 ∧ half a ≤ j)
theorem HR_missed {c d c' d' : Mm} (H : HR hc c d) (G : FXc (PMi hc) c c') (G' : FXm QMi d d') (L : LwR c' hc d') : HR hc c' d' := by
  obtain ⟨h1, h2, h3, h4, h5, h6, h7, -⟩ := H
  have nQ : ∀ a j, a ≤ 220 → (a ≠ 203) → ¬ QMi a j := fun a j z z2 => by unfold QMi; omega
  have e205 : d' 205 = d 205 := gmr G' (by omega) (fun j => nQ _ _ (by omega) (by omega))
  refine ⟨h1, ?_, ?_, ?_, ?_, ?_, ?_, L⟩
  · rw [gc G (by omega) (by unfold PMi; omega)]; exact h2
  · exact NmX_fx h3 G G' h1 (fun k j z => by unfold PMi; omega) (fun j z => by unfold PMi; omega) (fun j z => by unfold PMi; omega) (fun j z => by unfold PMi; omega) (fun j z => nQ _ _ (by omega) (by omega)) (fun j z => nQ _ _ (by omega) (by omega)) (fun j z => nQ _ _ (by omega) (by omega)) (fun j z => nQ _ _ (by omega) (by omega))
  · rw [gc G (by omega) (by unfold PMi; omega), gc G (by omega) (by unfold PMi; omega), e205]; exact h4
  · exact PaR_congr h5 (gcr G (by omega) (fun j => by unfold PMi; omega)) (gmr G' (by omega) (fun j => nQ _ _ (by omega) (by omega))) (by rw [e205]; omega)
  · rw [e205]
    exact HR_wk h6 G G' h1 (fun a j a0 a1 => by unfold PMi; omega) (fun a j a0 a1 => nQ _ _ (by omega) (by omega)) (fun j a1 => nQ _ _ (by omega) (by omega)) (fun a j a0 a1 => nQ _ _ (by omega) (by omega)) (by rw [e205]; omega) (by rw [e205]; omega)
  · rw [e205]
    exact HR_ho h7 G G' h1 (fun a j a0 a1 a2 => by unfold PMi; omega) (fun a j a0 a1 a2 => nQ _ _ (by omega) (by omega)) (by rw [e205]; omega) (by rw [e205]; omega)
theorem missed_line {c d : Mm} (h : TkR c d) (hk : ¬ c 1 6 = 1) (hH : HR hc c d) : LR hc c d (fn_HillsReader_readMissed c) (fn_Model_readsMissed d) := by
  have h1 := hH.1
  obtain ⟨l221, l⟩ := hH.2.2.2.2.2.2.2
  unfold fn_HillsReader_readMissed fn_Model_readsMissed
  rw [tn1]
  rcases l with ⟨l3, l222, l29, lc, lz⟩ | ⟨l3, l222, -⟩
  · have hT0 : TkR (mst c 3 2 1) d := Tk_congr h (mst_ne (by omega)) (mst_ne (by omega)) rfl rfl
    have hk0 : ¬ mst c 3 2 1 1 6 = 1 := by rw [mst_ne (by omega)]; exact hk
    obtain ⟨c1, d1, u1, u2, u3, g1, g2, e11, g7, g8⟩ := Tk_go hT0 hk0
    have e31 : c1 3 1 = (hc : Int) := by rw [g1.1 _ (by omega), mst_miss (by omega)]; exact hH.2.1
    have hK : isK 0 (c1 3 1) = true := isK0 (by omega)
    have e3 : (c1 3 1).toNat = hc := by omega
    have e31' : mst c1 (hc + 10) 2 0 3 1 = (hc : Int) := by rw [mst_ne (by omega)]; exact e31
    have hK' : isK 0 (mst c1 (hc + 10) 2 0 3 1) = true := isK0 (by omega)
    have e3' : (mst c1 (hc + 10) 2 0 3 1).toNat = hc := by omega
    have q29 : d1 203 29 = 1000 := by rw [g2.2 29 (by omega)]; exact l29
    unfold fn_Law_clear fn_Model_reads fn_Law_readLevel
    rw [if_pos l3, bn_eq, u1, bd_some, if_pos hK, e3, bn_eq, bd_some, if_pos hK', e3', if_neg (by omega : ¬ d 221 1 < d 222 1), u2, bd_some, q29, bn_eq, tn0, bn_eq]
    have c7 : mst c 3 2 1 1 7 = c 1 7 := by rw [mst_ne (by omega)]
    rw [c7] at g7
    have c11 : mst c 3 2 1 1 1 = c 1 1 := by rw [mst_ne (by omega)]
    rw [c11] at e11
    have hpos : 0 ≤ c 1 7 := h.2.2.2.1
    have m17 : mst c1 (hc + 10) 2 0 1 = c1 1 := mst_ne (by omega)
    have P : LPre (hc + 10) (mst c1 (hc + 10) 2 0) (mst (mst d1 221 1 1000) 225 0 0) 0 0 FU 0 := by
      refine ⟨Tk_congr u3 m17 (mst_ne (by omega)) (by rw [mst_ne (by omega), mst_ne (by omega)]) (by rw [mst_ne (by omega), mst_ne (by omega)]), ⟨mst_hit, by omega, ?_⟩, ⟨?_, by omega, ?_⟩, ?_, by omega, by omega⟩
      · rw [m17]; omega
      · rw [mst_ne (by omega), mst_ne (by omega)]; omega
      · rw [m17]; omega
      · rw [m17]; show (1100 : Int) ≤ ((2000 : Nat) : Int) + _; omega
    have GC : FXc (PMi hc) c (mst c1 (hc + 10) 2 0) := FXc_trans (FXc_trans (FXc_m (Or.inl ⟨rfl, rfl⟩)) (FXc_p g1)) (FXc_m (Or.inr (Or.inl ⟨rfl, rfl⟩)))
    have GM : FXm QMi d (mst (mst d1 221 1 1000) 225 0 0) := FXm_trans (FXm_trans (FXm_p g2) (FXm_m (Or.inr (Or.inr (Or.inr ⟨by omega, by omega, by show 1 ≤ 1; omega⟩))))) (FXm_m (Or.inr (Or.inr (Or.inl rfl))))
    have pp : ∀ a j, PMi hc a j → PH hc a j := fun a j z => by unfold PMi at z; unfold PH; omega
    have qq : ∀ a j, QMi a j → QH a j := fun a j z => by
      rcases z with z | z | z | ⟨z1, z2, z3⟩
      · exact Or.inl (Or.inl z)
      · exact Or.inl (Or.inr (Or.inl z))
      · exact Or.inl (Or.inr (Or.inr z))
      · exact Or.inr ⟨by omega, z2, z3⟩
    have pl : ∀ i a j, PL (hc + 10) i a j → PMi hc a j := fun i a j z => by unfold PL at z; unfold PMi; omega
    have ql : ∀ x dp cb a j, 0 ≤ x → QL x dp cb a j → QMi a j := fun x dp cb a j x0 z => by
      rcases z with z | ⟨rfl, z⟩ | ⟨z, -⟩ | ⟨z, -⟩
      · exact Or.inl z
      · exact Or.inr (Or.inr (Or.inr ⟨by omega, by omega, by show 1000 ≤ j; omega⟩))
      · exact Or.inr (Or.inl z)
      · exact Or.inr (Or.inr (Or.inl z))
    have hth : hc + 10 = 14 ∨ hc + 10 = 51 := by omega
    rcases ((rc_ok hth 40).1 0 0 (by decide) (by decide) (by decide) (by decide) (by decide)) _ _ 0 0 FU P (Or.inl rfl) (fun _ => mst_hit) with ⟨c3, d3, k3, i3, x3, v, w1, w2, w3, w4, w5, w6, ⟨w7, w8⟩, ⟨w9, w10, w11⟩, w12, w13, w14, w15⟩ | ⟨c3, d3, w1, w2, w3, w4, w5⟩
    · have hi3 := w12.1
      have hx3 := SemL_lt w13
      have c3r : c3 1 7 ≤ 1000 := by
        have := w5.1.2.2.1
        have := w5.2.2.2.2
        omega
      rw [m17] at w6 w9 w10 w11
      obtain ⟨k3, rfl⟩ : ∃ t, k3 = t + 1 := ⟨k3 - 1, by have : FU = 2000 := rfl; omega⟩
      have hN : NoOp c3 d3 0 := ⟨w15.1 (by decide), w15.2.1 (by decide), w15.2.2.1 (by decide), w15.2.2.2 (by decide)⟩
      have eT := to304 (k := k3) w5 (by omega) (by omega) hN
      have eT2 : lp_Model_reads_11 (k3 + 1) 0 0 d3 = bo_Model_reads_399 0 d3 := by
        rw [eT]
        split
        · rfl
        · rw [if_neg (by decide : ¬ (0 : Int) < 0)]
      unfold fn_Tape_takeSign
      rw [w1, w2, bd_some, if_neg (by decide : ¬ (1 : Int) = 0), eT2, (sign_sb w5).1, bd_some]
      unfold bo_Model_reads_399 bo_Model_reads_418
      rw [if_pos rfl, (sign_sb w5).2, bd_some]
      have GC3 : FXc (PMi hc) c c3 := FXc_trans GC (FXc_mono w3 (pl 0))
      have GM3 : FXm QMi d d3 := FXm_trans GM (FXm_mono w4 (fun a j z => ql _ _ _ a j (by omega) z))
      by_cases y59 : sb 59 c3 = 0
      · obtain ⟨c5, d5, t1, t2, t3, t4, t5⟩ := wrong_ok (p := 1) w5 (by omega) (by omega)
        rw [if_pos y59, if_pos y59, t1, t2, bd_some, bd_some, if_pos (Or.inl rfl), if_pos (Or.inl rfl), bd_some, bd_some, if_pos rfl, if_pos rfl]
        exact ⟨0, c5, d5, rfl, rfl, FXc_mono (FXc_trans GC3 (FXc_p t3)) pp, FXm_mono (FXm_trans GM3 (FXm_p t4)) qq, Or.inr ⟨rfl, t5⟩⟩
      · have y1 : sb 59 c3 = 1 := sb_01.resolve_left y59
        have hkd3 : ¬ c3 1 6 = 1 := by have := sb_kind y1; omega
        obtain ⟨c4, d4, r1, r2, r3, r4, r5, r6, r7, r8⟩ := Tk_go w5 hkd3
        have q29' : d4 203 29 = 1000 + x3 := by rw [r5.2 29 (by omega)]; exact w8
        rw [if_neg y59, if_neg y59, r1, r2, bd_some, bd_some, bd_some, bd_some, if_neg (by decide : ¬ (1 : Int) = 0), if_neg (by decide : ¬ (1 : Int) = 0), q29', bn_eq]
        have GC4 : FXc (PMi hc) c c4 := FXc_trans GC3 (FXc_p r4)
        have GM4 : FXm QMi d (mst d4 222 1 (1000 + x3)) := FXm_trans (FXm_trans GM3 (FXm_p r5)) (FXm_m (Or.inr (Or.inr (Or.inr ⟨by omega, by omega, by show 1 ≤ 1; omega⟩))))
        refine ⟨1, c4, _, rfl, rfl, FXc_mono GC4 pp, FXm_mono GM4 qq, Or.inl ⟨rfl, Tk_congr r3 rfl rfl (mst_ne (by omega)) (mst_ne (by omega)), ?_, HR_missed hH GC4 GM4 ?_, by omega⟩⟩
        · rw [r6, w6, e11]
        · have er : c4 (hc + 10 + 1) = c3 (hc + 10 + 1) := r4.1 _ (by omega)
          have sC : SemC (hc + 10) (c4 (hc + 10 + 1)) 0 i3 64 v := by
            rw [er]
            exact SemC_h w12 (by decide)
          have sA : SemA 0 (fun t => mst d4 222 1 (1000 + x3) 223 (1000 + t)) 0 x3 v := by
            rw [mst_ne (by decide), r5.1 _ (by omega)]
            exact w13
          refine ⟨?_, Or.inr ⟨?_, ?_, ?_, v, SemC_law sC ?_ (by omega), SemA_law sA mst_hit (by omega)⟩⟩
          · rw [mst_ne (by omega), r5.1 _ (by omega), gm w4 (by omega) (by unfold QL; omega), mst_ne (by omega), mst_hit]
          · rw [r4.1 _ (by omega), gc w3 (by omega) (by unfold PL; omega), mst_ne (by omega), g1.1 _ (by omega), mst_hit]
          · rw [mst_hit]; omega
          · rw [mst_hit]; omega
          · rw [r4.1 _ (by omega)]; exact w7
    · rw [w1, w2, bd_some, bd_some, if_pos rfl, if_pos rfl]
      exact ⟨0, c3, d3, rfl, rfl, FXc_mono (FXc_trans GC (FXc_mono w3 (pl 0))) pp, FXm_mono (FXm_trans GM (FXm_mono w4 (fun a j z => ql _ _ _ a j (by omega) z))) qq, Or.inr ⟨rfl, w5⟩⟩
  · obtain ⟨c', d', w1, w2, w3, w4, w5⟩ := wrong_ok (p := 3) h (by omega) (by omega)
    rw [if_neg (by omega : ¬ c 3 2 = 0), if_pos (by omega : d 221 1 < d 222 1), w1, w2, bd_some, bd_some, if_pos (Or.inl rfl), if_pos (Or.inl rfl)]
    exact ⟨0, c', d', rfl, rfl, FXc_p w3, FXm_p w4, Or.inr ⟨rfl, w5⟩⟩
end Mi
