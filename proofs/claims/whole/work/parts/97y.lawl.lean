/-! Reading a law: a level. -/
section Ll
theorem nol_down {L dp : Int} {c d : Mm} (h : NoL (L + 1) c d dp) (l0 : 0 ≤ L) (l3 : L ≤ 3) (ho : opr L c = -1 ∨ (L = 1 ∧ d 225 dp.toNat = 1)) : NoL L c d dp := by
  obtain ⟨n3, n2, n1, n0⟩ := h
  refine ⟨fun z => ?_, fun z => ?_, fun z => ?_, fun z => ?_⟩
  · by_cases y : L = 3
    · subst y; exact ho.resolve_right (by omega)
    · exact n3 (by omega)
  · by_cases y : L = 2
    · subst y; exact ho.resolve_right (by omega)
    · exact n2 (by omega)
  · by_cases y : L = 1
    · subst y; exact ho.imp id (fun q => q.2)
    · exact n1 (by omega)
  · have y : L = 0 := by omega
    subst y; exact ho.resolve_right (by omega)
theorem lift_ok {L D a b : Int} {r : Nat → Int} {v : VL} (h : SemL (L + 1) D r a b v) (hv : rngV v) (l0 : 0 ≤ L) (l3 : L ≤ 3) (d0 : 0 ≤ D) (d1 : D ≤ 6) : SemL L D r a b v := by
  have hL : L = 0 ∨ L = 1 ∨ L = 2 ∨ L = 3 := by omega
  rcases hL with rfl | rfl | rfl | rfl
  · exact SemA_test h
  · exact SemE_sum h
  · exact SemS_prod h hv
  · exact SemT_part h d0 d1
theorem comb {L D a b e co : Int} {r : Nat → Int} {v w : VL} (hL : L = 0 ∨ L = 2 ∨ L = 3) (g : SemL L D r a b v) (hr : r b.toNat = mop co) (hc : (L = 0 ∧ (co = -6 ∨ co = -7)) ∨ (L = 1 ∧ (co = -8 ∨ co = -9)) ∨ (L = 2 ∧ (co = -10 ∨ co = -11)) ∨ (L = 3 ∧ co = -12)) (g' : SemL (L + 1) D r (b + 1) e w) (d0 : 0 ≤ D) (d1 : D ≤ 6) : SemL L D r a e (fun o s y => wor co (v o s y) (w o s y)) := by
  rcases hL with rfl | rfl | rfl
  · have ho : co = -6 ∨ co = -7 := by omega
    rcases ho with rfl | rfl
    · exact SemA_and (op := 26) g (Or.inl ⟨rfl, rfl⟩) hr g' d0 d1
    · exact SemA_and (op := 27) g (Or.inr ⟨rfl, rfl⟩) hr g' d0 d1
  · have ho : co = -10 ∨ co = -11 := by omega
    rcases ho with rfl | rfl
    · exact SemS_add (op := 20) g (Or.inl ⟨rfl, rfl⟩) hr g' d0 d1
    · exact SemS_add (op := 21) g (Or.inr ⟨rfl, rfl⟩) hr g' d0 d1
  · have ho : co = -12 := by omega
    subst ho
    exact SemT_times g hr g' d0 d1
theorem comb1 {D a b e co : Int} {r : Nat → Int} {v w : VL} (g : SemL 2 D r a b v) (hr : r b.toNat = mop co) (hc : co = -8 ∨ co = -9) (g' : SemL 2 D r (b + 1) e w) (d0 : 0 ≤ D) (d1 : D ≤ 6) : SemL 1 D r a e (fun o s y => wor co (v o s y) (w o s y)) := by
  rcases hc with rfl | rfl
  · exact SemE_cmp (op := 24) g (Or.inl ⟨rfl, rfl⟩) hr g' d0 d1
  · exact SemE_cmp (op := 25) g (Or.inr ⟨rfl, rfl⟩) hr g' d0 d1
theorem hh_1 {L dp : Int} (d5 : dp ≤ 5) (l : L ≤ 3) : hh (L + 1) dp + 1 ≤ hh L dp ∧ 1 ≤ hh (L + 1) dp := by
  unfold hh
  omega
/-- the row of codes of the reference, where a later one leaves it -/
theorem rowM_keep {d d' : Mm} {x dp cb : Int} (g : FXm (QL x dp cb) d d') (t : Int) (t0 : 0 ≤ t) (t1 : t < x) : rowM d' t.toNat = rowM d t.toNat := by
  show d' 223 (1000 + t.toNat) = d 223 (1000 + t.toNat)
  exact gm g (by omega) (by unfold QL; omega)
theorem rowC_keep {c c' : Mm} {th : Nat} {i : Int} (g : FXc (PL th i) c c') (hth : th = 14 ∨ th = 51) (t : Int) (t0 : 0 ≤ t) (t1 : t < i) : c' (th + 1) t.toNat = c (th + 1) t.toNat := gc g (by omega) (by unfold PL; omega)
theorem lvl_loop {kr0 : Nat → Int → Int → Mm → Res} {kr1 : Nat → Int → Mm → Res} {th : Nat} {L dp i x : Int} {k : Nat} {c d : Mm} (hth : th = 14 ∨ th = 51) (hL : L = 0 ∨ L = 2 ∨ L = 3) (HL : HLv kr0 th (L + 1) dp) (P : LPre th c d i x k dp) (hB : dp = 0 ∨ d 224 dp.toNat ≠ 1) : ∀ (j m : Nat) (c1 d1 : Mm) (k1 : Nat) (i1 x1 v4 : Int) (v : VL), 1000 - c1 1 7 < j → j ≤ m → 0 ≤ v4 → v4 < c1 1 7 →
    FXc (PL th i) c c1 → FXm (QL x dp (cbL L dp)) d d1 → TkR c1 d1 → c1 1 1 = c 1 1 → (c1 th 2 = i1 ∧ d1 203 29 = 1000 + x1) → (i1 - i ≤ c1 1 7 - c 1 7 ∧ x1 - x ≤ c1 1 7 - c 1 7 ∧ (k : Int) + c 1 7 ≤ k1 + c1 1 7) → SemC th (c1 (th + 1)) i i1 (hh L dp) v → SemL L dp (rowM d1) x x1 v → rngV v → NoL (L + 1) c1 d1 dp →
    LSuc th L dp dp i x k c d (lp_Law_readLevel_29 kr0 kr1 th L dp m v4 c1) (lp_Model_reads_11 k1 dp 0 d1) ∨ LFai th c d (lp_Law_readLevel_29 kr0 kr1 th L dp m v4 c1) (lp_Model_reads_11 k1 dp 0 d1) := by
  obtain ⟨hT, ⟨i2, i0, i7⟩, ⟨x29, x0, x7⟩, hk, dp0, dp5⟩ := P
  intro j
  induction j with
  | zero =>
    intro m c1 d1 k1 i1 x1 v4 v h1 h2 h3 h4 f1 f2 t
    have := t.1.2.2.1
    have := t.2.2.2.2
    omega
  | succ j ih =>
    intro m c1 d1 k1 i1 x1 v4 v h1 h2 h3 h4 f1 f2 t e11 ⟨e2, e29⟩ ⟨a1, a2, a3⟩ sC sL rv nl
    obtain ⟨m, rfl⟩ : ∃ t, m = t + 1 := ⟨m - 1, by omega⟩
    have c1r : c1 1 7 ≤ 1000 := by
      have := t.1.2.2.1
      have := t.2.2.2.2
      omega
    have hi := sC.1
    have hx := SemL_lt sL
    have l0 : 0 ≤ L := by omega
    have l3 : L ≤ 3 := by omega
    have eC : lp_Law_readLevel_29 kr0 kr1 th L dp (m + 1) v4 c1 = if opr L c1 = -1 then some (1, c1) else bo_Law_readLevel_62 kr0 kr1 th L dp (lp_Law_readLevel_29 kr0 kr1 th L dp m) v4 (opr L c1) c1 := by
      show bo_Law_readLevel_29 kr0 kr1 th L dp _ v4 c1 = _
      unfold bo_Law_readLevel_29
      rw [if_pos (by omega : v4 < 1000), opr_eq t l0 l3, bd_some, if_neg (by omega : ¬ L = 1)]
    rw [eC]
    by_cases y : opr L c1 = -1
    · rw [if_pos y]
      left
      exact ⟨c1, d1, k1, i1, x1, v, rfl, rfl, f1, f2, t, e11, ⟨e2, e29⟩, ⟨a1, a2, a3⟩, sC, sL, rv, nol_down nl l0 l3 (Or.inl y)⟩
    · rw [if_neg y]
      have P1 : LPre th c1 d1 i1 x1 k1 dp := ⟨t, ⟨e2, by omega, by omega⟩, ⟨e29, by omega, by omega⟩, by omega, dp0, dp5⟩
      have hB1 : dp = 0 ∨ d1 224 dp.toNat ≠ 1 := hB.imp id (fun z => by rw [gm f2 (by omega) (by unfold QL; omega)]; exact z)
      rcases one_op (kr1 := kr1) hth l0 l3 HL P1 hB1 y (fun z => by omega) (lp_Law_readLevel_29 kr0 kr1 th L dp m) v4 with ⟨c', d', k', i', x', w, w1, w2, w3, w4, w5, w6, ⟨w7, w8⟩, ⟨w9, w10, w11, w12⟩, w13, w14, w15, w16, w17, -⟩ | hf
      · rw [w1, w2, w32_in (x := v4 + 1) (by omega) (by omega)]
        have hi' := w13.1
        have hx' := SemL_lt w15
        have hco := opr_r l0 l3 y
        have hh' := hh_1 (L := L) (dp := dp) dp5 l3
        refine ih m c' d' k' (i' + 1) x' (v4 + 1) (fun o s y => wor (opr L c1) (v o s y) (w o s y)) (by omega) (by omega) (by omega) (by omega) (FXc_trans f1 (FXc_mono w3 (PL_mono (by omega)))) (FXm_trans f2 (FXm_mono w4 (QL_mono (by omega) (Int.le_refl _) (Int.le_refl _)))) w5 (w6.trans e11) ⟨w7, w8⟩ ⟨by omega, by omega, by omega⟩ ?_ ?_ rng_wor w17
        · refine SemC_bin (h' := hh (L + 1) dp) (j := i1) (SemC_congr sC i0 (fun t t0 t1 => rowC_keep w3 hth t (by omega) t1)) w13 hh'.1 hh'.2 w14 (by omega) (by omega)
        · refine comb hL (b := x1) (SemL_congr sL (fun t t0 t1 => rowM_keep w4 t (by omega) t1)) w16 hco w15 dp0 (by omega)
      · right
        refine LFai_tr f1 f2 i0 x0 dp0 ?_ hf
        unfold cbL
        split <;> omega
/-- a whole level -/
theorem lvl_ok {kr0 : Nat → Int → Int → Mm → Res} {kr1 : Nat → Int → Mm → Res} {th : Nat} {L dp : Int} (hth : th = 14 ∨ th = 51) (l0 : 0 ≤ L) (l3 : L ≤ 3) (HL : HLv kr0 th (L + 1) dp) : HLv (bm_Law_readLevel kr0 kr1) th L dp := by
  intro c d i x k P hB hcmp
  have hP := P
  obtain ⟨hT, ⟨i2, i0, i7⟩, ⟨x29, x0, x7⟩, hk, dp0, dp5⟩ := P
  have hh' := hh_1 (L := L) (dp := dp) dp5 l3
  unfold bm_Law_readLevel
  rw [if_neg (by omega : ¬ 3 < L), w32_in (x := L + 1) (by omega) (by omega)]
  rcases HL c d i x k hP hB (fun z => hcmp (by omega)) with ⟨c1, d1, k1, i1, x1, v, w1, w2, w3, w4, w5, w6, w7, w8, w9, w10, w11, w12⟩ | hf
  · rw [w1, w2, bd_some, if_neg (by decide : ¬ (1 : Int) = 0)]
    have c1r : c1 1 7 ≤ 1000 := by
      have := w5.1.2.2.1
      have := w5.2.2.2.2
      omega
    have hi := w9.1
    have hx := SemL_lt w10
    have f2 : FXm (QL x dp (cbL L dp)) d d1 := FXm_mono w4 (QL_mono (Int.le_refl _) (Int.le_refl _) (by unfold cbL; split <;> split <;> omega))
    by_cases z : L = 1
    · subst z
      have eC : ∀ m v4 c', 0 ≤ v4 → v4 < 1000 → TkR c' d1 ∨ True → lp_Law_readLevel_29 kr0 kr1 th 1 dp (m + 1) v4 c' = bo_Law_readLevel_29 kr0 kr1 th 1 dp (lp_Law_readLevel_29 kr0 kr1 th 1 dp m) v4 c' := fun _ _ _ _ _ _ => rfl
      have e0 : lp_Law_readLevel_29 kr0 kr1 th 1 dp FU 0 c1 = if opr 1 c1 = -1 then some (1, c1) else bo_Law_readLevel_62 kr0 kr1 th 1 dp (lp_Law_readLevel_29 kr0 kr1 th 1 dp 1999) 0 (opr 1 c1) c1 := by
        show bo_Law_readLevel_29 kr0 kr1 th 1 dp (lp_Law_readLevel_29 kr0 kr1 th 1 dp 1999) 0 c1 = _
        unfold bo_Law_readLevel_29
        rw [if_pos (by decide : (0 : Int) < 1000), opr_eq w5 (by decide) (by decide), bd_some, if_pos rfl, if_neg (by decide : ¬ (0 : Int) < 0)]
      rw [e0]
      by_cases y : opr 1 c1 = -1
      · rw [if_pos y]
        left
        exact ⟨c1, d1, k1, i1, x1, v, rfl, rfl, w3, f2, w5, w6, w7, w8, SemC_h w9 (by omega), SemE_sum w10, w11, nol_down w12 l0 l3 (Or.inl y)⟩
      · rw [if_neg y]
        have P1 : LPre th c1 d1 i1 x1 k1 dp := ⟨w5, ⟨w7.1, by omega, by omega⟩, ⟨w7.2, by omega, by omega⟩, by omega, dp0, dp5⟩
        have hB1 : dp = 0 ∨ d1 224 dp.toNat ≠ 1 := hB.imp id (fun z => by rw [gm w4 (by omega) (by unfold QL; omega)]; exact z)
        have hc1 : d1 225 dp.toNat = 0 := by
          rw [gm w4 (by omega) (by unfold QL cbL; rw [if_neg (by decide)]; omega)]
          exact hcmp (by omega)
        rcases one_op (kr1 := kr1) hth l0 l3 HL P1 hB1 y (fun _ => hc1) (lp_Law_readLevel_29 kr0 kr1 th 1 dp 1999) 0 with ⟨c', d', k', i', x', w, u1, u2, u3, u4, u5, u6, ⟨u7, u8⟩, ⟨u9, u10, u11, u12⟩, u13, u14, u15, u16, u17, u18⟩ | hf
        · have hi' := u13.1
          have hx' := SemL_lt u15
          have hco : opr 1 c1 = -8 ∨ opr 1 c1 = -9 := by
            have := opr_r l0 l3 y
            omega
          have e1 : lp_Law_readLevel_29 kr0 kr1 th 1 dp 1999 (w32 (0 + 1)) c' = some (1, c') := by
            show bo_Law_readLevel_29 kr0 kr1 th 1 dp _ (w32 (0 + 1)) c' = _
            unfold bo_Law_readLevel_29
            rw [w32_in (x := 0 + 1) (by omega) (by omega), if_pos (by decide : (0 : Int) + 1 < 1000), opr_eq u5 (by decide) (by decide), bd_some, if_pos rfl, if_pos (by decide : (0 : Int) < 0 + 1)]
            split <;> rfl
          rw [u1, u2, e1]
          left
          refine ⟨c', d', k', i' + 1, x', _, rfl, rfl, FXc_trans w3 (FXc_mono u3 (PL_mono (by omega))), FXm_trans f2 (FXm_mono u4 (QL_mono (by omega) (Int.le_refl _) (Int.le_refl _))), u5, u6.trans w6, ⟨u7, u8⟩, ⟨by omega, by omega, by omega⟩, ?_, ?_, rng_wor (co := opr 1 c1) (v := v) (w := w), nol_down u17 l0 l3 (Or.inr ⟨rfl, u18 rfl⟩)⟩
          · exact SemC_bin (h' := hh (1 + 1) dp) (j := i1) (SemC_h (SemC_congr w9 i0 (fun t t0 t1 => rowC_keep u3 hth t (by omega) t1)) (by omega)) u13 hh'.1 hh'.2 u14 (by omega) (by omega)
          · exact comb1 (b := x1) (SemL_congr w10 (fun t t0 t1 => rowM_keep u4 t (by omega) t1)) u16 hco u15 dp0 (by omega)
        · right
          refine LFai_tr w3 f2 i0 x0 dp0 ?_ hf
          unfold cbL
          split <;> omega
    · refine lvl_loop hth (by omega) HL hP hB 1001 FU c1 d1 k1 i1 x1 0 v (by omega) (by decide) (by omega) (by omega) w3 f2 w5 w6 w7 w8 (SemC_h w9 (by omega)) (lift_ok w10 w11 l0 l3 dp0 (by omega)) w11 w12
  · right
    obtain ⟨c', d', w1, w2, w3⟩ := hf
    rw [w1, w2, bd_some, if_pos rfl]
    exact ⟨c', d', rfl, rfl, w3⟩
end Ll
