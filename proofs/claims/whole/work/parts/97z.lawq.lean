/-! Reading a law: a part. -/
section Lq
def HPt (kr1 : Nat → Int → Mm → Res) (th : Nat) (dp : Int) : Prop := ∀ (b : Int) (c d : Mm) (i x : Int) (k : Nat), LPre th c d i x k dp → Unw d dp b → LSuc th 4 dp b i x k c d (kr1 th dp c) (lp_Model_reads_11 k dp 1 d) ∨ LFai th c d (kr1 th dp c) (lp_Model_reads_11 k dp 1 d)
theorem NoL_4 {c d : Mm} {dp : Int} : NoL 4 c d dp := ⟨fun z => by omega, fun z => by omega, fun z => by omega, fun z => by omega⟩
theorem LFai_w {th : Nat} {c d : Mm} {p : Int} (h : TkR c d) (p0 : 1 ≤ p) (p1 : p ≤ 5) : ∃ c' d', fn_Tape_wrong p c = some (0, c') ∧ fn_Model_fails p d = some (0, d') ∧ LFai th c d (some (0, c')) (some (0, d')) := by
  obtain ⟨c', d', w1, w2, w3, w4, w5⟩ := wrong_ok h p0 p1
  exact ⟨c', d', w1, w2, c', d', rfl, rfl, FXc_p w3, FXm_p w4, w5⟩
/-- the model at a part -/
theorem dspP {c d : Mm} {dp : Int} {k : Nat} (h : TkR c d) : lp_Model_reads_11 (k + 1) dp 1 d = if fct (c 1 2) = 0 then (if c 1 2 = -25 then bo_Model_reads_65 (lp_Model_reads_11 k) dp 1 0 1 0 d else if sb 40 c = 0 then (if d 203 6 = 2 then bo_Model_reads_65 (lp_Model_reads_11 k) dp 1 0 0 0 d else bo_Model_reads_59 d) else bo_Model_reads_65 (lp_Model_reads_11 k) dp 1 0 0 1 d) else bo_Model_reads_65 (lp_Model_reads_11 k) dp 1 (fct (c 1 2)) 0 0 d := by
  show bo_Model_reads_11 _ dp 1 d = _
  unfold bo_Model_reads_11
  have e1 := m_isW (k := 23) (x := 10631) (w := -25) h (by decide) rfl (by decide)
  rw [if_neg (by decide : ¬ (1 : Int) = 0), fact_eq h, bd_some, e1, bd_some, (sign_sb h).2, bd_some]
  by_cases y : fct (c 1 2) = 0
  · rw [if_pos y, if_pos y, y]
    by_cases z : c 1 2 = -25
    · have s0 : sb 40 c = 0 := word_sb h (by omega)
      rw [if_pos z, if_pos z, if_neg (by decide : ¬ (1 : Int) = 0), s0]
    · rw [if_neg z, if_neg z, if_pos rfl]
      by_cases s : sb 40 c = 0
      · rw [if_pos s, if_pos s, s]
      · have s1 : sb 40 c = 1 := sb_01.resolve_left s
        rw [if_neg s, if_neg s, s1]
  · have hw : c 1 2 ≠ -1 ∧ ¬ c 1 2 = -25 := by
      unfold fct at y
      constructor
      · intro q; rw [q] at y; exact y rfl
      · intro q; rw [q] at y; exact y rfl
    have s0 : sb 40 c = 0 := word_sb h hw.1
    rw [if_neg y, if_neg y, if_neg hw.2, s0]
theorem part_ok {kr0 : Nat → Int → Int → Mm → Res} {kr1 : Nat → Int → Mm → Res} {th : Nat} {dp : Int} (hth : th = 14 ∨ th = 51) (H0 : dp < 5 → HLv kr0 th 0 (dp + 1)) (H1 : dp < 5 → HPt kr1 th (dp + 1)) : HPt (bm_Law_readPart kr0 kr1) th dp := by
  intro b c d i x k P hU
  obtain ⟨hT, ⟨i2, i0, i7⟩, ⟨x29, x0, x7⟩, hk, dp0, dp5⟩ := P
  obtain ⟨U1, U2, U3, U4⟩ := hU
  have h1000 : c 1 7 ≤ 1000 := by
    have := hT.1.2.2.1
    have := hT.2.2.2.2
    omega
  obtain ⟨k, rfl⟩ : ∃ t, k = t + 1 := ⟨k - 1, by omega⟩
  rw [dspP hT]
  unfold bm_Law_readPart bo_Law_readPart_22
  rw [(sign_sb hT).1, bd_some, leaf_eq, bd_some, bd_some]
  obtain ⟨cw, dw, a1, a2, a3⟩ := LFai_w (th := th) (p := 1) hT (by omega) (by omega)
  obtain ⟨cv, dv, b1, b2, b3⟩ := LFai_w (th := th) (p := 5) hT (by omega) (by omega)
  have tooC : ∀ v3 v4 v5, ¬ dp < 5 → bo_Law_readPart_51 kr0 kr1 th dp v3 v4 v5 c = some (0, cv) := fun v3 v4 v5 hd => by
    unfold bo_Law_readPart_51
    rw [if_neg hd, b1, bd_some, if_pos (Or.inl rfl)]
  have tooM : ∀ k11 v2 v3 v4 v5, ¬ dp < 5 → bo_Model_reads_65 k11 dp v2 v3 v4 v5 d = some (0, dv) := fun k11 v2 v3 v4 v5 hd => by
    unfold bo_Model_reads_65 bo_Model_reads_70
    rw [if_pos (by omega), b2, bd_some, if_pos (Or.inl rfl)]
  -- a fact or a number
  have leafC : ∀ (z co : Int) (v : VL), ¬ c 1 6 = 1 → sb 40 c = 0 → ¬ c 1 2 = -25 → lef c = z → ((100 ≤ co ∧ co ≤ 20000 ∧ v = fun _ _ _ => co - 100) ∨ (co = 1 ∧ v = fun o _ _ => o) ∨ (co = 2 ∧ v = fun _ s _ => s) ∨ (co = 3 ∧ v = fun _ _ y => y)) → ((0 ≤ z ∧ v = fun _ _ _ => z) ∨ (z = -2 ∧ v = fun o _ _ => o) ∨ (z = -3 ∧ v = fun _ s _ => s) ∨ (z = -4 ∧ v = fun _ _ y => y)) → rngV v →
      ∀ om, (dp < 5 → om = bo_Model_reads_147 (lp_Model_reads_11 k) dp co d) → (¬ dp < 5 → om = some (0, dv)) →
      LSuc th 4 dp b i x (k + 1) c d (bo_Law_readPart_51 kr0 kr1 th dp 0 0 z c) om ∨ LFai th c d (bo_Law_readPart_51 kr0 kr1 th dp 0 0 z c) om := by
    intro z co v hkd s0 nw hl hco hz rv om o1 o2
    by_cases hd : dp < 5
    · left
      obtain ⟨c1, d1, u1, -, -, g1, -, e11, g7, g8⟩ := Tk_go hT hkd
      have x1 : x < 1000 := by omega
      have hT2 := Tk_put (x := x) (z := co) hT
      obtain ⟨c1', d2, u1', u2, u3, g1', g2, -, -, -⟩ := Tk_go hT2 hkd
      rw [u1] at u1'
      injection u1' with u1'
      injection u1' with _ u1'
      subst u1'
      have eM : om = lp_Model_reads_11 k b 0 d2 := by
        rw [o1 hd]
        unfold bo_Model_reads_147
        have hU' : Unw (mst (mst d 223 (1000 + x).toNat co) 203 29 (1000 + x + 1)) dp b := by
          unfold Unw
          rw [mst_ne (by decide : (224 : Nat) ≠ 203), mst_ne (by decide : (224 : Nat) ≠ 223)]
          exact ⟨U1, U2, U3, U4⟩
        rw [puts_eq x29 x0 x1, bd_some, unw152 (dp - b).toNat FU dp (by omega) (by show (dp - b).toNat < 2000; omega) (by omega) hU']
        unfold bo_Model_reads_172
        rw [u2, bd_some]
      have ec : c1 th 2 = i := by rw [g1.1 _ (by omega)]; exact i2
      have eC : bo_Law_readPart_51 kr0 kr1 th dp 0 0 z c = some (1, mst (mst c1 (th + 1) i.toNat z) th 2 (i + 1)) := by
        unfold bo_Law_readPart_51 bo_Law_readPart_115 bo_Law_readPart_128
        rw [if_pos hd, u1, bd_some, if_pos rfl, if_pos rfl, if_pos rfl, put_eq ec i0 (by omega), bd_some]
      have m1 : mst (mst c1 (th + 1) i.toNat z) th 2 (i + 1) 1 = c1 1 := by rw [mst_ne (by omega), mst_ne (by omega)]
      have m2 : mst (mst c1 (th + 1) i.toNat z) th 2 (i + 1) 2 = c1 2 := by rw [mst_ne (by omega), mst_ne (by omega)]
      refine ⟨_, d2, k, i + 1, x + 1, v, eC, eM, ?_, ?_, Tk_congr u3 m1 m2 rfl rfl, ?_, ⟨mst_hit, ?_⟩, ⟨?_, ?_, ?_⟩, ?_, ?_, rv, NoL_4⟩
      · exact FXc_trans (FXc_trans (FXc_p g1) (FXc_m (Or.inr ⟨rfl, by omega⟩))) (FXc_m (Or.inl ⟨rfl, rfl⟩))
      · exact FXm_trans (FXm_trans (FXm_m (Or.inr (Or.inl ⟨rfl, by omega⟩))) (FXm_m (Or.inl ⟨rfl, rfl⟩))) (FXm_p g2)
      · rw [m1]; exact e11
      · rw [g2.2 29 (by omega), mst_hit]; omega
      · rw [m1]; omega
      · rw [m1]; omega
      · rw [m1]; omega
      · have q : mst (mst c1 (th + 1) i.toNat z) th 2 (i + 1) (th + 1) i.toNat = z := by rw [mst_ne (by omega), mst_hit]
        exact SemC_h (SemC_leaf q hz) (by unfold hh; omega)
      · refine SemP_leaf (x := co) ?_ hco (by omega)
        show d2 223 (1000 + x.toNat) = co
        have ex : 1000 + x.toNat = (1000 + x).toNat := by omega
        rw [ex, g2.1 _ (by omega), mst_ne (by decide), mst_hit]
    · right
      rw [tooC _ _ _ hd, o2 hd]
      exact b3
  by_cases yn : c 1 2 = -25
  · -- a denial
    have s0 : sb 40 c = 0 := word_sb hT (by omega)
    have f0 : fct (c 1 2) = 0 := by rw [yn]; rfl
    have hkd : ¬ c 1 6 = 1 := by
      obtain ⟨s, h1, h2, h3, h4, h5, h6⟩ := hT
      omega
    rw [if_pos yn, if_pos f0, if_pos yn, s0, if_pos rfl, if_neg (by decide : ¬ (1 : Int) = 0)]
    by_cases hd : dp < 5
    · have x1 : x < 1000 := by
        obtain ⟨c1, d1, u1, -, -, g1, -, e11, g7, g8⟩ := Tk_go hT hkd
        omega
      have hT2 : TkR c (mst (mst (mst (mst d 223 (1000 + x).toNat 30) 203 29 (1000 + x + 1)) 224 (dp + 1).toNat 1) 225 (dp + 1).toNat 0) := Tk_congr (Tk_put (x := x) (z := 30) hT) rfl rfl (by rw [mst_ne (by decide), mst_ne (by decide)]) (by rw [mst_ne (by decide), mst_ne (by decide)])
      obtain ⟨c1, d2, u1, u2, u3, g1, g2, e11, g7, g8⟩ := Tk_go hT2 hkd
      have G2 : FXm (QL x dp (cbL 4 dp)) d d2 := FXm_trans (FXm_trans (FXm_trans (FXm_trans (FXm_m (Or.inr (Or.inl ⟨rfl, by omega⟩))) (FXm_m (Or.inl ⟨rfl, rfl⟩))) (FXm_m (Or.inr (Or.inr (Or.inl ⟨rfl, by omega⟩))))) (FXm_m (Or.inr (Or.inr (Or.inr ⟨rfl, by unfold cbL; rw [if_neg (by decide)]; omega⟩))))) (FXm_p g2)
      have eM : bo_Model_reads_65 (lp_Model_reads_11 k) dp 1 0 1 0 d = lp_Model_reads_11 k (dp + 1) 1 d2 := by
        unfold bo_Model_reads_65 bo_Model_reads_86 bo_Model_reads_99 bo_Model_reads_120 bo_Model_reads_172
        rw [if_neg (by omega : ¬ dp = 5), if_neg (by decide : ¬ (1 : Int) = 0), if_neg (by decide : ¬ (1 : Int) = 0), puts_eq x29 x0 x1, bd_some, if_neg (by decide : ¬ (1 : Int) = 0), w32_in (x := dp + 1) (by omega) (by omega), if_pos (by omega : 0 ≤ dp + 1 ∧ dp + 1 < 7), bn_eq, if_pos (by omega : 0 ≤ dp + 1 ∧ dp + 1 < 7), bn_eq, u2, bd_some]
      have q29 : d2 203 29 = 1000 + (x + 1) := by rw [g2.2 29 (by omega), mst_ne (by decide), mst_ne (by decide), mst_hit]; omega
      have q224 : ∀ j : Nat, (j : Int) ≤ dp → d2 224 j = d 224 j := fun j hj => gm G2 (by omega) (by unfold QL; omega)
      have q224' : d2 224 (dp + 1).toNat = 1 := by rw [g2.1 _ (by omega), mst_ne (by decide), mst_hit]
      have ec : c1 th 2 = i := by rw [g1.1 _ (by omega)]; exact i2
      have P1 : LPre th c1 d2 i (x + 1) k (dp + 1) := ⟨u3, ⟨ec, i0, by omega⟩, ⟨q29, by omega, by omega⟩, by omega, by omega, by omega⟩
      have hU1 : Unw d2 (dp + 1) b := by
        refine ⟨U1, by omega, fun t t0 t1 => ?_, U4.imp id (fun z => by rw [q224 _ (by omega)]; exact z)⟩
        by_cases e : t = dp + 1
        · rw [e]; exact q224'
        · rw [q224 _ (by omega)]; exact U3 t t0 (by omega)
      unfold bo_Law_readPart_51
      rw [if_pos hd, u1, bd_some, if_pos rfl, if_neg (by decide : ¬ (1 : Int) = 0), eM, w32_in (x := dp + 1) (by omega) (by omega)]
      rcases H1 hd b c1 d2 i (x + 1) k P1 hU1 with ⟨c3, d3, k3, i3, x3, v, w1, w2, w3, w4, w5, w6, ⟨w7, w8⟩, ⟨w9, w10, w11⟩, w12, w13, w14, -⟩ | hf
      · have hi3 := w12.1
        have hx3 := SemL_lt w13
        have c3r : c3 1 7 ≤ 1000 := by
          have := w5.1.2.2.1
          have := w5.2.2.2.2
          omega
        unfold bo_Law_readPart_115 bo_Law_readPart_128
        rw [w1, w2, bd_some, if_neg (by decide : ¬ (1 : Int) = 0), if_neg (by decide : ¬ (1 : Int) = 0), put_eq (z := -5) w7 (by omega) (by omega), bd_some]
        left
        have m1 : mst (mst c3 (th + 1) i3.toNat (-5)) th 2 (i3 + 1) 1 = c3 1 := by rw [mst_ne (by omega), mst_ne (by omega)]
        have m2 : mst (mst c3 (th + 1) i3.toNat (-5)) th 2 (i3 + 1) 2 = c3 2 := by rw [mst_ne (by omega), mst_ne (by omega)]
        refine ⟨_, d3, k3, i3 + 1, x3, (fun o s y => if v o s y = 0 then 1 else 0), rfl, rfl, ?_, ?_, Tk_congr w5 m1 m2 rfl rfl, ?_, ⟨mst_hit, w8⟩, ⟨?_, ?_, ?_⟩, ?_, ?_, ?_, NoL_4⟩
        · exact FXc_trans (FXc_trans (FXc_trans (FXc_p g1) w3) (FXc_m (Or.inr ⟨rfl, by omega⟩))) (FXc_m (Or.inl ⟨rfl, rfl⟩))
        · exact FXm_trans G2 (FXm_mono w4 (QL_mono (by omega) (by omega) (by unfold cbL; rw [if_neg (by decide), if_neg (by decide)]; omega)))
        · rw [m1, w6, e11]
        · rw [m1]; omega
        · rw [m1]; omega
        · rw [m1]; omega
        · refine SemC_not (SemC_congr (SemC_h w12 (by unfold hh; omega)) i0 (fun t t0 t1 => ?_)) (by unfold hh; omega) ?_
          · rw [mst_ne (by omega), mst_miss (by omega)]
          · rw [mst_ne (by omega), mst_hit]
        · refine SemP_not w13 ?_ dp0 (by omega)
          show d3 223 (1000 + x.toNat) = 30
          have ex : 1000 + x.toNat = (1000 + x).toNat := by omega
          rw [ex, gm w4 (by omega) (by unfold QL; omega), g2.1 _ (by omega), mst_ne (by decide), mst_ne (by decide), mst_ne (by decide), mst_hit]
        · intro o s y hv
          show w32 (if v o s y = 0 then 1 else 0) = if v o s y = 0 then 1 else 0
          split <;> exact w32_in (by omega) (by omega)
      · right
        refine LFai_tr (i := i) (x := x) (dp := dp) (cb := cbL 4 dp) (FXc_p g1) G2 i0 x0 dp0 (by unfold cbL; rw [if_neg (by decide)]; omega) ?_
        obtain ⟨c', d', w1, w2, w3⟩ := hf
        rw [w1, w2, bd_some, if_pos rfl]
        exact ⟨c', d', rfl, rfl, w3⟩
    · right
      rw [tooC _ _ _ hd, tooM _ _ _ _ _ hd]
      exact b3
  · rw [if_neg yn]
    by_cases ys : sb 40 c = 0
    · -- a fact or a number, or nothing of these
      rw [ys, if_pos rfl, if_pos rfl, if_pos rfl]
      have hk6 := hT.2.2.2.2.2.2
      by_cases y3 : c 1 6 = 3
      · have t2 : d 203 6 = 2 ∧ c 1 4 = d 203 8 ∧ 0 ≤ c 1 4 ∧ c 1 4 ≤ 9999 ∧ c 1 2 = -1 := by omega
        have f0 : fct (c 1 2) = 0 := by rw [t2.2.2.2.2]; rfl
        have el : lef c = c 1 4 := by unfold lef; rw [if_pos y3]
        rw [if_pos f0, if_neg yn, if_pos t2.1, el, if_neg (by omega : ¬ c 1 4 = -1)]
        refine leafC (c 1 4) (100 + c 1 4) (fun _ _ _ => c 1 4) (by omega) ys yn el (Or.inl ⟨by omega, by omega, ?_⟩) (Or.inl ⟨by omega, rfl⟩) (fun o s y _ => show w32 (c 1 4) = c 1 4 from w32_in (by omega) (by omega)) _ (fun hd => ?_) (fun hd => tooM _ _ _ _ _ hd)
        · funext o s y; omega
        · unfold bo_Model_reads_65
          rw [if_neg (by omega : ¬ dp = 5), if_pos rfl, if_pos rfl, if_neg (by decide : ¬ (0 : Int) < 0), ← t2.2.1, w32_in (x := 100 + c 1 4) (by omega) (by omega)]
      · have t2 : ¬ d 203 6 = 2 := by omega
        by_cases z1 : c 1 2 = -28
        · have f1 : fct (c 1 2) = 1 := by rw [z1]; rfl
          have el : lef c = -2 := by unfold lef; rw [if_neg y3, if_pos z1]
          rw [f1, if_neg (by decide : ¬ (1 : Int) = 0), el, if_neg (by decide : ¬ (-2 : Int) = -1)]
          refine leafC (-2) 1 (fun o _ _ => o) (by omega) ys yn el (Or.inr (Or.inl ⟨rfl, rfl⟩)) (Or.inr (Or.inl ⟨rfl, rfl⟩)) (fun o s y hv => show w32 o = o from w32_in (by have := hv.2.1; omega) (by have := hv.2.1; omega)) _ (fun hd => ?_) (fun hd => tooM _ _ _ _ _ hd)
          unfold bo_Model_reads_65
          rw [if_neg (by omega : ¬ dp = 5), if_pos rfl, if_pos rfl, if_pos (by decide : (0 : Int) < 1)]
        · by_cases z2 : c 1 2 = -29
          · have f1 : fct (c 1 2) = 2 := by rw [z2]; rfl
            have el : lef c = -3 := by unfold lef; rw [if_neg y3, if_neg z1, if_pos z2]
            rw [f1, if_neg (by decide : ¬ (2 : Int) = 0), el, if_neg (by decide : ¬ (-3 : Int) = -1)]
            refine leafC (-3) 2 (fun _ s _ => s) (by omega) ys yn el (Or.inr (Or.inr (Or.inl ⟨rfl, rfl⟩))) (Or.inr (Or.inr (Or.inl ⟨rfl, rfl⟩))) (fun o s y hv => show w32 s = s from w32_in (by have := hv.1; omega) (by have := hv.1; omega)) _ (fun hd => ?_) (fun hd => tooM _ _ _ _ _ hd)
            unfold bo_Model_reads_65
            rw [if_neg (by omega : ¬ dp = 5), if_pos rfl, if_pos rfl, if_pos (by decide : (0 : Int) < 2)]
          · by_cases z3 : c 1 2 = -30
            · have f1 : fct (c 1 2) = 3 := by rw [z3]; rfl
              have el : lef c = -4 := by unfold lef; rw [if_neg y3, if_neg z1, if_neg z2, if_pos z3]
              rw [f1, if_neg (by decide : ¬ (3 : Int) = 0), el, if_neg (by decide : ¬ (-4 : Int) = -1)]
              refine leafC (-4) 3 (fun _ _ y => y) (by omega) ys yn el (Or.inr (Or.inr (Or.inr ⟨rfl, rfl⟩))) (Or.inr (Or.inr (Or.inr ⟨rfl, rfl⟩))) (fun o s y hv => hv.2.2) _ (fun hd => ?_) (fun hd => tooM _ _ _ _ _ hd)
              unfold bo_Model_reads_65
              rw [if_neg (by omega : ¬ dp = 5), if_pos rfl, if_pos rfl, if_pos (by decide : (0 : Int) < 3)]
            · have f1 : fct (c 1 2) = 0 := by unfold fct; rw [if_neg z1, if_neg z2, if_neg z3]
              have el : lef c = -1 := by unfold lef; rw [if_neg y3, if_neg z1, if_neg z2, if_neg z3]
              right
              unfold bo_Model_reads_59
              rw [f1, if_pos rfl, if_neg yn, if_neg t2, el, if_pos rfl, a1, a2, bd_some, bd_some, if_pos (Or.inl rfl), if_pos (Or.inl rfl)]
              exact a3
    · -- an opening sign
      have s1 : sb 40 c = 1 := sb_01.resolve_left ys
      have k4 := sb_kind s1
      have hk6 := hT.2.2.2.2.2.2
      have cw1 : c 1 2 = -1 := by omega
      have f0 : fct (c 1 2) = 0 := by rw [cw1]; rfl
      rw [s1, if_neg (by decide : ¬ (1 : Int) = 0), if_pos f0, if_neg yn, if_neg (by decide : ¬ (1 : Int) = 0)]
      have hkd : ¬ c 1 6 = 1 := by omega
      by_cases hd : dp < 5
      · have x1 : x < 1000 := by
          obtain ⟨c1, d1, u1, -, -, g1, -, e11, g7, g8⟩ := Tk_go hT hkd
          omega
        have hT2 : TkR c (mst (mst (mst (mst d 223 (1000 + x).toNat 28) 203 29 (1000 + x + 1)) 224 (dp + 1).toNat 2) 225 (dp + 1).toNat 0) := Tk_congr (Tk_put (x := x) (z := 28) hT) rfl rfl (by rw [mst_ne (by decide), mst_ne (by decide)]) (by rw [mst_ne (by decide), mst_ne (by decide)])
        obtain ⟨c1, d2, u1, u2, u3, g1, g2, e11, g7, g8⟩ := Tk_go hT2 hkd
        have G2 : FXm (QL x dp (cbL 4 dp)) d d2 := FXm_trans (FXm_trans (FXm_trans (FXm_trans (FXm_m (Or.inr (Or.inl ⟨rfl, by omega⟩))) (FXm_m (Or.inl ⟨rfl, rfl⟩))) (FXm_m (Or.inr (Or.inr (Or.inl ⟨rfl, by omega⟩))))) (FXm_m (Or.inr (Or.inr (Or.inr ⟨rfl, by unfold cbL; rw [if_neg (by decide)]; omega⟩))))) (FXm_p g2)
        have eM : bo_Model_reads_65 (lp_Model_reads_11 k) dp 1 0 0 1 d = lp_Model_reads_11 k (dp + 1) 1 d2 := by
          unfold bo_Model_reads_65 bo_Model_reads_86 bo_Model_reads_99 bo_Model_reads_120 bo_Model_reads_172
          rw [if_neg (by omega : ¬ dp = 5), if_pos rfl, if_neg (by decide : ¬ (1 : Int) = 0), if_pos rfl, puts_eq x29 x0 x1, bd_some, if_pos rfl, w32_in (x := dp + 1) (by omega) (by omega), if_pos (by omega : 0 ≤ dp + 1 ∧ dp + 1 < 7), bn_eq, if_pos (by omega : 0 ≤ dp + 1 ∧ dp + 1 < 7), bn_eq, u2, bd_some]
        have q29 : d2 203 29 = 1000 + (x + 1) := by rw [g2.2 29 (by omega), mst_ne (by decide), mst_ne (by decide), mst_hit]; omega
        have q224' : d2 224 (dp + 1).toNat = 2 := by rw [g2.1 _ (by omega), mst_ne (by decide), mst_hit]
        have q225' : d2 225 (dp + 1).toNat = 0 := by rw [g2.1 _ (by omega), mst_hit]
        have ec : c1 th 2 = i := by rw [g1.1 _ (by omega)]; exact i2
        have P1 : LPre th c1 d2 i (x + 1) k (dp + 1) := ⟨u3, ⟨ec, i0, by omega⟩, ⟨q29, by omega, by omega⟩, by omega, by omega, by omega⟩
        unfold bo_Law_readPart_51
        rw [if_pos hd, u1, bd_some, if_neg (by decide : ¬ (1 : Int) = 0), eM, w32_in (x := dp + 1) (by omega) (by omega)]
        have cb4 : cbL 4 dp = dp + 1 := by unfold cbL; rw [if_neg (by decide)]
        have cb0 : cbL 0 (dp + 1) = dp + 1 := by unfold cbL; rw [if_pos (by decide)]
        rcases H0 hd c1 d2 i (x + 1) k P1 (Or.inr (by rw [q224']; decide)) (fun _ => q225') with ⟨c3, d3, k3, i3, x3, v, w1, w2, w3, w4, w5, w6, ⟨w7, w8⟩, ⟨w9, w10, w11⟩, w12, w13, w14, w15⟩ | hf
        · have hi3 := w12.1
          have hx3 := SemL_lt w13
          have c3r : c3 1 7 ≤ 1000 := by
            have := w5.1.2.2.1
            have := w5.2.2.2.2
            omega
          obtain ⟨k3, rfl⟩ : ∃ t, k3 = t + 1 := ⟨k3 - 1, by omega⟩
          have hN : NoOp c3 d3 (dp + 1) := ⟨w15.1 (by decide), w15.2.1 (by decide), w15.2.2.1 (by decide), w15.2.2.2 (by decide)⟩
          have eT := to304 (k := k3) w5 (by omega) (by omega) hN
          unfold fn_Tape_takeSign
          rw [w1, w2, bd_some, if_neg (by decide : ¬ (1 : Int) = 0), eT, (sign_sb w5).1, bd_some]
          have G3 : FXm (QL x dp (cbL 4 dp)) d d3 := FXm_trans G2 (FXm_mono w4 (QL_mono (by omega) (by omega) (by omega)))
          have GC : FXc (PL th i) c c3 := FXc_trans (FXc_p g1) w3
          by_cases y41 : sb 41 c3 = 0
          · right
            obtain ⟨c5, d5, t1, t2, t3⟩ := LFai_w (th := th) (p := 1) w5 (by omega) (by omega)
            unfold bo_Model_reads_399 bo_Model_reads_418
            rw [if_pos y41, if_pos y41, if_neg (by omega : ¬ dp + 1 = 0), t1, t2, bd_some, bd_some, if_pos (Or.inl rfl), if_pos (Or.inl rfl), bd_some, if_pos rfl]
            exact LFai_tr GC G3 i0 x0 dp0 (by omega) t3
          · left
            have y1 : sb 41 c3 = 1 := sb_01.resolve_left y41
            have hkd3 : ¬ c3 1 6 = 1 := by have := sb_kind y1; omega
            have hT4 := Tk_put (x := x3) (z := 29) w5
            obtain ⟨c4, d4, r1, r2, r3, r4, r5, r6, r7, r8⟩ := Tk_go hT4 hkd3
            have x3r : x3 < 1000 := by omega
            have hU4 : Unw (mst (mst d3 223 (1000 + x3).toNat 29) 203 29 (1000 + x3 + 1)) dp b := by
              unfold Unw
              rw [mst_ne (by decide : (224 : Nat) ≠ 203), mst_ne (by decide : (224 : Nat) ≠ 223)]
              have q : ∀ t : Int, 0 ≤ t → t ≤ dp → d3 224 t.toNat = d 224 t.toNat := fun t t0 t1 => gm G3 (by omega) (by unfold QL; omega)
              exact ⟨U1, U2, fun t t0 t1 => by rw [q t (by omega) t1]; exact U3 t t0 t1, U4.imp id (fun z => by rw [q b U1 U2]; exact z)⟩
            have e6 : w32 (dp + 1 + -1) = dp := by rw [w32_in (by omega) (by omega)]; omega
            rw [if_neg y41, if_neg y41, if_pos (by omega : 0 < dp + 1), puts_eq w8 (by omega) x3r, bd_some, e6, unw379 (dp - b).toNat FU dp (by omega) (by show (dp - b).toNat < 2000; omega) (by omega) hU4]
            unfold bo_Model_reads_424
            rw [r1, r2, bd_some, bd_some, bd_some, if_neg (by decide : ¬ (1 : Int) = 0)]
            refine ⟨c4, d4, k3, i3, x3 + 1, v, rfl, rfl, FXc_trans GC (FXc_p r4), ?_, r3, ?_, ⟨?_, ?_⟩, ⟨by omega, by omega, by omega⟩, ?_, ?_, w14, NoL_4⟩
            · exact FXm_trans G3 (FXm_trans (FXm_trans (FXm_m (Or.inr (Or.inl ⟨rfl, by omega⟩))) (FXm_m (Or.inl ⟨rfl, rfl⟩))) (FXm_p r5))
            · rw [r6, w6, e11]
            · rw [r4.1 _ (by omega)]; exact w7
            · rw [r5.2 29 (by omega), mst_hit]; omega
            · refine SemC_congr (SemC_h w12 (by unfold hh; omega)) i0 (fun t t0 t1 => by rw [r4.1 _ (by omega)])
            · have q4 : ∀ t : Int, 0 ≤ t → t < x3 → rowM d4 t.toNat = rowM d3 t.toNat := fun t t0 t1 => by
                show d4 223 (1000 + t.toNat) = d3 223 (1000 + t.toNat)
                rw [r5.1 _ (by omega), mst_ne (by decide), mst_miss (by omega)]
              refine SemP_par (SemL_congr w13 (fun t t0 t1 => q4 t (by omega) t1)) ?_ ?_ dp0 (by omega)
              · rw [q4 x x0 (by omega)]
                show d3 223 (1000 + x.toNat) = 28
                have ex : 1000 + x.toNat = (1000 + x).toNat := by omega
                rw [ex, gm w4 (by omega) (by unfold QL; omega), g2.1 _ (by omega), mst_ne (by decide), mst_ne (by decide), mst_ne (by decide), mst_hit]
              · show d4 223 (1000 + x3.toNat) = 29
                have ex : 1000 + x3.toNat = (1000 + x3).toNat := by omega
                rw [ex, r5.1 _ (by omega), mst_ne (by decide), mst_hit]
        · right
          refine LFai_tr (i := i) (x := x) (dp := dp) (cb := cbL 4 dp) (FXc_p g1) G2 i0 x0 dp0 (by omega) ?_
          obtain ⟨c', d', w1, w2, w3⟩ := hf
          rw [w1, w2, bd_some, if_pos rfl]
          exact ⟨c', d', rfl, rfl, w3⟩
      · right
        rw [tooC _ _ _ hd, tooM _ _ _ _ _ hd]
        exact b3
/-- both recursions, by their fuel -/
theorem rc_ok {th : Nat} (hth : th = 14 ∨ th = 51) : ∀ n : Nat, (∀ L dp : Int, 0 ≤ L → L ≤ 4 → 0 ≤ dp → dp ≤ 5 → 6 * (5 - dp) + 6 - L ≤ n → HLv (rc_Law_readLevel_Law_readPart n).1 th L dp) ∧ (∀ dp : Int, 0 ≤ dp → dp ≤ 5 → 6 * (5 - dp) + 1 ≤ n → HPt (rc_Law_readLevel_Law_readPart n).2 th dp) := by
  intro n
  induction n with
  | zero => exact ⟨fun L dp l0 l4 d0 d5 h => by omega, fun dp d0 d5 h => by omega⟩
  | succ n ih =>
    refine ⟨fun L dp l0 l4 d0 d5 h => ?_, fun dp d0 d5 h => ?_⟩
    · show HLv (bm_Law_readLevel (rc_Law_readLevel_Law_readPart n).1 (rc_Law_readLevel_Law_readPart n).2) th L dp
      by_cases z : L = 4
      · subst z
        intro c d i x k P hB hcmp
        unfold bm_Law_readLevel
        rw [if_pos (by decide : (3 : Int) < 4)]
        rcases ih.2 dp d0 d5 (by omega) dp c d i x k P ⟨d0, Int.le_refl _, fun t t0 t1 => by omega, hB⟩ with ⟨c1, d1, k1, i1, x1, v, w1, w2⟩ | ⟨c1, d1, w1, w2⟩
        · rw [w1, bd_some, if_pos (Or.inr rfl)]
          exact Or.inl ⟨c1, d1, k1, i1, x1, v, rfl, w2⟩
        · rw [w1, bd_some, if_pos (Or.inl rfl)]
          exact Or.inr ⟨c1, d1, rfl, w2⟩
      · exact lvl_ok hth l0 (by omega) (ih.1 (L + 1) dp (by omega) (by omega) d0 d5 (by omega))
    · show HPt (bm_Law_readPart (rc_Law_readLevel_Law_readPart n).1 (rc_Law_readLevel_Law_readPart n).2) th dp
      exact part_ok hth (fun hd => ih.1 0 (dp + 1) (by omega) (by omega) (by omega) (by omega) (by omega)) (fun hd => ih.2 (dp + 1) (by omega) (by omega) (by omega))
end Lq
