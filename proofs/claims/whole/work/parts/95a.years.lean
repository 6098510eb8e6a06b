/-! years. -/
section Ye
variable {f : Int → Int → Int → Int} {m : Mm}
theorem YR_g {d kC kM : Mm} {S : Nat → Int} {x : Int} (h : YR m d S kC kM) : YR m d S (mst kC 0 18 x) (mst kM 203 71 x) := by
  obtain ⟨h1, h2, h3, h4, h5, h6, h7, h8, h9, h10⟩ := h
  refine ⟨FQ_trans h1 ⟨fun a _ a1 _ _ _ _ _ => mst_ne a1, fun j hj => mst_miss (by omega), fun j _ => by rw [mst_ne (by omega)], fun j _ => by rw [mst_ne (by omega)]⟩, EqM_trans h2 (fun a ha => mst_ne (by omega)), StR_congr h3 (mst_ne (by omega)) (mst_ne (by omega)) (mst_ne (by omega)) rfl, fun a a0 a1 a2 a3 a4 => ?_, ?_, ?_, fun a ha => ?_, ?_, fun j hj => ?_, h10⟩
  · rw [mst_ne (by omega)]; exact h4 a a0 a1 a2 a3 a4
  · rw [mst_miss (by omega)]; exact h5
  · rw [mst_miss (by omega)]; exact h6
  · rw [mst_ne (by omega)]; exact h7 a ha
  · rw [mst_ne (by omega)]; exact h8
  · rw [mst_ne (by omega)]; exact h9 j hj
theorem YR_snow {d kC kM : Mm} {S : Nat → Int} (h : YR m d S kC kM) : YR m d (putS 3 1 S) (mst kC 95 3 1) (mst kM 245 3 1) := by
  obtain ⟨h1, h2, h3, h4, h5, h6, h7, h8, h9, h10⟩ := h
  have q := FQ_95 (c := kC) (a := 95) (j := 3) (v := 1) (by omega)
  refine ⟨FQ_trans h1 q.1, EqM_trans h2 q.2, StR_put3 h3 (Or.inr rfl), fun a a0 a1 a2 a3 a4 => ?_, ?_, ?_, fun a ha => ?_, ?_, fun j hj => ?_, fun j hj => ?_⟩
  · rw [mst_ne a2]; exact h4 a a0 a1 a2 a3 a4
  · rw [mst_ne (by omega)]; exact h5
  · rw [mst_ne (by omega)]; exact h6
  · rw [mst_ne (by omega)]; exact h7 a ha
  · rw [mst_row_put, h8]
  · rw [mst_ne (by omega)]; exact h9 j hj
  · rw [put_n (by omega)]; exact h10 j hj
theorem YR_late {d kC kM : Mm} {S : Nat → Int} {w v : Int} (h : YR m d S kC kM) (w0 : 0 ≤ w) (w1 : w < 6) (v0 : 0 ≤ v) (v1 : v ≤ 60) : YR m d (putS (4 + w).toNat v S) (mst kC 96 w.toNat v) (mst kM 245 (4 + w).toNat v) := by
  obtain ⟨h1, h2, h3, h4, h5, h6, h7, h8, h9, h10⟩ := h
  have q := FQ_95 (c := kC) (a := 96) (j := w.toNat) (v := v) (by omega)
  obtain ⟨⟨s0, s1, s2, s3, s4, s5⟩, ⟨t1, t2, t3, t4, t5, t6⟩⟩ := h3
  refine ⟨FQ_trans h1 q.1, EqM_trans h2 q.2, ⟨⟨?_, ?_, ?_, ?_, fun x x0 x1 => ?_, fun x x0 x1 => ?_⟩, ⟨?_, ?_, ?_, fun x x0 x1 => ?_, fun x x0 x1 => ?_, by rw [put_n (by omega)]; exact t6⟩⟩, fun a a0 a1 a2 a3 a4 => ?_, ?_, ?_, fun a ha => ?_, ?_, fun j hj => ?_, fun j hj => ?_⟩
  · rw [mst_ne (by omega), put_n (by omega)]; exact s0
  · rw [mst_ne (by omega), put_n (by omega)]; exact s1
  · rw [mst_ne (by omega), put_n (by omega)]; exact s2
  · rw [mst_ne (by omega), put_n (by omega)]; exact s3
  · by_cases g : x = w
    · subst g; rw [mst_hit, put_h]; exact ⟨rfl, v1⟩
    · rw [mst_miss (by omega), put_n (by omega)]; exact s4 x x0 x1
  · rw [mst_ne (by omega), put_n (by omega)]; exact s5 x x0 x1
  · rw [put_n (by omega)]; exact t1
  · rw [put_n (by omega)]; exact t2
  · rw [put_n (by omega)]; exact t3
  · by_cases g : x = w
    · subst g; rw [put_h]; omega
    · rw [put_n (by omega)]; exact t4 x x0 x1
  · have := t5 x x0 x1
    by_cases g : x < 6
    · rw [put_n (by omega)]; exact this
    · rw [put_n (by omega)]; exact this
  · rw [mst_ne a2]; exact h4 a a0 a1 a2 a3 a4
  · rw [mst_ne (by omega)]; exact h5
  · rw [mst_ne (by omega)]; exact h6
  · rw [mst_ne (by omega)]; exact h7 a ha
  · rw [mst_row_put, h8]
  · rw [mst_ne (by omega)]; exact h9 j hj
  · rw [put_n (by omega)]; exact h10 j hj
theorem years_in (hR : RR f m m) {d : Mm} {p1 p2 p3 y4 y5 y6 y7 : Int} {k68 : Int → Int → Int → Int → Mm → Res} : ∀ (j n n' : Nat) (i g : Int) (S : Nat → Int) (kC kM : Mm), i + j = m 205 1 → 0 ≤ i → j < n → j < n' → YR m d S kC kM → kC 0 18 = g → kM 203 71 = g → 0 ≤ g → g < 2147483648 → ∃ (g' : Int) (S' : Nat → Int) (kC' kM' : Mm), lp_Clock_drawDay_19 n i kC = some (0, kC') ∧ lp_Model_years_93 p1 p2 p3 k68 n' y4 y5 y6 y7 i kM = bo_Model_years_133 p1 p2 p3 k68 y4 y5 y6 y7 kM' ∧ YR m d S' kC' kM' ∧ kC' 0 18 = g' ∧ kM' 203 71 = g' ∧ 0 ≤ g' ∧ g' < 2147483648 := by
  have hH := hR.2.2.1.1
  have hn := hH.1
  have hc0 := RR_hc hR
  intro j
  induction j with
  | zero =>
    intro n n' i g S kC kM h1 h2 h3 h4 hY hg hg2 g0 g1
    obtain ⟨k, rfl⟩ : ∃ k, n = k + 1 := ⟨n - 1, by omega⟩
    obtain ⟨k', rfl⟩ : ∃ k, n' = k + 1 := ⟨n' - 1, by omega⟩
    obtain ⟨l1, l2⟩ := Hl_FQ hR hY.1
    have e205 := YR_FM2 hY 205 (by omega) (by omega)
    refine ⟨g, S, kC, kM, ?_, ?_, hY, hg, hg2, g0, g1⟩
    · show bo_Clock_drawDay_19 _ _ _ = _
      unfold bo_Clock_drawDay_19
      rw [l2, if_pos hc0.1, l1.2.1.2.2.1, if_neg (by omega)]
    · show bo_Model_years_93 _ _ _ _ _ _ _ _ _ _ _ = _
      unfold bo_Model_years_93
      rw [e205, tn1, if_neg (by omega)]
  | succ j ih =>
    intro n n' i g S kC kM h1 h2 h3 h4 hY hg hg2 g0 g1
    obtain ⟨k, rfl⟩ : ∃ k, n = k + 1 := ⟨n - 1, by omega⟩
    obtain ⟨k', rfl⟩ : ∃ k, n' = k + 1 := ⟨n' - 1, by omega⟩
    obtain ⟨l1, l2⟩ := Hl_FQ hR hY.1
    have e205 := YR_FM2 hY 205 (by omega) (by omega)
    have r1 := dnx_r g0 g1
    have r2 := dnx_r r1.1 r1.2
    have v2 := dvl_r (p := 30) r2.1 r2.2 (by omega) (by omega)
    have eC : lp_Clock_drawDay_19 (k + 1) i kC = if dvl (dnx g) 4 = 0 then lp_Clock_drawDay_19 k (i + 1) (mst (mst (mst kC 0 18 (dnx g)) 0 18 (dnx (dnx g))) 96 i.toNat (dvl (dnx (dnx g)) 30)) else lp_Clock_drawDay_19 k (i + 1) (mst kC 0 18 (dnx g)) := by
      show bo_Clock_drawDay_19 _ _ _ = _
      unfold bo_Clock_drawDay_19 bo_Clock_drawDay_53
      rw [l2, if_pos hc0.1, l1.2.1.2.2.1, if_pos (by omega), c_draw hg (by omega), bd_some, c_draw (c := mst kC 0 18 (dnx g)) (g := dnx g) mst_hit (by omega), bd_some, if_pos (by omega : 0 ≤ i ∧ i < 6), bn_eq, w32_in (x := i + 1) (by omega) (by omega)]
    have eM : lp_Model_years_93 p1 p2 p3 k68 (k' + 1) y4 y5 y6 y7 i kM = if dvl (dnx g) 4 = 0 then lp_Model_years_93 p1 p2 p3 k68 k' y4 y5 y6 y7 (i + 1) (mst (mst (mst kM 203 71 (dnx g)) 203 71 (dnx (dnx g))) 245 (4 + i).toNat (dvl (dnx (dnx g)) 30)) else lp_Model_years_93 p1 p2 p3 k68 k' y4 y5 y6 y7 (i + 1) (mst kM 203 71 (dnx g)) := by
      show bo_Model_years_93 _ _ _ _ _ _ _ _ _ _ _ = _
      unfold bo_Model_years_93 bo_Model_years_127
      rw [e205, tn1, if_pos (by omega), m_draws hg2 (by omega), bd_some, m_draws (d := mst kM 203 71 (dnx g)) (g := dnx g) mst_hit (by omega), bd_some, w32_in (x := 4 + i) (by omega) (by omega), if_pos (by omega : 0 ≤ 4 + i ∧ 4 + i < 16), bn_eq, w32_in (x := i + 1) (by omega) (by omega)]
    rw [eC, eM]
    have i6 : i < 6 := by omega
    clear eC eM l1 l2 e205
    generalize dvl (dnx (dnx g)) 30 = v at *
    generalize dnx (dnx g) = g2 at *
    generalize dvl (dnx g) 4 = z4 at *
    generalize dnx g = ga at *
    have v60 : v ≤ 60 := by omega
    by_cases z : z4 = 0
    · rw [if_pos z, if_pos z]
      exact ih k k' (i + 1) g2 _ _ _ (by omega) (by omega) (by omega) (by omega) (YR_late (YR_g (YR_g hY)) h2 i6 v2.1 v60) (by rw [mst_ne (by omega), mst_hit]) (by rw [mst_ne (by omega), mst_hit]) r2.1 r2.2
    · rw [if_neg z, if_neg z]
      exact ih k k' (i + 1) ga _ _ _ (by omega) (by omega) (by omega) (by omega) (YR_g hY) mst_hit mst_hit r1.1 r1.2
theorem call_years (hR : RR f m m) (p1 p2 p3 : Int) : Both (fn_Clock_years p1 p2 p3) (fn_Model_years p1 p2 p3) m := by
  refine q_rel hR (fun d hE hd => ?_)
  have hH := hR.2.2.1.1
  have hS := hR.2.2.2.1
  have hn := hH.1
  have hc0 := RR_hc hR
  have er : ∀ k, 204 ≤ k → mst d 203 0 0 k = m k := fun k hk => by rw [mst_ne (by omega)]; exact hE k (by omega)
  have hq := th_FQM (d := d) (x := 0) (j := 0) (by omega) (by omega)
  have no : ∀ {oc om : Res}, oc = some (-1, m) → om = some (-1, mst d 203 0 0) → ∃ x : Int, TT oc (fun r c' => r = x ∧ FQ m c' ∧ EqM m c') ∧ TT om (fun r d' => r = x ∧ FQM d d' ∧ EqC d d') := fun h1 h2 => ⟨-1, TT_of h1 ⟨rfl, FQ_refl, fun _ _ => rfl⟩, TT_of h2 ⟨rfl, hq⟩⟩
  by_cases c1 : 0 ≤ p1 ∧ p1 ≤ 9999
  · by_cases c2 : 1 ≤ p2 ∧ p2 ≤ 20
    · by_cases c3 : 0 ≤ p3 ∧ p3 ≤ 2
      · -- the years
        obtain ⟨r1, k1, e1, q1, q2, q3, q4⟩ := trial_copy hR (c := mst m 0 18 p1) ⟨fun a _ a1 _ _ _ _ _ => mst_ne a1, fun j hj => mst_miss (by omega), fun j _ => by rw [mst_ne (by omega)], fun j _ => by rw [mst_ne (by omega)]⟩ (fun a ha => mst_ne (by omega))
        obtain ⟨r2, d1, u1, u2, u3⟩ := copies_ok (na := 16) (nb := 16) (a := 245) (b := 246) (p := 0) (q := 0) (m := mst (mst d 203 0 0) 203 71 p1) (by omega) (by omega) (by omega) (by omega) (by omega) (by omega) (by omega)
        have hY0 : YR m d (m 245) k1 d1 := by
          refine ⟨q1, q2, q3, fun a a0 a1 a2 a3 a4 => ?_, ?_, ?_, fun a ha => ?_, ?_, fun j hj => ?_, fun _ _ => rfl⟩
          · rw [u2 a a3, mst_ne (by omega)]; exact er a a0
          · rw [u2 203 (by omega), mst_miss (by omega), mst_miss (by omega)]
          · rw [u2 203 (by omega), mst_miss (by omega), mst_miss (by omega)]
          · rw [u2 a (by omega), mst_ne (by omega), mst_ne (by omega)]
          · rw [u2 245 (by omega), mst_ne (by omega)]; exact er 245 (by omega)
          · rw [u3 j, if_pos (by omega), mst_ne (by omega), er 245 (by omega)]
            congr 1
            omega
        have key : ∀ (j n n' : Nat) (x4 y4 y5 y6 i g : Int) (S : Nat → Int) (kC kM : Mm), i + j = p2 → 0 ≤ i → j < n → j < n' → YR m d S kC kM → kC 0 18 = g → kM 203 71 = g → 0 ≤ g → g < 2147483648 → x4 = (if p3 = 0 then y4 else if p3 = 1 then y5 else y6) → ∃ y : Int, TT (lp_Clock_years_59 p1 p2 p3 n x4 i kC) (fun r c' => r = y ∧ FQ m c' ∧ EqM m c') ∧ TT (lp_Model_years_68 p1 p2 p3 n' y4 y5 y6 i kM) (fun r d' => r = y ∧ FQM d d' ∧ EqC d d') := by
          intro j
          induction j with
          | zero =>
            intro n n' x4 y4 y5 y6 i g S kC kM h1 h2 h3 h4 hY hg hg2 g0 g1 hx
            obtain ⟨k, rfl⟩ : ∃ k, n = k + 1 := ⟨n - 1, by omega⟩
            obtain ⟨k', rfl⟩ : ∃ k, n' = k + 1 := ⟨n' - 1, by omega⟩
            obtain ⟨r, kM', w1, w2, w3⟩ := YR_back hE hY
            have eC : lp_Clock_years_59 p1 p2 p3 (k + 1) x4 i kC = some (x4, kC) := by
              show bo_Clock_years_59 _ _ _ _ _ _ _ = _
              unfold bo_Clock_years_59
              rw [if_neg (by omega)]
            have eM : lp_Model_years_68 p1 p2 p3 (k' + 1) y4 y5 y6 i kM = some (if p3 = 0 then y4 else if p3 = 1 then y5 else y6, kM') := by
              show bo_Model_years_68 _ _ _ _ _ _ _ _ _ = _
              unfold bo_Model_years_68 bo_Model_years_166
              rw [if_neg (by omega), w1, bd_some]
              split
              · rfl
              · split <;> rfl
            exact ⟨x4, TT_of eC ⟨rfl, hY.1, hY.2.1⟩, TT_of eM ⟨hx.symm, w2, w3⟩⟩
          | succ j ih =>
            intro n n' x4 y4 y5 y6 i g S kC kM h1 h2 h3 h4 hY hg hg2 g0 g1 hx
            obtain ⟨k, rfl⟩ : ∃ k, n = k + 1 := ⟨n - 1, by omega⟩
            obtain ⟨k', rfl⟩ : ∃ k, n' = k + 1 := ⟨n' - 1, by omega⟩
            have r1 := dnx_r g0 g1
            -- what is drawn first
            have first : ∃ (S1 : Nat → Int) (a1 b1 : Mm), fn_Clock_drawDay kC = lp_Clock_drawDay_19 FU 0 a1 ∧ lp_Model_years_68 p1 p2 p3 (k' + 1) y4 y5 y6 i kM = lp_Model_years_93 p1 p2 p3 (lp_Model_years_68 p1 p2 p3 k') FU y4 y5 y6 i 0 b1 ∧ YR m d S1 a1 b1 ∧ a1 0 18 = dnx g ∧ b1 203 71 = dnx g := by
              have eC : fn_Clock_drawDay kC = if dvl (dnx g) 8 = 0 then lp_Clock_drawDay_19 FU 0 (mst (mst kC 0 18 (dnx g)) 95 3 1) else lp_Clock_drawDay_19 FU 0 (mst kC 0 18 (dnx g)) := by
                unfold fn_Clock_drawDay bo_Clock_drawDay_17
                rw [c_draw hg (by omega), bd_some]
                rfl
              have eM : lp_Model_years_68 p1 p2 p3 (k' + 1) y4 y5 y6 i kM = if dvl (dnx g) 8 = 0 then lp_Model_years_93 p1 p2 p3 (lp_Model_years_68 p1 p2 p3 k') FU y4 y5 y6 i 0 (mst (mst kM 203 71 (dnx g)) 245 3 1) else lp_Model_years_93 p1 p2 p3 (lp_Model_years_68 p1 p2 p3 k') FU y4 y5 y6 i 0 (mst kM 203 71 (dnx g)) := by
                show bo_Model_years_68 _ _ _ _ _ _ _ _ _ = _
                unfold bo_Model_years_68 bo_Model_years_90
                rw [if_pos (by omega), m_draws hg2 (by omega), bd_some, tn3]
                rfl
              rw [eC, eM]
              by_cases z : dvl (dnx g) 8 = 0
              · rw [if_pos z, if_pos z]
                exact ⟨_, _, _, rfl, rfl, YR_snow (YR_g hY), by rw [mst_ne (by omega), mst_hit], by rw [mst_ne (by omega), mst_hit]⟩
              · rw [if_neg z, if_neg z]
                exact ⟨_, _, _, rfl, rfl, YR_g hY, mst_hit, mst_hit⟩
            obtain ⟨S1, a1, b1, f1, f2, f3, f4, f5⟩ := first
            obtain ⟨g', S', kC', kM', w1, w2, w3, w4, w5, w6, w7⟩ := years_in hR (d := d) (p1 := p1) (p2 := p2) (p3 := p3) (y4 := y4) (y5 := y5) (y6 := y6) (y7 := i) (k68 := lp_Model_years_68 p1 p2 p3 k') (m 205 1).toNat FU FU 0 (dnx g) S1 a1 b1 (by omega) (by omega) (by show (m 205 1).toNat < 2000; omega) (by show (m 205 1).toNat < 2000; omega) f3 f4 f5 r1.1 r1.2
            obtain ⟨t1, t3, x1, x2, x3, x5, z1, z2, z3, z4, z5, z6, z7, z8, z9, z10, z11, z12⟩ := YR_day hR w3
            have eC : lp_Clock_years_59 p1 p2 p3 (k + 1) x4 i kC = lp_Clock_years_59 p1 p2 p3 k (w32 (x4 + (if p3 = 0 then csS f m S' else if p3 = 1 then miS m S' else mtC m S'))) (i + 1) x3 := by
              show bo_Clock_years_59 _ _ _ _ _ _ _ = _
              unfold bo_Clock_years_59 bo_Clock_years_131 bo_Clock_years_134
              rw [if_pos (by omega), f1, w1, bd_some, w3.1.2.1 2 (by omega), if_pos hc0.1, z1, bd_some, z3, bd_some, z4, bd_some, z5, bd_some, w32_in (x := i + 1) (by omega) (by omega)]
              by_cases y1 : p3 = 0
              · rw [if_pos y1, if_pos y1, bn_eq, z6, bd_some]
              · rw [if_neg y1, if_neg y1]
                by_cases y2 : p3 = 1
                · rw [if_pos y2, if_pos y2, bn_eq, z6, bd_some]
                · rw [if_neg y2, if_neg y2, bn_eq, z6, bd_some]
            have eM : lp_Model_years_68 p1 p2 p3 (k' + 1) y4 y5 y6 i kM = lp_Model_years_68 p1 p2 p3 k' (w32 (y4 + csS f m S')) (w32 (y5 + miS m S')) (w32 (y6 + mtC m S')) (i + 1) x5 := by
              rw [f2, w2]
              unfold bo_Model_years_133
              rw [z7, bd_some, bn_eq, bn_eq, z8, z9, bd_some, bn_eq, w32_in (x := i + 1) (by omega) (by omega)]
            rw [eC, eM]
            refine ih k k' _ _ _ _ (i + 1) g' _ x3 x5 (by omega) (by omega) (by omega) (by omega) z10 (by rw [z11]; exact w4) (by rw [z12 71 (by omega)]; exact w5) w6 w7 ?_
            rw [hx]
            by_cases y1 : p3 = 0
            · rw [if_pos y1, if_pos y1, if_pos y1]
            · rw [if_neg y1, if_neg y1, if_neg y1]
              by_cases y2 : p3 = 1
              · rw [if_pos y2, if_pos y2, if_pos y2]
              · rw [if_neg y2, if_neg y2, if_neg y2]
        obtain ⟨y, y1, y2⟩ := key p2.toNat FU FU 0 0 0 0 0 p1 (m 245) k1 d1 (by omega) (by omega) (by show p2.toNat < 2000; omega) (by show p2.toNat < 2000; omega) hY0 (by rw [q4 0 (by omega) (by omega) (by omega), mst_hit]) (by rw [u2 203 (by omega), mst_hit]) c1.1 (by omega) (by split <;> (try split) <;> rfl)
        refine ⟨y, ?_, ?_⟩
        · unfold fn_Clock_years
          rw [if_neg (by omega), if_neg (by omega), if_neg (by omega), if_neg (by omega), if_neg (by omega), if_neg (by omega), bn_eq, e1, bd_some]
          exact y1
        · unfold fn_Model_years
          rw [bn_eq, m_within, bd_some, if_neg (by omega : ¬ p1 < 0), if_neg (by omega : ¬ 9999 < p1), if_neg (by decide : ¬ (1 : Int) = 0), m_within, bd_some, if_neg (by omega : ¬ p2 < 1), if_neg (by omega : ¬ 20 < p2), if_neg (by decide : ¬ (1 : Int) = 0), m_within, bd_some, if_neg (by omega : ¬ p3 < 0), if_neg (by omega : ¬ 2 < p3), if_neg (by decide : ¬ (1 : Int) = 0), bn_eq, u1, bd_some]
          exact y2
      · refine no ?_ ?_
        · unfold fn_Clock_years
          rw [if_neg (by omega), if_neg (by omega), if_neg (by omega), if_neg (by omega)]
          split
          · rfl
          · rw [if_pos (by omega)]
        · have z : (if p3 < 0 then (0 : Int) else if 2 < p3 then 0 else 1) = 0 := by split <;> (try split) <;> omega
          unfold fn_Model_years
          rw [bn_eq, m_within, bd_some, if_neg (by omega : ¬ p1 < 0), if_neg (by omega : ¬ 9999 < p1), if_neg (by decide : ¬ (1 : Int) = 0), m_within, bd_some, if_neg (by omega : ¬ p2 < 1), if_neg (by omega : ¬ 20 < p2), if_neg (by decide : ¬ (1 : Int) = 0), m_within, bd_some, z, if_pos rfl]
    · refine no ?_ ?_
      · unfold fn_Clock_years
        rw [if_neg (by omega), if_neg (by omega)]
        split
        · rfl
        · rw [if_pos (by omega)]
      · have z : (if p2 < 1 then (0 : Int) else if 20 < p2 then 0 else 1) = 0 := by split <;> (try split) <;> omega
        unfold fn_Model_years
        rw [bn_eq, m_within, bd_some, if_neg (by omega : ¬ p1 < 0), if_neg (by omega : ¬ 9999 < p1), if_neg (by decide : ¬ (1 : Int) = 0), m_within, bd_some, z, if_pos rfl]
  · refine no ?_ ?_
    · unfold fn_Clock_years
      split
      · rfl
      · rw [if_pos (by omega)]
    · have z : (if p1 < 0 then (0 : Int) else if 9999 < p1 then 0 else 1) = 0 := by split <;> (try split) <;> omega
      unfold fn_Model_years
      rw [bn_eq, m_within, bd_some, z, if_pos rfl]
end Ye
