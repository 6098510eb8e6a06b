/-! The call mark. -/
section Mn
variable {f : Int → Int → Int → Int} {m : Mm}
theorem blk_h1 {r : Nat → Int} {a b : Int} (b0 : 0 ≤ b) : blk r 1 a b b.toNat = r a.toNat := by
  have := blk_hit (r := r) (n := 1) (a := a) (b := b) (i := 0) (by omega) (by omega) (by omega)
  have e1 : (1 * b + 0).toNat = b.toNat := by omega
  have e2 : (1 * a + 0).toNat = a.toNat := by omega
  rwa [e1, e2] at this
theorem LnR_copy {c c' d d' : Mm} {p th : Nat} {a b : Int} (h : LnR c p d a) (h0 : c' th 0 = c p 0) (h1 : ∀ j, j < 30 → c' (th + 1) j = c (p + 1) j ∧ c' (th + 2) j = c (p + 2) j ∧ c' (th + 3) j = c (p + 3) j) (b0 : 0 ≤ b) (e205 : d' 205 = d 205) (e236 : d' 236 = blk (d 236) 1 a b) (e237 : d' 237 = blk (d 237) 30 a b) (e238 : d' 238 = blk (d 238) 30 a b) (e239 : d' 239 = blk (d 239) 30 a b) : LnR c' th d' b := by
  obtain ⟨x0, x1, x2, x3⟩ := h
  have e := blk_h1 (r := d 236) (a := a) b0
  refine ⟨?_, ?_, ?_, fun i i0 i1 => ?_⟩
  · rw [h0, e236, e]; exact x0
  · rw [e236, e]; exact x1
  · rw [e236, e]; exact x2
  · rw [e236, e] at i1
    have y := x3 i i0 i1
    obtain ⟨z1, z2, z3⟩ := h1 i.toNat (by omega)
    rw [z1, z2, z3, e205, e237, e238, e239, blk_hit (by omega) i0 (by omega), blk_hit (by omega) i0 (by omega), blk_hit (by omega) i0 (by omega)]
    exact y
theorem LnR_stay {c c' d d' : Mm} {lb : Nat} {k a b : Int} (h : LnR c lb d k) (k0 : 0 ≤ k) (hk : k ≠ b) (q0 : c' lb 0 = c lb 0) (q1 : c' (lb + 1) = c (lb + 1)) (q2 : c' (lb + 2) = c (lb + 2)) (q3 : c' (lb + 3) = c (lb + 3)) (e205 : d' 205 = d 205) (e236 : d' 236 = blk (d 236) 1 a b) (e237 : d' 237 = blk (d 237) 30 a b) (e238 : d' 238 = blk (d 238) 30 a b) (e239 : d' 239 = blk (d 239) 30 a b) : LnR c' lb d' k := by
  obtain ⟨x0, x1, x2, x3⟩ := h
  have e : d' 236 k.toNat = d 236 k.toNat := by rw [e236, blk_miss (by omega)]
  unfold LnR
  rw [e, q0, q1, q2, q3]
  refine ⟨x0, x1, x2, fun i i0 i1 => ?_⟩
  have y := x3 i i0 i1
  rw [e205, e237, e238, e239, blk_miss (by omega), blk_miss (by omega), blk_miss (by omega)]
  exact y
theorem SnR_copy {c c' d d' : Mm} {p th : Nat} {a b : Int} (h : SnR c p d a) (h0 : c' th 3 = c p 3) (h6 : c' th 6 = c p 6) (h1 : ∀ j, j < 8 → c' (th + 8) j = c (p + 8) j ∧ c' (th + 9) j = c (p + 9) j) (b0 : 0 ≤ b) (e205 : d' 205 = d 205) (e240 : d' 240 = blk (d 240) 1 a b) (e241 : d' 241 = blk (d 241) 8 a b) (e242 : d' 242 = blk (d 242) 8 a b) (e243 : d' 243 = blk (d 243) 8 a b) : SnR c' th d' b := by
  obtain ⟨x0, x1, x2, x3, x4, x5⟩ := h
  have e := blk_h1 (r := d 240) (a := a) b0
  refine ⟨?_, ?_, ?_, by rw [h6]; exact x3, by rw [h6]; exact x4, fun i i0 i1 => ?_⟩
  · rw [h0, e240, e]; exact x0
  · rw [e240, e]; exact x1
  · rw [e240, e]; exact x2
  · rw [e240, e] at i1
    have y := x5 i i0 i1
    obtain ⟨z1, z2⟩ := h1 i.toNat (by omega)
    rw [z1, z2, h6, e205, e241, e242, e243, blk_hit (by omega) i0 (by omega), blk_hit (by omega) i0 (by omega), blk_hit (by omega) i0 (by omega)]
    exact y
theorem SnR_stay {c c' d d' : Mm} {sb : Nat} {k a b : Int} (h : SnR c sb d k) (k0 : 0 ≤ k) (hk : k ≠ b) (q0 : c' sb 3 = c sb 3) (q1 : c' sb 6 = c sb 6) (q2 : c' (sb + 8) = c (sb + 8)) (q3 : c' (sb + 9) = c (sb + 9)) (e205 : d' 205 = d 205) (e240 : d' 240 = blk (d 240) 1 a b) (e241 : d' 241 = blk (d 241) 8 a b) (e242 : d' 242 = blk (d 242) 8 a b) (e243 : d' 243 = blk (d 243) 8 a b) : SnR c' sb d' k := by
  obtain ⟨x0, x1, x2, x3, x4, x5⟩ := h
  have e : d' 240 k.toNat = d 240 k.toNat := by rw [e240, blk_miss (by omega)]
  unfold SnR
  rw [e, q0, q1, q2, q3]
  refine ⟨x0, x1, x2, x3, x4, fun i i0 i1 => ?_⟩
  have y := x5 i i0 i1
  rw [e205, e241, e242, e243, blk_miss (by omega), blk_miss (by omega), blk_miss (by omega)]
  exact y
theorem TdR_copy {c c' d d' : Mm} {p th : Nat} {a b : Int} (hn : d 205 2 ≤ 6) (h : TdR c p d a) (h1 : ∀ j, j < 6 → c' th j = c p j) (b0 : 0 ≤ b) (e205 : d' 205 = d 205) (e244 : d' 244 = blk (d 244) 6 a b) : TdR c' th d' b := by
  intro x x0 x1
  rw [e205] at x1
  have y := h x x0 x1
  rw [h1 x.toNat (by omega), e244, blk_hit (by omega) x0 (by omega)]
  exact y
theorem TdR_stay {c c' d d' : Mm} {tb : Nat} {k a b : Int} (hn : d 205 2 ≤ 6) (h : TdR c tb d k) (k0 : 0 ≤ k) (hk : k ≠ b) (q0 : c' tb = c tb) (e205 : d' 205 = d 205) (e244 : d' 244 = blk (d 244) 6 a b) : TdR c' tb d' k := by
  intro x x0 x1
  rw [e205] at x1
  have y := h x x0 x1
  rw [q0, e244, blk_miss (by omega)]
  exact y
theorem StR_rows {c d d' : Mm} {sc : Nat} {S S' : Nat → Int} (hd : HD d) (h : StR c sc d S) (e205 : d' 205 = d 205) (e : ∀ j : Nat, j < 16 → S' j = S j) : StR c sc d' S' := by
  have hn := hd.1
  obtain ⟨⟨s0, s1, s2, s3, s4, s5⟩, ⟨t1, t2, t3, t4, t5, t6⟩⟩ := h
  refine ⟨⟨?_, ?_, ?_, ?_, fun w w0 w1 => ?_, fun x y0 y1 => ?_⟩, ⟨?_, ?_, ?_, fun w w0 w1 => ?_, fun x y0 y1 => ?_, by rw [e 0 (by omega)]; exact t6⟩⟩
  · rw [e 0 (by omega)]; exact s0
  · rw [e 1 (by omega)]; exact s1
  · rw [e 2 (by omega)]; exact s2
  · rw [e 3 (by omega)]; exact s3
  · rw [e _ (by omega)]; exact s4 w w0 w1
  · rw [e205] at y1; rw [e _ (by omega)]; exact s5 x y0 y1
  · rw [e 2 (by omega)]; exact t1
  · rw [e 2 (by omega)]; exact t2
  · rw [e 3 (by omega)]; exact t3
  · rw [e _ (by omega)]; exact t4 w w0 w1
  · rw [e205] at y1 ⊢; rw [e _ (by omega)]; exact t5 x y0 y1
theorem blk_243 {r : Nat → Int} {n a b : Int} (h : ∀ j, r j = 0 ∨ r j = 1) (j : Nat) : blk r n a b j = 0 ∨ blk r n a b j = 1 := by
  unfold blk
  split
  · exact h _
  · exact h _
theorem call_mark (hR : RR f m m) (p b : Int) : Both (fn_Clock_mark p b) (fn_Model_mark p b) m := by
  have hR0 := hR
  obtain ⟨h1, h2, h3, h4, h5, h6, h7, h8, h9, h10⟩ := hR
  have hH := h3.1
  have hn := hH.1
  have hc0 := h3.2.1.1
  by_cases c1 : 0 ≤ p ∧ p < 4
  · obtain ⟨z1, z2, z3⟩ := h8 p c1.1 c1.2
    by_cases c2 : b = 0
    · -- laid
      refine s_both (f := f) (x := 1) (C := fun c' => (∀ a, (a < 11 * p.toNat + 111 ∨ 11 * p.toNat + 121 < a) → c' a = m a) ∧ SameStand m 82 c' (11 * p.toNat + 111) ∧ c' (11 * p.toNat + 111) 0 = 1) ?_ (fun d hE => ?_)
      · unfold fn_Clock_mark bo_Clock_mark_27
        rw [if_neg (by omega), if_pos c1.2, if_pos c2, if_pos c2, if_pos c1]
        refine TT_call (standCopy_ok (by omega) (by rw [h4.1.2.2.2.1]; exact h4.2.2.2.1)) (fun r c2 q => ?_)
        obtain ⟨q1, q2, q3⟩ := q
        rw [if_pos c1, bn_eq]
        refine TT_some.mpr ⟨rfl, fun a ha => by rw [mst_ne (by omega)]; exact q1 a (by omega), fun a ha => by rw [mst_ne (by omega)]; exact q1 a ha, ?_, mst_hit⟩
        obtain ⟨y1, y2, y3, y4, y5, y6, y7⟩ := q3
        obtain ⟨w1, w2, w3, w4, w5⟩ := y1
        refine ⟨⟨?_, ?_, ?_, ?_, fun j hj => ⟨?_, ?_⟩⟩, ?_, fun j hj => ⟨?_, ?_, ?_⟩, ?_, ?_, fun j hj => ⟨?_, ?_⟩, fun j hj => ?_⟩
        · rw [mst_ne (by omega)]; exact w1
        · rw [mst_ne (by omega)]; exact w2
        · rw [mst_ne (by omega)]; exact w3
        · rw [mst_ne (by omega)]; exact w4
        · rw [mst_ne (by omega)]; exact (w5 j hj).1
        · rw [mst_ne (by omega)]; exact (w5 j hj).2
        · rw [mst_ne (by omega)]; exact y2
        · rw [mst_ne (by omega)]; exact (y3 j hj).1
        · rw [mst_ne (by omega)]; exact (y3 j hj).2.1
        · rw [mst_ne (by omega)]; exact (y3 j hj).2.2
        · rw [mst_miss (by omega)]; exact y4
        · rw [mst_miss (by omega)]; exact y5
        · rw [mst_ne (by omega)]; exact (y6 j hj).1
        · rw [mst_ne (by omega)]; exact (y6 j hj).2
        · rw [mst_ne (by omega)]; exact y7 j hj
      · have er : ∀ k, 204 ≤ k → mst d 203 0 0 k = m k := fun k hk => by rw [mst_ne (by omega)]; exact hE k (by omega)
        unfold fn_Model_mark bo_Model_mark_29 bo_Model_mark_47 bo_Model_mark_59
        rw [bn_eq, m_within, bd_some, if_neg (by omega : ¬ p < 0), if_neg (by omega : ¬ 3 < p), if_neg (by decide : ¬ (1 : Int) = 0)]
        simp only [if_pos c2, if_pos c1, bn_eq]
        rw [w32_in (x := 1 + p) (by omega) (by omega), w32_in (x := 16 * p) (by omega) (by omega)]
        generalize hd1 : mst (mst d 203 0 0) 249 p.toNat 1 = d1
        have ed : ∀ k, 204 ≤ k → k ≠ 249 → d1 k = m k := fun k k0 k1 => by rw [← hd1, mst_ne k1]; exact er k k0
        refine TT_call (laysLines_ok (by omega) (by omega) (by omega) (by omega) (by omega)) (fun r2 d2 q2 => ?_)
        obtain ⟨a1, a2, a3, a4, a5⟩ := q2
        refine TT_call (laysTold_ok (by omega) (by omega) (by omega) (by omega) (by omega) (fun j => by rw [a1 243 (by omega), ed 243 (by omega) (by omega)]; exact h10 j)) (fun r3 d3 q3 => ?_)
        obtain ⟨b1, b2, b3, b4, b5, b6⟩ := q3
        refine TT_call (copies_ok (by omega) (by omega) (by omega) (by omega) (by omega) (by omega) (by omega)) (fun r4 d4 q4 => TT_some.mpr ⟨rfl, fun k hk => ?_, fun c' hc => ?_⟩)
        · rw [q4.1 k (by omega), b1 k (by omega), a1 k (by omega), ← hd1, mst_ne (by omega), mst_ne (by omega)]
        · obtain ⟨x1, x2, x3⟩ := hc
          obtain ⟨y1, y2, y3, y4, y5, y6, y7⟩ := x2
          have e4 : ∀ k, 204 ≤ k → (k < 236 ∨ 244 < k) → k ≠ 247 → k ≠ 249 → d4 k = m k := fun k k0 k1 k2 k3 => by rw [q4.1 k k2, b1 k (by omega), a1 k (by omega), ed k k0 k3]
          have e205 : d4 205 = m 205 := e4 205 (by omega) (by omega) (by omega) (by omega)
          have e203 : ∀ j, j ≠ 0 → d4 203 j = m 203 j := fun j hj => by rw [q4.1 203 (by omega), b1 203 (by omega), a1 203 (by omega), ← hd1, mst_ne (by omega), mst_miss hj, hE 203 (by omega)]
          have f236 : d4 236 = blk (m 236) 1 0 (1 + p) := by rw [q4.1 236 (by omega), b1 236 (by omega), a2, ed 236 (by omega) (by omega)]
          have f237 : d4 237 = blk (m 237) 30 0 (1 + p) := by rw [q4.1 237 (by omega), b1 237 (by omega), a3, ed 237 (by omega) (by omega)]
          have f238 : d4 238 = blk (m 238) 30 0 (1 + p) := by rw [q4.1 238 (by omega), b1 238 (by omega), a4, ed 238 (by omega) (by omega)]
          have f239 : d4 239 = blk (m 239) 30 0 (1 + p) := by rw [q4.1 239 (by omega), b1 239 (by omega), a5, ed 239 (by omega) (by omega)]
          have f240 : d4 240 = blk (m 240) 1 0 (1 + p) := by rw [q4.1 240 (by omega), b2, a1 240 (by omega), ed 240 (by omega) (by omega)]
          have f241 : d4 241 = blk (m 241) 8 0 (1 + p) := by rw [q4.1 241 (by omega), b3, a1 241 (by omega), ed 241 (by omega) (by omega)]
          have f242 : d4 242 = blk (m 242) 8 0 (1 + p) := by rw [q4.1 242 (by omega), b4, a1 242 (by omega), ed 242 (by omega) (by omega)]
          have f243 : d4 243 = blk (m 243) 8 0 (1 + p) := by rw [q4.1 243 (by omega), b5, a1 243 (by omega), ed 243 (by omega) (by omega)]
          have f244 : d4 244 = blk (m 244) 6 0 (1 + p) := by rw [q4.1 244 (by omega), b6, a1 244 (by omega), ed 244 (by omega) (by omega)]
          have f249 : ∀ j, d4 249 j = if j = p.toNat then 1 else m 249 j := fun j => by rw [q4.1 249 (by omega), b1 249 (by omega), a1 249 (by omega), ← hd1, mst_self, er 249 (by omega)]
          have f247 : ∀ j : Nat, d4 247 j = if 16 * p ≤ (j : Int) ∧ (j : Int) < 16 * p + 16 then m 245 (0 + ((j : Int) - 16 * p)).toNat else m 247 j := fun j => by
            rw [q4.2 j, b1 245 (by omega), a1 245 (by omega), ed 245 (by omega) (by omega), b1 247 (by omega), a1 247 (by omega), ed 247 (by omega) (by omega)]
          refine ⟨TpR_congr h1 (by rw [x1 1 (by omega)]) (x1 2 (by omega)) (e203 1 (by omega)) (e4 204 (by omega) (by omega) (by omega) (by omega)), ?_, ?_, ?_, ?_, ?_, ?_, fun i i0 i1 => ?_, ?_, ?_⟩
          · rw [x1 0 (by omega)]; exact h2
          · rw [x1 0 (by omega)]
            exact HlR_congr h3 (fun k _ _ _ _ => x1 k (by omega)) (fun j _ => by rw [x1 _ (by omega)]) (fun k _ _ => e4 k (by omega) (by omega) (by omega) (by omega))
          · rw [e4 245 (by omega) (by omega) (by omega) (by omega)]
            exact StR_congr h4 (x1 _ (by omega)) (x1 _ (by omega)) (x1 _ (by omega)) e205
          · exact LnR_stay h5 (by omega) (by omega) (by rw [x1 _ (by omega)]) (x1 _ (by omega)) (x1 _ (by omega)) (x1 _ (by omega)) e205 f236 f237 f238 f239
          · exact SnR_stay h6 (by omega) (by omega) (by rw [x1 _ (by omega)]) (by rw [x1 _ (by omega)]) (x1 _ (by omega)) (x1 _ (by omega)) e205 f240 f241 f242 f243
          · exact TdR_stay (by omega) h7 (by omega) (by omega) (x1 _ (by omega)) e205 f244
          · by_cases g : i = p
            · subst g
              rw [f249, if_pos rfl, x3]
              refine ⟨rfl, Or.inr rfl, fun _ => ⟨?_, ?_, ?_, ?_⟩⟩
              · refine StR_rows hH (SameS_StR y1 hH h4) e205 (fun j hj => ?_)
                unfold rowS
                rw [f247, if_pos (by omega)]
                congr 1
                omega
              · exact LnR_copy h5 y2 y3 (by omega) e205 f236 f237 f238 f239
              · exact SnR_copy h6 y4 y5 y6 (by omega) e205 f240 f241 f242 f243
              · exact TdR_copy (by omega) h7 y7 (by omega) e205 f244
            · obtain ⟨w1, w2, w3⟩ := h8 i i0 i1
              rw [f249, if_neg (by omega), x1 (11 * i.toNat + 111) (by omega)]
              refine ⟨w1, w2, fun w => ?_⟩
              obtain ⟨v1, v2, v3, v4⟩ := w3 w
              refine ⟨?_, ?_, ?_, ?_⟩
              · refine StR_rows hH (StR_congr v1 (x1 _ (by omega)) (x1 _ (by omega)) (x1 _ (by omega)) rfl) e205 (fun j hj => ?_)
                unfold rowS
                rw [f247, if_neg (by omega)]
              · exact LnR_stay v2 (by omega) (by omega) (by rw [x1 _ (by omega)]) (x1 _ (by omega)) (x1 _ (by omega)) (x1 _ (by omega)) e205 f236 f237 f238 f239
              · exact SnR_stay v3 (by omega) (by omega) (by rw [x1 _ (by omega)]) (by rw [x1 _ (by omega)]) (x1 _ (by omega)) (x1 _ (by omega)) e205 f240 f241 f242 f243
              · exact TdR_stay (by omega) v4 (by omega) (by omega) (x1 _ (by omega)) e205 f244
          · exact UnR_congr h9 (by rw [x1 _ (by omega)]) (by rw [x1 _ (by omega)]) (fun k _ _ => x1 k (by omega)) e205 (e203 58 (by omega)) (e4 _ (by omega) (by omega) (by omega) (by omega))
          · rw [f243]; exact blk_243 h10
    · by_cases c3 : m 249 p.toNat = 0
      · refine q_rel hR0 (fun d hE hd => ⟨0, ?_, ?_⟩)
        · unfold fn_Clock_mark
          rw [if_neg (by omega), if_pos c1.2, if_neg c2, if_pos c1, z1, if_pos c3]
          exact TT_some.mpr ⟨rfl, FQ_refl, fun _ _ => rfl⟩
        · unfold fn_Model_mark
          rw [bn_eq, m_within, bd_some, if_neg (by omega : ¬ p < 0), if_neg (by omega : ¬ 3 < p), if_neg (by decide : ¬ (1 : Int) = 0), if_neg c2, if_pos c1, mst_ne (by omega), hE 249 (by omega), if_pos c3]
          exact TT_some.mpr ⟨rfl, th_FQM (by omega) (by omega)⟩
      · -- gone back to
        have c4 : m 249 p.toNat = 1 := by omega
        obtain ⟨v1, v2, v3, v4⟩ := z3 c4
        refine s_both (f := f) (x := 1) (C := fun c' => (∀ a, a ≠ 0 → (a < 82 ∨ 92 < a) → c' a = m a) ∧ (∀ j, j ≠ 9 → c' 0 j = m 0 j) ∧ c' 0 9 = 0 ∧ SameStand m (11 * p.toNat + 111) c' 82) ?_ (fun d hE => ?_)
        · unfold fn_Clock_mark bo_Clock_mark_27
          rw [if_neg (by omega), if_pos c1.2, if_neg c2, if_pos c1, z1, if_neg c3, if_neg c2, if_pos c1]
          refine TT_call (standCopy_ok (by omega) (by rw [v1.1.2.2.2.1]; exact v1.2.2.2.1)) (fun r c2 q => ?_)
          obtain ⟨q1, q2, q3⟩ := q
          rw [bn_eq]
          refine TT_some.mpr ⟨rfl, fun a ha => by rw [mst_ne (by omega)]; exact q1 a (by omega), fun a a0 a1 => by rw [mst_ne a0]; exact q1 a a1, fun j hj => by rw [mst_miss hj, q1 0 (by omega)], mst_hit, ?_⟩
          obtain ⟨y1, y2, y3, y4, y5, y6, y7⟩ := q3
          obtain ⟨w1, w2, w3, w4, w5⟩ := y1
          refine ⟨⟨?_, ?_, ?_, ?_, fun j hj => ⟨?_, ?_⟩⟩, ?_, fun j hj => ⟨?_, ?_, ?_⟩, ?_, ?_, fun j hj => ⟨?_, ?_⟩, fun j hj => ?_⟩
          · rw [mst_ne (by omega)]; exact w1
          · rw [mst_ne (by omega)]; exact w2
          · rw [mst_ne (by omega)]; exact w3
          · rw [mst_ne (by omega)]; exact w4
          · rw [mst_ne (by omega)]; exact (w5 j hj).1
          · rw [mst_ne (by omega)]; exact (w5 j hj).2
          · rw [mst_ne (by omega)]; exact y2
          · rw [mst_ne (by omega)]; exact (y3 j hj).1
          · rw [mst_ne (by omega)]; exact (y3 j hj).2.1
          · rw [mst_ne (by omega)]; exact (y3 j hj).2.2
          · rw [mst_ne (by omega)]; exact y4
          · rw [mst_ne (by omega)]; exact y5
          · rw [mst_ne (by omega)]; exact (y6 j hj).1
          · rw [mst_ne (by omega)]; exact (y6 j hj).2
          · rw [mst_ne (by omega)]; exact y7 j hj
        · have er : ∀ k, 204 ≤ k → mst d 203 0 0 k = m k := fun k hk => by rw [mst_ne (by omega)]; exact hE k (by omega)
          unfold fn_Model_mark bo_Model_mark_29 bo_Model_mark_47 bo_Model_mark_59
          rw [bn_eq, m_within, bd_some, if_neg (by omega : ¬ p < 0), if_neg (by omega : ¬ 3 < p), if_neg (by decide : ¬ (1 : Int) = 0), mst_ne (by omega : 249 ≠ 203), hE 249 (by omega)]
          simp only [if_neg c2, if_pos c1, if_neg c3, bn_eq]
          rw [w32_in (x := 1 + p) (by omega) (by omega), w32_in (x := 16 * p) (by omega) (by omega)]
          generalize hd1 : mst (mst d 203 0 0) 249 p.toNat 1 = d1
          have ed : ∀ k, 204 ≤ k → k ≠ 249 → d1 k = m k := fun k k0 k1 => by rw [← hd1, mst_ne k1]; exact er k k0
          refine TT_call (laysLines_ok (by omega) (by omega) (by omega) (by omega) (by omega)) (fun r2 d2 q2 => ?_)
          obtain ⟨a1, a2, a3, a4, a5⟩ := q2
          refine TT_call (laysTold_ok (by omega) (by omega) (by omega) (by omega) (by omega) (fun j => by rw [a1 243 (by omega), ed 243 (by omega) (by omega)]; exact h10 j)) (fun r3 d3 q3 => ?_)
          obtain ⟨b1, b2, b3, b4, b5, b6⟩ := q3
          refine TT_call (copies_ok (by omega) (by omega) (by omega) (by omega) (by omega) (by omega) (by omega)) (fun r4 d4 q4 => TT_some.mpr ⟨rfl, fun k hk => ?_, fun c' hc => ?_⟩)
          · rw [mst_ne (by omega), q4.1 k (by omega), b1 k (by omega), a1 k (by omega), ← hd1, mst_ne (by omega), mst_ne (by omega)]
          · obtain ⟨x1, x2, x3, x4⟩ := hc
            obtain ⟨y1, y2, y3, y4, y5, y6, y7⟩ := x4
            generalize hd5 : mst d4 203 58 0 = d5
            have e5 : ∀ k, 204 ≤ k → (k < 236 ∨ 244 < k) → k ≠ 245 → k ≠ 249 → d5 k = m k := fun k k0 k1 k2 k3 => by rw [← hd5, mst_ne (by omega), q4.1 k k2, b1 k (by omega), a1 k (by omega), ed k k0 k3]
            have e205 : d5 205 = m 205 := e5 205 (by omega) (by omega) (by omega) (by omega)
            have e203 : ∀ j, j ≠ 0 → j ≠ 58 → d5 203 j = m 203 j := fun j hj hj2 => by rw [← hd5, mst_miss hj2, q4.1 203 (by omega), b1 203 (by omega), a1 203 (by omega), ← hd1, mst_ne (by omega), mst_miss hj, hE 203 (by omega)]
            have e58 : d5 203 58 = 0 := by rw [← hd5, mst_hit]
            have f236 : d5 236 = blk (m 236) 1 (1 + p) 0 := by rw [← hd5, mst_ne (by omega), q4.1 236 (by omega), b1 236 (by omega), a2, ed 236 (by omega) (by omega)]
            have f237 : d5 237 = blk (m 237) 30 (1 + p) 0 := by rw [← hd5, mst_ne (by omega), q4.1 237 (by omega), b1 237 (by omega), a3, ed 237 (by omega) (by omega)]
            have f238 : d5 238 = blk (m 238) 30 (1 + p) 0 := by rw [← hd5, mst_ne (by omega), q4.1 238 (by omega), b1 238 (by omega), a4, ed 238 (by omega) (by omega)]
            have f239 : d5 239 = blk (m 239) 30 (1 + p) 0 := by rw [← hd5, mst_ne (by omega), q4.1 239 (by omega), b1 239 (by omega), a5, ed 239 (by omega) (by omega)]
            have f240 : d5 240 = blk (m 240) 1 (1 + p) 0 := by rw [← hd5, mst_ne (by omega), q4.1 240 (by omega), b2, a1 240 (by omega), ed 240 (by omega) (by omega)]
            have f241 : d5 241 = blk (m 241) 8 (1 + p) 0 := by rw [← hd5, mst_ne (by omega), q4.1 241 (by omega), b3, a1 241 (by omega), ed 241 (by omega) (by omega)]
            have f242 : d5 242 = blk (m 242) 8 (1 + p) 0 := by rw [← hd5, mst_ne (by omega), q4.1 242 (by omega), b4, a1 242 (by omega), ed 242 (by omega) (by omega)]
            have f243 : d5 243 = blk (m 243) 8 (1 + p) 0 := by rw [← hd5, mst_ne (by omega), q4.1 243 (by omega), b5, a1 243 (by omega), ed 243 (by omega) (by omega)]
            have f244 : d5 244 = blk (m 244) 6 (1 + p) 0 := by rw [← hd5, mst_ne (by omega), q4.1 244 (by omega), b6, a1 244 (by omega), ed 244 (by omega) (by omega)]
            have f249 : ∀ j, d5 249 j = m 249 j := fun j => by
              rw [← hd5, mst_ne (by omega), q4.1 249 (by omega), b1 249 (by omega), a1 249 (by omega), ← hd1, mst_self, er 249 (by omega)]
              split
              · next g => rw [g]; exact c4.symm
              · rfl
            have f245 : ∀ j : Nat, j < 16 → d5 245 j = rowS m 247 p j := fun j hj => by
              rw [← hd5, mst_ne (by omega), q4.2 j, if_pos (by omega), b1 247 (by omega), a1 247 (by omega), ed 247 (by omega) (by omega)]
              unfold rowS
              congr 1
            refine ⟨TpR_congr h1 (by rw [x1 1 (by omega) (by omega)]) (x1 2 (by omega) (by omega)) (e203 1 (by omega) (by omega)) (e5 204 (by omega) (by omega) (by omega) (by omega)), ?_, ?_, ?_, ?_, ?_, ?_, fun i i0 i1 => ?_, ⟨?_, ?_, ?_, ?_, ?_, fun i i0 i1 => ?_⟩, ?_⟩
            · rw [x2 2 (by omega), x2 3 (by omega)]; exact h2
            · rw [x2 2 (by omega)]
              exact HlR_congr h3 (fun k _ _ _ _ => x1 k (by omega) (by omega)) (fun j _ => by rw [x1 _ (by omega) (by omega)]) (fun k _ _ => e5 k (by omega) (by omega) (by omega) (by omega))
            · exact StR_rows hH (SameS_StR y1 hH v1) e205 f245
            · exact LnR_copy v2 y2 y3 (by omega) e205 f236 f237 f238 f239
            · exact SnR_copy v3 y4 y5 y6 (by omega) e205 f240 f241 f242 f243
            · exact TdR_copy (by omega) v4 y7 (by omega) e205 f244
            · obtain ⟨w1, w2, w3⟩ := h8 i i0 i1
              rw [f249, x1 (11 * i.toNat + 111) (by omega) (by omega)]
              refine ⟨w1, w2, fun w => ?_⟩
              obtain ⟨u1, u2, u3, u4⟩ := w3 w
              have er7 : rowS d5 247 i = rowS m 247 i := by unfold rowS; rw [e5 247 (by omega) (by omega) (by omega) (by omega)]
              rw [er7]
              refine ⟨StR_congr u1 (x1 _ (by omega) (by omega)) (x1 _ (by omega) (by omega)) (x1 _ (by omega) (by omega)) e205, ?_, ?_, ?_⟩
              · exact LnR_stay u2 (by omega) (by omega) (by rw [x1 _ (by omega) (by omega)]) (x1 _ (by omega) (by omega)) (x1 _ (by omega) (by omega)) (x1 _ (by omega) (by omega)) e205 f236 f237 f238 f239
              · exact SnR_stay u3 (by omega) (by omega) (by rw [x1 _ (by omega) (by omega)]) (by rw [x1 _ (by omega) (by omega)]) (x1 _ (by omega) (by omega)) (x1 _ (by omega) (by omega)) e205 f240 f241 f242 f243
              · exact TdR_stay (by omega) u4 (by omega) (by omega) (x1 _ (by omega) (by omega)) e205 f244
            · rw [x3, e58]
            · rw [e58]; omega
            · rw [e58]; omega
            · rw [x2 8 (by omega)]; exact h9.2.2.2.1
            · rw [x2 8 (by omega)]; exact h9.2.2.2.2.1
            · rw [e58] at i1; omega
            · rw [f243]; exact blk_243 h10
  · refine q_rel hR0 (fun d hE hd => ⟨0, ?_, ?_⟩)
    · unfold fn_Clock_mark
      refine TT_if (fun _ => TT_some.mpr ⟨rfl, FQ_refl, fun _ _ => rfl⟩) (fun g => ?_)
      rw [if_neg (by omega)]
      exact TT_some.mpr ⟨rfl, FQ_refl, fun _ _ => rfl⟩
    · unfold fn_Model_mark
      have z : (if p < 0 then (0 : Int) else if 3 < p then 0 else 1) = 0 := by split <;> (try split) <;> omega
      rw [bn_eq, m_within, bd_some, z, if_pos rfl]
      exact TT_some.mpr ⟨rfl, th_FQM (by omega) (by omega)⟩
end Mn
