/-! Calls by hand: day, undo, see. -/
section Hc
variable {f : Int → Int → Int → Int} {m : Mm}
theorem pass_ok {c H : Mm} {th : Nat} {S : Nat → Int} {x : Int} (hH : HD H) (h : StR c th H S) : TT (fn_State_pass th x c) (fun _ c' => (∀ a, a ≠ th → a ≠ th + 1 → c' a = c a) ∧ (∀ j, 4 ≤ j → c' th j = c th j) ∧ StR c' th H (psS S x)) := by
  obtain ⟨⟨s0, s1, s2, s3, s4, s5⟩, ht⟩ := h
  have hn := hH.1
  unfold fn_State_pass
  simp only [bn_eq]
  refine TT_call (fillI_ok (by omega)) (fun r c2 q => TT_some.mpr ?_)
  obtain ⟨q1, q2, q3⟩ := q
  have e0 : c2 th = mst (mst (mst c th 1 (w32 (c th 1 + x))) th 0 (w32 (mst c th 1 (w32 (c th 1 + x)) th 0 + 1))) th 3 0 th := q1 th (by omega)
  refine ⟨fun a a0 a1 => ?_, fun j hj => ?_, ⟨?_, ?_, ?_, ?_, fun w w0 w1 => ?_, fun y y0 y1 => ?_⟩, psS_SD ht x⟩
  · rw [q1 a a1, mst_ne a0, mst_ne a0, mst_ne a0]
  · rw [e0, mst_miss (by omega), mst_miss (by omega), mst_miss (by omega)]
  · rw [e0, mst_miss (by omega), mst_hit, mst_miss (by omega), s0]; rfl
  · rw [e0, mst_miss (by omega), mst_miss (by omega), mst_hit, s1]; rfl
  · rw [e0, mst_miss (by omega), mst_miss (by omega), mst_miss (by omega), s2]; rfl
  · rw [e0, mst_hit]; rfl
  · rw [q2 _ (by omega)]
    unfold psS
    rw [if_neg (by omega), if_neg (by omega), if_pos (by omega)]
    exact ⟨rfl, by omega⟩
  · rw [q1 _ (by omega), mst_ne (by omega), mst_ne (by omega), mst_ne (by omega), s5 y y0 y1]
    unfold psS
    rw [if_neg (by omega), if_neg (by omega), if_neg (by omega)]
theorem call_day (hR : RR f m m) : Both fn_Clock_day fn_Model_day m := by
  have hH := hR.2.2.1.1
  have hS := hR.2.2.2.1
  have hL : LawM f m := hR.2.2.1.2.2.2.2.2.2.2.2.2.2
  have hc0 := RR_hc hR
  refine s_both (f := f) (x := csS f m (m 245)) (C := fun c' => ∃ c1, RemP m c1 ∧ FS c1 c' ∧ StR c' 83 m (psS (m 245) (csS f m (m 245)))) ?_ (fun d hE => ?_)
  · unfold fn_Clock_day
    refine TT_call (c_rem hR) (fun r c1 q => ?_)
    have e0 : c1 0 2 = m 0 2 := q.2.1 2 (by omega) (by omega)
    have hl : HlR f c1 (m 0 2).toNat m := HlR_congr hR.2.2.1 (fun a a0 a1 _ _ => q.1 a (by omega) (by omega)) (fun j _ => by rw [q.1 _ (by omega) (by omega)]) (fun _ _ _ => rfl)
    have hs : StR c1 83 m (m 245) := StR_congr hS (q.1 83 (by omega) (by omega)) (q.1 84 (by omega) (by omega)) (q.1 85 (by omega) (by omega)) rfl
    rw [e0, if_pos hc0.1]
    refine TT_call (c_go_g (Or.inl rfl) hl hs) (fun r2 c2 q2 => ?_)
    refine TT_call (costs_ok q2.1) (fun r3 c3 q3 => ?_)
    obtain ⟨rfl, q4⟩ := q3
    have hw := WB_law q2.1 q4
    have hs3 : StR c3 83 m (m 245) := StR_congr hs (by rw [q4.1 _ (by omega) (by omega)]; exact q2.2 _ (by omega)) (by rw [q4.1 _ (by omega) (by omega)]; exact q2.2 _ (by omega)) (by rw [q4.1 _ (by omega) (by omega)]; exact q2.2 _ (by omega)) rfl
    refine TT_call (pass_ok (x := csS f m (m 245)) hH hs3) (fun r4 c4 q5 => TT_some.mpr ⟨rfl, fun a ha => ?_, c1, q, ⟨fun a a0 a1 a2 a3 a4 a5 a6 a7 => ?_, fun j hj => ?_, fun j hj => ?_, fun j hj => ?_⟩, q5.2.2⟩)
    · rw [q5.1 a (by omega) (by omega), q4.1 a (by omega) (by omega), q2.2 a (by omega)]; exact RemP_E q a ha
    · rw [q5.1 a (by omega) (by omega), q4.1 a (by omega) (by omega), q2.2 a (by omega)]
    · rw [q5.1 0 (by omega) (by omega), q4.1 0 (by omega) (by omega), q2.2 0 (by omega)]
    · rw [q5.1 14 (by omega) (by omega)]
      have h1 := (LwF_FQ hc0.2 q4).1.2.2.1 j hj
      rw [h1, q2.2 14 (by omega)]
    · rw [q5.1 51 (by omega) (by omega)]
      have h1 := (LwF_FQ hc0.2 q4).1.2.2.2 j hj
      rw [h1, q2.2 51 (by omega)]
  · have hU := hR.2.2.2.2.2.2.2.2.1
    have e58 : mst d 203 0 0 203 58 = m 203 58 := by rw [mst_miss (by omega), hE 203 (by omega)]
    unfold fn_Model_day
    rw [bn_eq]
    refine TT_call (keeps_ok (by rw [e58]; exact ⟨hU.2.1, hU.2.2.1⟩)) (fun r d1 q => ?_)
    have ed : ∀ k, 204 ≤ k → k ≠ 248 → d1 k = m k := fun k k0 k1 => by rw [q.1 k (by omega) k1, mst_ne (by omega)]; exact hE k (by omega)
    refine TT_call (m_passes hH hS.2 hL (fun a a0 a1 => ed a (by omega) (by omega)) (ed 245 (by omega) (by omega))) (fun r2 d2 q2 => ?_)
    obtain ⟨rfl, q3, q4, q5, q6, q7⟩ := q2
    refine TT_some.mpr ⟨rfl, fun a ha => ?_, fun c' hc => ?_⟩
    · rw [q6 a (by omega) (by omega) (by omega) (by omega), q.1 a (by omega) (by omega), mst_ne (by omega)]
    · obtain ⟨c1, r1, r2, r3⟩ := hc
      have e205 : d2 205 = m 205 := (q6 205 (by omega) (by omega) (by omega) (by omega)).trans (ed 205 (by omega) (by omega))
      refine RR_state (RR_kept (RR_th (RR_E hR hE) (by omega) (by omega)) r1 q) r2 ⟨fun a a0 a1 a2 a3 a4 => q6 a (by omega) a2 (by omega) (by omega), q7 1 (by omega), q7 58 (by omega)⟩ ?_
      rw [q4]
      exact StR_congr r3 rfl rfl rfl e205
theorem call_undo (hR : RR f m m) : Both fn_Clock_undo fn_Model_undo m := by
  have hH := hR.2.2.1.1
  have hU := hR.2.2.2.2.2.2.2.2.1
  obtain ⟨u1, u2, u3, u4, u5, u6⟩ := hU
  by_cases g : m 203 58 = 0
  · refine q_rel hR (fun d hE hd => ⟨0, ?_, ?_⟩)
    · unfold fn_Clock_undo
      rw [u1, if_pos g]
      exact TT_some.mpr ⟨rfl, FQ_refl, fun _ _ => rfl⟩
    · have e58 : mst d 203 0 0 203 58 = m 203 58 := by rw [mst_miss (by omega), hE 203 (by omega)]
      unfold fn_Model_undo
      rw [bn_eq, e58, if_pos g]
      exact TT_some.mpr ⟨rfl, th_FQM (by omega) (by omega)⟩
  · have hi := u6 (m 203 58 - 1) (by omega) (by omega)
    have hr : 0 ≤ (m 0 8 + (m 203 58 - 1)) % 16 ∧ (m 0 8 + (m 203 58 - 1)) % 16 < 16 := by omega
    refine s_both (f := f) (x := 1) (C := fun c' => (∀ a, a ≠ 0 → (a < 83 ∨ 85 < a) → c' a = m a) ∧ (∀ j, j ≠ 9 → c' 0 j = m 0 j) ∧ c' 0 9 = m 203 58 - 1 ∧ StR c' 83 m (rowS m 248 (m 203 58 - 1))) ?_ (fun d hE => ?_)
    · unfold fn_Clock_undo
      rw [u1, if_neg g, bn_eq, mst_miss (by omega), mst_hit]
      rw [w32_in (x := m 203 58 - 1) (by omega) (by omega), w32_in (by omega) (by omega), irm16 (by omega) (by omega), if_pos (by omega)]
      refine TT_call (stCopy_ok (by omega) ?_) (fun r c2 q => TT_some.mpr ⟨rfl, fun a ha => ?_, fun a a0 a1 => ?_, fun j hj => ?_, ?_, ?_⟩)
      · rw [mst_ne (by omega), hi.1.2.2.2.1]
        exact hi.2.2.2.1
      · rw [q.1 a (by omega) (by omega) (by omega), mst_ne (by omega)]
      · rw [q.1 a (by omega) (by omega) (by omega), mst_ne a0]
      · rw [q.1 0 (by omega) (by omega) (by omega), mst_miss hj]
      · rw [q.1 0 (by omega) (by omega) (by omega), mst_hit]
      · exact SameS_StR q.2.2 hH (StR_congr hi (mst_ne (by omega)) (mst_ne (by omega)) (mst_ne (by omega)) rfl)
    · have e58 : mst d 203 0 0 203 58 = m 203 58 := by rw [mst_miss (by omega), hE 203 (by omega)]
      have er : ∀ k, 204 ≤ k → mst d 203 0 0 k = m k := fun k hk => by rw [mst_ne (by omega)]; exact hE k (by omega)
      unfold fn_Model_undo
      rw [bn_eq, e58, if_neg g, bn_eq, mst_hit, w32_in (x := m 203 58 - 1) (by omega) (by omega), w32_in (by omega) (by omega)]
      refine TT_call (copies_ok (by omega) (by omega) (by omega) (by omega) (by omega) (by omega) (by omega)) (fun r d2 q => TT_some.mpr ⟨rfl, fun a ha => ?_, fun c' hc => ?_⟩)
      · rw [q.1 a (by omega), mst_ne (by omega), mst_ne (by omega)]
      · obtain ⟨x1, x2, x3, x4⟩ := hc
        have er2 : ∀ k, 204 ≤ k → k ≠ 245 → d2 k = m k := fun k hk h2 => by rw [q.1 k h2, mst_ne (by omega)]; exact er k hk
        have e203 : ∀ j, j ≠ 0 → j ≠ 58 → d2 203 j = m 203 j := fun j j0 j1 => by rw [q.1 203 (by omega), mst_miss j1, mst_miss j0, hE 203 (by omega)]
        have e203' : d2 203 58 = m 203 58 - 1 := by rw [q.1 203 (by omega), mst_hit]
        obtain ⟨h1, h2, h3, h4, h5, h6, h7, h8, h9, h10⟩ := hR
        have e205 : d2 205 = m 205 := er2 205 (by omega) (by omega)
        refine ⟨TpR_congr h1 (by rw [x1 1 (by omega) (by omega)]) (x1 2 (by omega) (by omega)) (e203 1 (by omega) (by omega)) (er2 204 (by omega) (by omega)), ?_, ?_, ?_, ?_, ?_, ?_, ?_, ⟨?_, ?_, ?_, ?_, ?_, fun i i0 i1 => ?_⟩, ?_⟩
        · rw [x2 2 (by omega), x2 3 (by omega)]; exact h2
        · rw [x2 2 (by omega)]
          have hc0 := h3.2.1.1
          exact HlR_congr h3 (fun k _ _ _ _ => x1 k (by omega) (by omega)) (fun j _ => by rw [x1 _ (by omega) (by omega)]) (fun k _ _ => er2 k (by omega) (by omega))
        · obtain ⟨⟨s0, s1, s2, s3, s4, s5⟩, ⟨t1, t2, t3, t4, t5, t6⟩⟩ := x4
          have hn := hH.1
          have eq : ∀ j : Nat, j < 16 → d2 245 j = rowS m 248 (m 203 58 - 1) j := fun j hj => by
            rw [q.2 j, if_pos (by omega)]
            unfold rowS
            rw [mst_ne (by omega), er 248 (by omega)]
            congr 1
          refine ⟨⟨?_, ?_, ?_, ?_, fun w w0 w1 => ?_, fun x y0 y1 => ?_⟩, ⟨?_, ?_, ?_, fun w w0 w1 => ?_, fun x y0 y1 => ?_, by rw [eq 0 (by omega)]; exact t6⟩⟩
          · rw [eq 0 (by omega)]; exact s0
          · rw [eq 1 (by omega)]; exact s1
          · rw [eq 2 (by omega)]; exact s2
          · rw [eq 3 (by omega)]; exact s3
          · rw [eq _ (by omega)]; exact s4 w w0 w1
          · rw [e205] at y1; rw [eq _ (by omega)]; exact s5 x y0 y1
          · rw [eq 2 (by omega)]; exact t1
          · rw [eq 2 (by omega)]; exact t2
          · rw [eq 3 (by omega)]; exact t3
          · rw [eq _ (by omega)]; exact t4 w w0 w1
          · rw [e205] at y1 ⊢; rw [eq _ (by omega)]; exact t5 x y0 y1
        · exact LnR_congr h5 (by rw [x1 _ (by omega) (by omega)]) (x1 _ (by omega) (by omega)) (x1 _ (by omega) (by omega)) (x1 _ (by omega) (by omega)) e205 (er2 _ (by omega) (by omega)) (er2 _ (by omega) (by omega)) (er2 _ (by omega) (by omega)) (er2 _ (by omega) (by omega))
        · exact SnR_congr h6 (by rw [x1 _ (by omega) (by omega)]) (by rw [x1 _ (by omega) (by omega)]) (x1 _ (by omega) (by omega)) (x1 _ (by omega) (by omega)) e205 (er2 _ (by omega) (by omega)) (er2 _ (by omega) (by omega)) (er2 _ (by omega) (by omega)) (er2 _ (by omega) (by omega))
        · exact TdR_congr h7 (x1 _ (by omega) (by omega)) e205 (er2 _ (by omega) (by omega))
        · exact MkR_congr h8 (fun k k0 k1 => x1 k (by omega) (by omega)) (fun k hk => er2 k (by omega) (by omega))
        · rw [x3, e203']
        · rw [e203']; omega
        · rw [e203']; omega
        · rw [x2 8 (by omega)]; exact u4
        · rw [x2 8 (by omega)]; exact u5
        · rw [e203'] at i1
          rw [x2 8 (by omega)]
          have hm : 0 ≤ (m 0 8 + i) % 16 ∧ (m 0 8 + i) % 16 < 16 := by omega
          have er3 : rowS d2 248 i = rowS m 248 i := by unfold rowS; rw [er2 248 (by omega) (by omega)]
          rw [er3]
          exact StR_congr (u6 i i0 (by omega)) (x1 _ (by omega) (by omega)) (x1 _ (by omega) (by omega)) (x1 _ (by omega) (by omega)) e205
        · rw [er2 243 (by omega) (by omega)]; exact h10
theorem b8_set_all : ∀ x : Nat, x < 256 → ∀ w : Nat, w < 8 → (0 ≤ ior (x : Int) (ishl 1 (w : Int)) ∧ ior (x : Int) (ishl 1 (w : Int)) < 256) ∧ (0 ≤ iand (x : Int) (ixor (ishl 1 (w : Int)) (-1)) ∧ iand (x : Int) (ixor (ishl 1 (w : Int)) (-1)) < 256) ∧ ∀ k : Nat, k < 8 → bt (ior (x : Int) (ishl 1 (w : Int))) (k : Int) = (if k = w then 1 else bt (x : Int) (k : Int)) ∧ bt (iand (x : Int) (ixor (ishl 1 (w : Int)) (-1))) (k : Int) = (if k = w then 0 else bt (x : Int) (k : Int)) := by decide +kernel
theorem b8_set {x w : Int} (h0 : 0 ≤ x) (h1 : x < 256) (h2 : 0 ≤ w) (h3 : w < 8) : (0 ≤ ior x (ishl 1 w) ∧ ior x (ishl 1 w) < 256) ∧ (0 ≤ iand x (ixor (ishl 1 w) (-1)) ∧ iand x (ixor (ishl 1 w) (-1)) < 256) ∧ ∀ k : Int, 0 ≤ k → k < 8 → bt (ior x (ishl 1 w)) k = (if k = w then 1 else bt x k) ∧ bt (iand x (ixor (ishl 1 w) (-1))) k = (if k = w then 0 else bt x k) := by
  obtain ⟨y, hy, rfl⟩ := nn h0 (n := 256) h1
  obtain ⟨q, hq, rfl⟩ := nn h2 (n := 8) h3
  obtain ⟨a1, a2, a3⟩ := b8_set_all y hy q hq
  refine ⟨a1, a2, fun k k0 k1 => ?_⟩
  obtain ⟨u, hu, rfl⟩ := nn k0 (n := 8) k1
  obtain ⟨b1, b2⟩ := a3 u hu
  rw [b1, b2]
  by_cases e : u = q
  · rw [if_pos e, if_pos (by omega), if_pos e, if_pos (by omega)]; exact ⟨rfl, rfl⟩
  · rw [if_neg e, if_neg (by omega), if_neg e, if_neg (by omega)]; exact ⟨rfl, rfl⟩
end Hc
