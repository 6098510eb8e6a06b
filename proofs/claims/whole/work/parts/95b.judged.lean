/-! judged. -/
section Ju
variable {f : Int → Int → Int → Int} {m : Mm}
/-- a state at the beginning -/
def frS (m : Mm) : Nat → Int := fun j => if 16 ≤ j then m 245 j else if j = 2 then w32 (ishl 1 (m 205 1) - 1) else if 10 ≤ j ∧ (j : Int) < 10 + m 205 2 then m 218 (j - 10) else 0
theorem fr_SD (hH : HD m) : SD m (frS m) ∧ ∀ w : Int, 0 ≤ w → w < 6 → frS m (4 + w).toNat = 0 := by
  have hn := hH.1
  obtain ⟨⟨n1, n2, n3⟩, -⟩ := shl_r hn.2.2.1 hn.2.2.2.1
  have e2 : frS m 2 = ishl 1 (m 205 1) - 1 := by unfold frS; rw [if_neg (by omega), if_pos rfl, n3]
  have e0 : frS m 0 = 0 := by unfold frS; rw [if_neg (by omega), if_neg (by omega), if_neg (by omega)]
  have e3 : frS m 3 = 0 := by unfold frS; rw [if_neg (by omega), if_neg (by omega), if_neg (by omega)]
  have e4 : ∀ w : Int, 0 ≤ w → w < 6 → frS m (4 + w).toNat = 0 := fun w w0 w1 => by unfold frS; rw [if_neg (by omega), if_neg (by omega), if_neg (by omega)]
  refine ⟨⟨by omega, by omega, Or.inl e3, fun w w0 w1 => by rw [e4 w w0 w1]; omega, fun x x0 x1 => ?_, by rw [e0]; rfl⟩, e4⟩
  have e : (10 + x).toNat - 10 = x.toNat := by omega
  have hx := hH.2.2.2.2 x x0 x1
  unfold frS
  rw [if_neg (by omega), if_neg (by omega), if_pos (by omega), e]
  exact ⟨hx.1, hx.2.1⟩
theorem begin_ok (hR : RR f m m) {c : Mm} (hq : FQ m c) (hE : EqM m c) : TT (fn_State_begin 95 (m 0 2).toNat c) (fun _ c' => FQ m c' ∧ EqM m c' ∧ StR c' 95 m (frS m)) := by
  have hH := hR.2.2.1.1
  have hn := hH.1
  have hc0 := RR_hc hR
  obtain ⟨l1, l2⟩ := Hl_FQ hR hq
  obtain ⟨t1, t2⟩ := fr_SD hH
  obtain ⟨⟨n1, n2, n3⟩, -⟩ := shl_r hn.2.2.1 hn.2.2.2.1
  unfold fn_State_begin
  simp only [bn_eq]
  have en : mst (mst c 95 0 0) 95 1 0 (m 0 2).toNat 1 = m 205 1 := by rw [mst_ne (by omega), mst_ne (by omega)]; exact l1.2.1.2.2.1
  rw [en]
  refine TT_call (fillI_ok (by omega)) (fun r c2 q => ?_)
  obtain ⟨q1, q2, q3⟩ := q
  simp only [tn0, show (6 : Int).toNat = 6 from rfl]
  have e95 : c2 95 = mst (mst (mst (mst c 95 0 0) 95 1 0) 95 2 (w32 (ishl 1 (m 205 1) - 1))) 95 3 0 95 := q1 95 (by omega)
  have ex : ∀ a, a ≠ 95 → a ≠ 96 → c2 a = c a := fun a a0 a1 => by rw [q1 a a1, mst_ne a0, mst_ne a0, mst_ne a0, mst_ne a0]
  refine TT_some.mpr ⟨?_, ?_, ⟨?_, ?_, ?_, ?_, fun w w0 w1 => ?_, fun x x0 x1 => ?_⟩, t1⟩
  · refine FQ_trans hq ⟨fun a a0 a1 a2 _ _ _ _ => ?_, fun j _ => ?_, fun j _ => ?_, fun j _ => ?_⟩
    · rw [mcp_ne (by omega)]; exact ex a (by omega) (by omega)
    · rw [mcp_ne (by omega), ex 0 (by omega) (by omega)]
    · rw [mcp_ne (by omega), ex 14 (by omega) (by omega)]
    · rw [mcp_ne (by omega), ex 51 (by omega) (by omega)]
  · exact EqM_trans hE (fun a ha => by rw [mcp_ne (by omega)]; exact ex a (by omega) (by omega))
  · rw [mcp_ne (by omega), e95, mst_miss (by omega), mst_miss (by omega), mst_miss (by omega), mst_hit]
    unfold frS
    rw [if_neg (by omega), if_neg (by omega), if_neg (by omega)]
  · rw [mcp_ne (by omega), e95, mst_miss (by omega), mst_miss (by omega), mst_hit]
    unfold frS
    rw [if_neg (by omega), if_neg (by omega), if_neg (by omega)]
  · rw [mcp_ne (by omega), e95, mst_miss (by omega), mst_hit]
    unfold frS
    rw [if_neg (by omega), if_pos rfl]
  · rw [mcp_ne (by omega), e95, mst_hit]
    unfold frS
    rw [if_neg (by omega), if_neg (by omega), if_neg (by omega)]
  · rw [mcp_ne (by omega), q2 _ (by omega), t2 w w0 w1]
    exact ⟨rfl, by omega⟩
  · rw [mcp_hit (by omega) (by omega), Nat.zero_add, Nat.sub_zero, ex _ (by omega) (by omega), (l1.2.2.1 x x0 x1).1]
    unfold frS
    have e : (10 + x).toNat - 10 = x.toNat := by omega
    rw [if_neg (by omega), if_neg (by omega), if_pos (by omega), e]
theorem fresh_ok (hH : HD m) {d : Mm} (e205 : d 205 = m 205) (e218 : d 218 = m 218) (e245 : ∀ j : Nat, 16 ≤ j → d 245 j = m 245 j) : TT (fn_Model_fresh d) (fun _ d' => (∀ a, a ≠ 245 → d' a = d a) ∧ d' 245 = frS m) := by
  have hn := hH.1
  unfold fn_Model_fresh
  refine lp_inv1 (bo := bo_Model_fresh_2) (fun _ => rfl) (fun i d' => 0 ≤ i ∧ i ≤ 16 ∧ (∀ a, a ≠ 245 → d' a = d a) ∧ ∀ j : Nat, ((j : Int) < i → d' 245 j = 0) ∧ (16 ≤ j → d' 245 j = m 245 j)) (fun i _ => (16 - i).toNat) ?_ FU 0 d ⟨by omega, by omega, fun _ _ => rfl, fun j => ⟨fun hj => by omega, e245 j⟩⟩ (by decide)
  intro k i d' hI hk
  obtain ⟨i0, i1, h1, h2⟩ := hI
  unfold bo_Model_fresh_2
  refine TT_if (fun g => ?_) (fun g => ?_)
  · rw [if_pos ⟨i0, g⟩, bn_eq, w32_in (by omega) (by omega)]
    refine hk _ _ ⟨by omega, by omega, fun a ha => by rw [mst_ne ha]; exact h1 a ha, fun j => ⟨fun hj => ?_, fun hj => ?_⟩⟩ (by omega)
    · by_cases g2 : j = i.toNat
      · subst g2; exact mst_hit
      · rw [mst_miss g2]; exact (h2 j).1 (by omega)
    · rw [mst_miss (by omega)]; exact (h2 j).2 hj
  · unfold bo_Model_fresh_21 fn_Model_allWalkers
    rw [h1 205 (by omega), e205, tn1, bd_some, bn_eq, tn2]
    refine lp_inv1 (bo := bo_Model_fresh_33) (fun _ => rfl) (fun x d2 => 0 ≤ x ∧ x ≤ m 205 2 ∧ (∀ a, a ≠ 245 → d2 a = d a) ∧ ∀ j : Nat, d2 245 j = if 16 ≤ j then m 245 j else if j = 2 then w32 (ishl 1 (m 205 1) - 1) else if 10 ≤ j ∧ (j : Int) < 10 + x then m 218 (j - 10) else 0) (fun x _ => (6 - x).toNat) ?_ FU 0 _ ⟨by omega, by omega, fun a ha => by rw [mst_ne ha]; exact h1 a ha, fun j => ?_⟩ (by decide)
    · intro k2 x d2 hI hk2
      obtain ⟨x0, x1, g1, g2⟩ := hI
      unfold bo_Model_fresh_33
      rw [g1 205 (by omega), e205, tn2]
      refine TT_if (fun g3 => ?_) (fun g3 => ?_)
      · rw [if_pos (by omega), w32_in (x := 10 + x) (by omega) (by omega), if_pos (by omega), bn_eq, g1 218 (by omega), e218, w32_in (by omega) (by omega)]
        refine hk2 _ _ ⟨by omega, by omega, fun a ha => by rw [mst_ne ha]; exact g1 a ha, fun j => ?_⟩ (by omega)
        by_cases g4 : j = (10 + x).toNat
        · subst g4
          have e : (10 + x).toNat - 10 = x.toNat := by omega
          rw [mst_hit, if_neg (by omega), if_neg (by omega), if_pos (by omega), e]
        · rw [mst_miss g4, g2 j]
          by_cases a1 : 16 ≤ j
          · rw [if_pos a1, if_pos a1]
          · rw [if_neg a1, if_neg a1]
            by_cases a2 : j = 2
            · rw [if_pos a2, if_pos a2]
            · rw [if_neg a2, if_neg a2]
              by_cases a3 : 10 ≤ j ∧ (j : Int) < 10 + x
              · rw [if_pos a3, if_pos (by omega)]
              · rw [if_neg a3, if_neg (by omega)]
      · have e : x = m 205 2 := by omega
        subst e
        exact TT_some.mpr ⟨g1, funext g2⟩
    · by_cases a1 : 16 ≤ j
      · rw [if_pos a1, mst_miss (by omega)]; exact (h2 j).2 a1
      · rw [if_neg a1]
        by_cases a2 : j = 2
        · subst a2; rw [if_pos rfl, mst_hit]
        · rw [if_neg a2, if_neg (by omega), mst_miss a2]
          exact (h2 j).1 (by omega)
theorem YR_die {d kC kM : Mm} {S : Nat → Int} {w : Int} (h : YR m d S kC kM) (w0 : 0 ≤ w) (w1 : w < 6) : YR m d (putS 2 (iand (S 2) (ixor (ishl 1 w) (-1))) S) (mst kC 95 2 (iand (S 2) (ixor (ishl 1 w) (-1)))) (mst kM 245 2 (iand (S 2) (ixor (ishl 1 w) (-1)))) := by
  obtain ⟨h1, h2, h3, h4, h5, h6, h7, h8, h9, h10⟩ := h
  obtain ⟨⟨s0, s1, s2, s3, s4, s5⟩, ⟨t1, t2, t3, t4, t5, t6⟩⟩ := h3
  have br := bt_clr_r t1 t2 w0 w1
  generalize iand (S 2) (ixor (ishl 1 w) (-1)) = v at *
  have q := FQ_95 (c := kC) (a := 95) (j := 2) (v := v) (by omega)
  refine ⟨FQ_trans h1 q.1, EqM_trans h2 q.2, ⟨⟨?_, ?_, ?_, ?_, fun x x0 x1 => ?_, fun x x0 x1 => ?_⟩, ⟨?_, ?_, ?_, fun x x0 x1 => ?_, fun x x0 x1 => ?_, by rw [put_n (by omega)]; exact t6⟩⟩, fun a a0 a1 a2 a3 a4 => ?_, ?_, ?_, fun a ha => ?_, ?_, fun j hj => ?_, fun j hj => ?_⟩
  · rw [mst_miss (by omega), put_n (by omega)]; exact s0
  · rw [mst_miss (by omega), put_n (by omega)]; exact s1
  · rw [mst_hit, put_h]
  · rw [mst_miss (by omega), put_n (by omega)]; exact s3
  · rw [mst_ne (by omega), put_n (by omega)]; exact s4 x x0 x1
  · rw [mst_ne (by omega), put_n (by omega)]; exact s5 x x0 x1
  · rw [put_h]; exact br.1
  · rw [put_h]; exact br.2
  · rw [put_n (by omega)]; exact t3
  · rw [put_n (by omega)]; exact t4 x x0 x1
  · rw [put_n (by omega)]; exact t5 x x0 x1
  · rw [mst_ne a2]; exact h4 a a0 a1 a2 a3 a4
  · rw [mst_ne (by omega)]; exact h5
  · rw [mst_ne (by omega)]; exact h6
  · rw [mst_ne (by omega)]; exact h7 a ha
  · rw [mst_row_put, h8]
  · rw [mst_ne (by omega)]; exact h9 j hj
  · rw [put_n (by omega)]; exact h10 j hj
theorem YR_dep {d kC kM : Mm} {S : Nat → Int} {x w : Int} (h : YR m d S kC kM) (x0 : 0 ≤ x) (x1 : x < 6) (w0 : 0 ≤ w) (w1 : w < m 205 1) : YR m d (putS (10 + x).toNat w S) (mst kC 97 x.toNat w) (mst kM 245 (10 + x).toNat w) := by
  obtain ⟨h1, h2, h3, h4, h5, h6, h7, h8, h9, h10⟩ := h
  obtain ⟨⟨s0, s1, s2, s3, s4, s5⟩, ⟨t1, t2, t3, t4, t5, t6⟩⟩ := h3
  have q := FQ_95 (c := kC) (a := 97) (j := x.toNat) (v := w) (by omega)
  refine ⟨FQ_trans h1 q.1, EqM_trans h2 q.2, ⟨⟨?_, ?_, ?_, ?_, fun y y0 y1 => ?_, fun y y0 y1 => ?_⟩, ⟨?_, ?_, ?_, fun y y0 y1 => ?_, fun y y0 y1 => ?_, by rw [put_n (by omega)]; exact t6⟩⟩, fun a a0 a1 a2 a3 a4 => ?_, ?_, ?_, fun a ha => ?_, ?_, fun j hj => ?_, fun j hj => ?_⟩
  · rw [mst_ne (by omega), put_n (by omega)]; exact s0
  · rw [mst_ne (by omega), put_n (by omega)]; exact s1
  · rw [mst_ne (by omega), put_n (by omega)]; exact s2
  · rw [mst_ne (by omega), put_n (by omega)]; exact s3
  · rw [mst_ne (by omega), put_n (by omega)]; exact s4 y y0 y1
  · by_cases g : y = x
    · subst g; rw [mst_hit, put_h]
    · rw [mst_miss (by omega), put_n (by omega)]; exact s5 y y0 y1
  · rw [put_n (by omega)]; exact t1
  · rw [put_n (by omega)]; exact t2
  · rw [put_n (by omega)]; exact t3
  · rw [put_n (by omega)]; exact t4 y y0 y1
  · by_cases g : y = x
    · subst g; rw [put_h]; omega
    · rw [put_n (by omega)]; exact t5 y y0 y1
  · rw [mst_ne a2]; exact h4 a a0 a1 a2 a3 a4
  · rw [mst_ne (by omega)]; exact h5
  · rw [mst_ne (by omega)]; exact h6
  · rw [mst_ne (by omega)]; exact h7 a ha
  · rw [mst_row_put, h8]
  · rw [mst_ne (by omega)]; exact h9 j hj
  · rw [put_n (by omega)]; exact h10 j hj
/-- a line that is no day: whether it can be, and what it does -/
theorem line_rel (hR : RR f m m) {d kC kM : Mm} {S : Nat → Int} (hY : YR m d S kC kM) {i : Int} (i0 : 0 ≤ i) (i1 : i < m 236 0) (h4 : m 237 i.toNat ≠ 4) : fn_Lines_isDay 86 i kC = some (0, kC) ∧ ((fn_Lines_can 86 i (m 0 2).toNat 95 kC = some (0, kC) ∧ fn_Model_goes i kM = some (0, kM)) ∨ ∃ (r : Int) (kC' kM' : Mm) (S' : Nat → Int), fn_Lines_can 86 i (m 0 2).toNat 95 kC = some (1, kC) ∧ fn_Lines_happen 86 i 95 kC = some (r, kC') ∧ fn_Model_goes i kM = some (1, kM') ∧ YR m d S' kC' kM' ∧ kM' 203 = kM 203) := by
  have hH := hR.2.2.1.1
  have hn := hH.1
  obtain ⟨l1, l2⟩ := Hl_FQ hR hY.1
  obtain ⟨z1, z2, z3, z4⟩ := hR.2.2.2.2.1
  have e0 : (0 : Int).toNat = 0 := rfl
  rw [e0] at z1 z2 z3 z4
  obtain ⟨y1, y2, y3, y4, y5, y6⟩ := z4 i i0 i1
  have ei : (30 * 0 + i).toNat = i.toNat := by omega
  rw [ei] at y1 y2 y3 y4 y5 y6
  have hi : 0 ≤ i ∧ i < 30 := by omega
  have q87 : kC 87 = m 87 := hY.1.1 87 (by omega) (by omega) (by omega) (by omega) (by omega) (by omega) (by omega)
  have q88 : kC 88 = m 88 := hY.1.1 88 (by omega) (by omega) (by omega) (by omega) (by omega) (by omega) (by omega)
  have q89 : kC 89 = m 89 := hY.1.1 89 (by omega) (by omega) (by omega) (by omega) (by omega) (by omega) (by omega)
  have w237 : kM 237 = m 237 := hY.2.2.2.1 237 (by omega) (by omega) (by omega) (by omega) (by omega)
  have w238 : kM 238 = m 238 := hY.2.2.2.1 238 (by omega) (by omega) (by omega) (by omega) (by omega)
  have w239 : kM 239 = m 239 := hY.2.2.2.1 239 (by omega) (by omega) (by omega) (by omega) (by omega)
  have h245 : kM 245 = S := hY.2.2.2.2.2.2.2.1
  have hsr := hY.2.2.1
  have e1 : kC (86 + 1) i.toNat = m 237 i.toNat := by rw [q87]; exact y1
  refine ⟨?_, ?_⟩
  · unfold fn_Lines_isDay
    rw [if_pos hi, e1, if_neg h4]
  · have hk : m 237 i.toNat = 0 ∨ m 237 i.toNat = 1 ∨ m 237 i.toNat = 2 ∨ m 237 i.toNat = 3 := by omega
    have eg : fn_Model_goes i kM = (if m 237 i.toNat = 0 then (if 0 ≤ w32 (4 + m 238 i.toNat) ∧ w32 (4 + m 238 i.toNat) < 16 then bn (mst kM 245 (w32 (4 + m 238 i.toNat)).toNat (m 239 i.toNat)) fun m8 => some (1, m8) else none) else (if m 237 i.toNat = 1 then (bd (fn_Model_isAlive (m 238 i.toNat) kM) fun r9 m10 => if r9 = 0 then (some (0, m10)) else (bn (mst m10 245 (2 : Int).toNat (iand (m10 245 (2 : Int).toNat) (ixor (ishl 1 (m 238 i.toNat)) (-1)))) fun m11 => some (1, m11))) else (if m 237 i.toNat = 2 then (if 0 ≤ w32 (10 + m 238 i.toNat) ∧ w32 (10 + m 238 i.toNat) < 16 then if (kM 245 (w32 (10 + m 238 i.toNat)).toNat) = m 239 i.toNat then (some (0, kM)) else (bd (fn_Model_canStand (m 238 i.toNat) (m 239 i.toNat) kM) fun r13 m14 => if r13 = 0 then (some (0, m14)) else (if 0 ≤ w32 (10 + m 238 i.toNat) ∧ w32 (10 + m 238 i.toNat) < 16 then bn (mst m14 245 (w32 (10 + m 238 i.toNat)).toNat (m 239 i.toNat)) fun m16 => some (1, m16) else none)) else none) else (if m 237 i.toNat = 3 then (if (kM 245 (3 : Int).toNat) = 1 then (some (0, kM)) else (bn (mst kM 245 (3 : Int).toNat 1) fun m17 => some (1, m17))) else (bd (fn_Model_passes kM) fun r18 m19 => some (1, m19)))))) := by
      unfold fn_Model_goes
      rw [if_pos (by omega), bn_eq, if_pos (by omega), bn_eq, if_pos (by omega), bn_eq, w237, w238, w239]
    rw [eg]
    rcases hk with k0 | k0 | k0 | k0
    · -- late
      obtain ⟨a1, a2, a3, a4, a5, a6⟩ := y4 k0
      refine Or.inr ⟨0, mst kC 96 (m 238 i.toNat).toNat (m 239 i.toNat), mst kM 245 (4 + m 238 i.toNat).toNat (m 239 i.toNat), putS (4 + m 238 i.toNat).toNat (m 239 i.toNat) S, ?_, ?_, ?_, YR_late hY a3 (by omega) a5 a6, mst_ne (by omega)⟩
      · unfold fn_Lines_can
        rw [if_pos hi, e1, k0]
        rfl
      · unfold fn_Lines_happen
        have f2 : kC (86 + 2) i.toNat = m 238 i.toNat := by rw [q88]; exact a1
        have f3 : kC (86 + 3) i.toNat = m 239 i.toNat := by rw [q89]; exact a2
        rw [if_pos hi, e1, k0, f2, f3]
        show (if 0 ≤ i ∧ i < 30 then if 0 ≤ i ∧ i < 30 then if 0 ≤ m 238 i.toNat ∧ m 238 i.toNat < 6 then bn (mst kC (95 + 1) (m 238 i.toNat).toNat (m 239 i.toNat)) fun m5 => some (0, m5) else none else none else none) = _
        rw [if_pos hi, if_pos hi, if_pos (by omega), bn_eq]
      · rw [if_pos k0, w32_in (by omega) (by omega), if_pos (by omega), bn_eq]
    · -- dies
      obtain ⟨a1, a2, a3⟩ := y5 k0
      have f2 : kC (86 + 2) i.toNat = m 238 i.toNat := by rw [q88]; exact a1
      have ec : fn_Lines_can 86 i (m 0 2).toNat 95 kC = some (if bt (S 2) (m 238 i.toNat) = 0 then 0 else 1, kC) := by
        unfold fn_Lines_can
        rw [if_pos hi, e1, k0, f2]
        show (if 0 ≤ i ∧ i < 30 then bd (fn_State_lives 95 (m 238 i.toNat) kC) (fun r3 m4 => if r3 = 0 ∨ r3 = 1 then some (r3, m4) else none) else none) = _
        rw [if_pos hi, lives_eq, bd_some, hsr.1.2.2.1, if_pos (by split <;> simp)]
      rcases bt_01 hsr.2.1 hsr.2.2.1 a2 (by omega : m 238 i.toNat < 6) with b | b
      · refine Or.inl ⟨?_, ?_⟩
        · rw [ec, b]; rfl
        · rw [if_neg (by omega), if_pos k0, m_isAlive, bd_some, h245, b, iz0, if_pos rfl]
      · refine Or.inr ⟨0, mst kC 95 2 (iand (S 2) (ixor (ishl 1 (m 238 i.toNat)) (-1))), mst kM 245 2 (iand (S 2) (ixor (ishl 1 (m 238 i.toNat)) (-1))), _, ?_, ?_, ?_, YR_die hY a2 (by omega), mst_ne (by omega)⟩
        · rw [ec, b]; rfl
        · unfold fn_Lines_happen
          rw [if_pos hi, e1, k0, f2]
          show (if 0 ≤ i ∧ i < 30 then bd (fn_State_bury 95 (m 238 i.toNat) kC) (fun r7 m8 => some (0, m8)) else none) = _
          unfold fn_State_bury
          rw [if_pos hi, bn_eq, bd_some, hsr.1.2.2.1]
        · rw [if_neg (by omega), if_pos k0, m_isAlive, bd_some, h245, b, iz2, if_neg (by decide : ¬ (1 : Int) = 0), bn_eq, tn2]
    · -- deputy
      obtain ⟨a1, a2, a3, a4, a5, a6⟩ := y6 k0
      have f2 : kC (86 + 2) i.toNat = m 239 i.toNat := by rw [q88]; exact a2
      have f3 : kC (86 + 3) i.toNat = m 238 i.toNat := by rw [q89]; exact a1
      obtain ⟨x, x0, x1, x2⟩ := canDep_rel hH hsr.2 l1.2.1 l1.2.2.1 hsr.1 (YR_FM2 hY) h245 a3 a4 a5 a6
      have ec : fn_Lines_can 86 i (m 0 2).toNat 95 kC = some (if S (10 + m 238 i.toNat).toNat = m 239 i.toNat then 0 else x, kC) := by
        unfold fn_Lines_can
        rw [if_pos hi, e1, k0, f2, f3]
        show (if 0 ≤ i ∧ i < 30 then if 0 ≤ i ∧ i < 30 then bd (fn_State_canDepute 95 (m 0 2).toNat (m 238 i.toNat) (m 239 i.toNat) kC) (fun r8 m9 => if r8 = 0 ∨ r8 = 1 then some (r8, m9) else none) else none else none) = _
        rw [if_pos hi, if_pos hi, x1, bd_some, if_pos]
        split
        · exact Or.inl rfl
        · exact x0
      by_cases g : S (10 + m 238 i.toNat).toNat = m 239 i.toNat
      · refine Or.inl ⟨?_, ?_⟩
        · rw [ec, if_pos g]
        · rw [if_neg (by omega), if_neg (by omega), if_pos k0, w32_in (by omega) (by omega), if_pos (by omega), h245, if_pos g]
      · rcases x0 with rfl | rfl
        · refine Or.inl ⟨?_, ?_⟩
          · rw [ec, if_neg g]
          · rw [if_neg (by omega), if_neg (by omega), if_pos k0, w32_in (by omega) (by omega), if_pos (by omega), h245, if_neg g, x2, bd_some, if_pos rfl]
        · refine Or.inr ⟨0, mst kC 97 (m 238 i.toNat).toNat (m 239 i.toNat), mst kM 245 (10 + m 238 i.toNat).toNat (m 239 i.toNat), _, ?_, ?_, ?_, YR_dep hY a3 (by omega) a5 a6, mst_ne (by omega)⟩
          · rw [ec, if_neg g]
          · unfold fn_Lines_happen
            rw [if_pos hi, e1, k0, f2, f3]
            show (if 0 ≤ i ∧ i < 30 then if 0 ≤ i ∧ i < 30 then if 0 ≤ m 238 i.toNat ∧ m 238 i.toNat < 6 then bn (mst kC (95 + 2) (m 238 i.toNat).toNat (m 239 i.toNat)) fun m12 => some (0, m12) else none else none else none) = _
            rw [if_pos hi, if_pos hi, if_pos (by omega), bn_eq]
          · rw [if_neg (by omega), if_neg (by omega), if_pos k0, w32_in (by omega) (by omega), if_pos (by omega), h245, if_neg g, x2, bd_some, if_neg (by decide : ¬ (1 : Int) = 0), if_pos (by omega), bn_eq]
    · -- snow
      have ec : fn_Lines_can 86 i (m 0 2).toNat 95 kC = some (if S 3 = 0 then 1 else 0, kC) := by
        unfold fn_Lines_can
        rw [if_pos hi, e1, k0]
        show (if kC 95 3 = 0 then some (1, kC) else some (0, kC)) = _
        rw [hsr.1.2.2.2.1]
        exact some_ite _ _ _
      rcases hsr.2.2.2.1 with b | b
      · refine Or.inr ⟨0, mst kC 95 3 1, mst kM 245 3 1, _, ?_, ?_, ?_, YR_snow hY, mst_ne (by omega)⟩
        · rw [ec, if_pos b]
        · unfold fn_Lines_happen
          rw [if_pos hi, e1, k0]
          rfl
        · rw [if_neg (by omega), if_neg (by omega), if_neg (by omega), if_pos k0, h245, tn3, b, if_neg (by decide : ¬ (0 : Int) = 1), bn_eq]
      · refine Or.inl ⟨?_, ?_⟩
        · rw [ec, b]; rfl
        · rw [if_neg (by omega), if_neg (by omega), if_neg (by omega), if_pos k0, h245, tn3, b, if_pos rfl]
end Ju
