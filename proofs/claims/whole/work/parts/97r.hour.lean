/-! An hour is told. -/
section Ho
variable {hc : Nat}
theorem HR_hour {c d : Mm} {n nm : Int} (H : HR hc c d) (k1 : c hc 2 = n) (n6 : n < 6) (W : HoR c hc d n) (N : NmR (c (hc + 3) n.toNat) nm) : HR hc (mst c hc 2 (n + 1)) (mst (mst d 208 (6 + n).toNat nm) 205 7 (n + 1)) := by
  obtain ⟨c1, c2, c3, c4, c5, c6⟩ := HR_cnt H
  obtain ⟨h1, h2, h3, h4, h5, h6, h7, h8⟩ := H
  have G : FXc (fun a j => a = hc ∧ j = 2) c (mst c hc 2 (n + 1)) := FXc_m ⟨rfl, rfl⟩
  have G' : FXm (fun a j => (a = 205 ∧ j = 7) ∨ (a = 208 ∧ j = (6 + n).toNat)) d (mst (mst d 208 (6 + n).toNat nm) 205 7 (n + 1)) := FXm_trans (FXm_m (Or.inr ⟨rfl, rfl⟩)) (FXm_m (Or.inl ⟨rfl, rfl⟩))
  have q1 : mst c hc 2 (n + 1) hc 2 = n + 1 := mst_hit
  have q2 : mst (mst d 208 (6 + n).toNat nm) 205 7 (n + 1) 205 7 = n + 1 := mst_hit
  have q4 : mst (mst d 208 (6 + n).toNat nm) 205 7 (n + 1) 208 (6 + n).toNat = nm := by rw [mst_ne (by omega), mst_hit]
  revert G G' q1 q2 q4
  generalize mst c hc 2 (n + 1) = cf
  generalize mst (mst d 208 (6 + n).toNat nm) 205 7 (n + 1) = df
  intro G G' q1 q2 q4
  have f5 : df 205 5 = d 205 5 := gm G' (by omega) (by omega)
  have f6 : df 205 6 = d 205 6 := gm G' (by omega) (by omega)
  have k0' : cf hc 0 = c hc 0 := gc G (by omega) (by omega)
  have k1' : cf hc 1 = c hc 1 := gc G (by omega) (by omega)
  refine ⟨h1, ?_, ?_, ?_, ?_, ?_, ?_, ?_⟩
  · rw [gc G (by omega) (by omega)]; exact h2
  · unfold NmX NsO at h3 ⊢
    have t0 : (5 * 1 + 0 : Int).toNat = 5 := rfl
    have t1 : (5 * 1 + 1 : Int).toNat = 6 := rfl
    have t2 : (5 * 1 + 2 : Int).toNat = 7 := rfl
    rw [t0, t1, t2] at h3 ⊢
    rw [q1, q2, f5, f6, k0', k1']
    obtain ⟨l1, l2, l3, l4, l5, l6, l7, l8, l9⟩ := h3
    refine ⟨l1, l2, rfl, l4, l5, by omega, fun i i0 i1 => ?_, fun i i0 i1 => ?_, fun i i0 i1 => ?_⟩
    · rw [gc G (by omega) (by omega), gm G' (by omega) (by omega)]
      exact l7 i i0 (by omega)
    · rw [gc G (by omega) (by omega), gm G' (by omega) (by omega)]
      exact l8 i i0 (by omega)
    · by_cases z2 : i = n
      · have e6 : 6 * 1 + i = 6 + n := by omega
        rw [e6, z2, q4, gc G (by omega) (by omega)]
        exact N
      · rw [gc G (by omega) (by omega), gm G' (by omega) (by omega)]
        exact l9 i i0 (by omega)
  · rw [gc G (by omega) (by omega), gc G (by omega) (by omega), gm G' (by omega) (by omega), gm G' (by omega) (by omega)]; exact h4
  · exact PaR_congr h5 (gcr G (by omega) (fun j => by omega)) (gmr G' (by omega) (fun j => by omega)) (by omega)
  · rw [f6]
    exact HR_wk h6 G G' h1 (fun a j a0 a1 => by omega) (fun a j a0 a1 => by omega) (fun j a1 => by omega) (fun a j a0 a1 => by omega) (by omega) (by omega)
  · rw [q2]
    have h7' : ∀ w : Int, 0 ≤ w → w < n + 1 → HoR c hc d w := fun w w0 w1 => by
      by_cases z : w = n
      · rw [z]; exact W
      · exact h7 w w0 (by omega)
    exact HR_ho h7' G G' h1 (fun a j a0 a1 a2 => by omega) (fun a j a0 a1 a2 => by omega) (by omega) (by omega)
  · exact HR_lw h8 G G' h1 (fun a j a0 => by omega) (fun a j a0 => by omega)
theorem pass2_ok {c d : Mm} {X : Nat} {w p : Int} (w0 : 0 ≤ w) (w1 : w < 6) (e4 : c X 4 = d 215 (6 + w).toNat) (m0 : 0 ≤ c X 4) (m4 : c X 4 ≤ 4) (ei : ∀ i : Int, 0 ≤ i → i < c X 4 → c (X + 1) i.toNat = d 214 (24 + 4 * w + i).toNat) : ∃ b, fn_Walker_passes X p c = some (b, c) ∧ fn_Model_isOf 1 w p d = some (b, d) ∧ (b = 0 ∨ b = 1) := by
  have key : ∀ (j k k' : Nat) (i : Int), i + j = c X 4 → 0 ≤ i → j < k → j < k' → ∃ b, lp_Walker_passes_2 X p k i c = some (b, c) ∧ lp_Model_isOf_3 1 w p k' i d = some (b, d) ∧ (b = 0 ∨ b = 1) := by
    intro j
    induction j with
    | zero =>
      intro k k' i h1 h2 h3 h4
      obtain ⟨k, rfl⟩ : ∃ t, k = t + 1 := ⟨k - 1, by omega⟩
      obtain ⟨k', rfl⟩ : ∃ t, k' = t + 1 := ⟨k' - 1, by omega⟩
      refine ⟨0, ?_, ?_, Or.inl rfl⟩
      · show bo_Walker_passes_2 X p _ i c = _
        unfold bo_Walker_passes_2
        rw [if_neg (by omega : ¬ i < c X 4)]
      · show bo_Model_isOf_3 1 w p _ i d = _
        unfold bo_Model_isOf_3
        rw [w32_in (x := 6 * 1) (by omega) (by omega), w32_in (x := 6 * 1 + w) (by omega) (by omega), if_pos (by omega : 0 ≤ 6 * 1 + w ∧ 6 * 1 + w < 12)]
        have e : 6 * 1 + w = 6 + w := by omega
        rw [e, ← e4, if_neg (by omega : ¬ i < c X 4)]
    | succ j ih =>
      intro k k' i h1 h2 h3 h4
      obtain ⟨k, rfl⟩ : ∃ t, k = t + 1 := ⟨k - 1, by omega⟩
      obtain ⟨k', rfl⟩ : ∃ t, k' = t + 1 := ⟨k' - 1, by omega⟩
      have eC : lp_Walker_passes_2 X p (k + 1) i c = if c (X + 1) i.toNat = p then some (1, c) else lp_Walker_passes_2 X p k (i + 1) c := by
        show bo_Walker_passes_2 X p _ i c = _
        unfold bo_Walker_passes_2
        rw [if_pos (by omega : i < c X 4), if_pos (by omega : 0 ≤ i ∧ i < 4), w32_in (x := i + 1) (by omega) (by omega)]
      have eM : lp_Model_isOf_3 1 w p (k' + 1) i d = if c (X + 1) i.toNat = p then some (1, d) else lp_Model_isOf_3 1 w p k' (i + 1) d := by
        show bo_Model_isOf_3 1 w p _ i d = _
        unfold bo_Model_isOf_3
        have e : 6 * 1 + w = 6 + w := by omega
        have e2 : 24 * 1 + 4 * w + i = 24 + 4 * w + i := by omega
        rw [w32_in (x := 6 * 1) (by omega) (by omega), w32_in (x := 6 * 1 + w) (by omega) (by omega), if_pos (by omega : 0 ≤ 6 * 1 + w ∧ 6 * 1 + w < 12), e, ← e4, if_pos (by omega : i < c X 4), w32_in (x := 24 * 1) (by omega) (by omega), w32_in (x := 4 * w) (by omega) (by omega), w32_in (x := 24 * 1 + 4 * w) (by omega) (by omega), w32_in (x := 24 * 1 + 4 * w + i) (by omega) (by omega), e2, if_pos (by omega : 0 ≤ 24 + 4 * w + i ∧ 24 + 4 * w + i < 48), ← ei i h2 (by omega), w32_in (x := i + 1) (by omega) (by omega)]
      rw [eC, eM]
      by_cases z : c (X + 1) i.toNat = p
      · rw [if_pos z, if_pos z]
        exact ⟨1, rfl, rfl, Or.inr rfl⟩
      · rw [if_neg z, if_neg z]
        exact ih k k' (i + 1) (by omega) (by omega) (by omega) (by omega)
  exact key (c X 4).toNat FU FU 0 (by omega) (by omega) (by show (c X 4).toNat < 2000; omega) (by show (c X 4).toNat < 2000; omega)
/-- from the minute on -/
theorem hour_tail {c0 d0 c d : Mm} {n n0 n1 w p nm : Int} (S : SX (PH hc) QH c0 d0 c d) (H : HR hc c d) (k0 : c hc 0 = n0) (k1 : c hc 1 = n1) (k2 : c hc 2 = n) (m0 : 0 ≤ n) (m1 : n < 6) (w0 : 0 ≤ w) (w1 : w < d 205 6) (p0 : 0 ≤ p) (p1 : p < d 205 5) (e1 : d 218 (6 + n).toNat = w) (e2 : d 219 (6 + n).toNat = p) (N : NmR (c (hc + 3) n.toNat) nm) :
    LR hc c0 d0 (bd (fn_Tape_take (-14) c) fun r12 m13 => if r12 = 0 then (bo_HillsReader_readHour_124 n w p (-1) m13) else (bd (fn_Tape_takeNumber 0 239 m13) fun r14 m15 => bo_HillsReader_readHour_124 n w p r14 m15)) (bd (fn_Model_needsBoth 262 0 239 d) fun r32 m33 => if r32 = 0 then (some (0, m33)) else (if 0 ≤ 6 + n ∧ 6 + n < 12 then bn (mst m33 220 (6 + n).toNat (m33 203 42)) fun m35 => if 0 ≤ 6 + n ∧ 6 + n < 12 then bn (mst m35 208 (6 + n).toNat nm) fun m37 => bn (mst m37 205 (7 : Int).toNat (w32 ((m37 205 (7 : Int).toNat) + 1))) fun m38 => bd (fn_Model_closes m38) fun r39 m40 => if r39 = 0 ∨ r39 = 1 then some (r39, m40) else none else none else none)) := by
  have h1 := H.1
  have cnt := HR_cnt H
  unfold fn_Model_needsBoth
  obtain ⟨r, c1, d1, w1', w2, w3, w4, w5⟩ := word_ok (k := 12) (x := 262) (w := -14) S.2.2.1 (by decide) rfl (by decide)
  rw [w1', w2, bd_some, bd_some]
  unfold bo_HillsReader_readHour_124
  rcases w5 with ⟨y, w5, w6⟩ | ⟨y, w5⟩
  · have S1 := SX_p S w3 w4 w5 w6
    have H1 := HR_p H w3 w4
    rw [if_neg (by omega : ¬ r = 0), if_neg (by omega : ¬ r = 0)]
    obtain ⟨v, rv, c2, d2, t1, t2, t3, t4, t5⟩ := number_ok (lo := 0) (hi := 239) S1.2.2.1 (by omega)
    rw [t1, t2, bd_some, bd_some]
    rcases t5 with ⟨y2, t5, t6, t7, t8, t9⟩ | ⟨y2, t5, t6⟩
    · have S2 := SX_p S1 t3 t4 t8 t9
      have H2 := HR_p H1 t3 t4
      have qc : ∀ a, a ≠ 1 → c2 a = c a := fun a ha => by rw [t3.1 _ ha, w3.1 _ ha]
      have qd : ∀ a, a ≠ 203 → d2 a = d a := fun a ha => by rw [t4.1 _ ha, w4.1 _ ha]
      have hK : isK 0 (c2 3 1) = true := isK0 (by have := H2.2.1; omega)
      have e3 : (c2 3 1).toNat = hc := by have := H2.2.1; omega
      have m3 : ∀ i x, mst c2 (hc + 7) i x 3 1 = c2 3 1 := fun i x => by rw [mst_ne (by omega)]
      have m4 : ∀ i x i' x', mst (mst c2 (hc + 7) i x) (hc + 8) i' x' 3 1 = c2 3 1 := fun i x i' x' => by rw [mst_ne (by omega), mst_ne (by omega)]
      have m5 : ∀ i x i' x' i2 x2, mst (mst (mst c2 (hc + 7) i x) (hc + 8) i' x') (hc + 9) i2 x2 3 1 = c2 3 1 := fun i x i' x' i2 x2 => by rw [mst_ne (by omega), mst_ne (by omega), mst_ne (by omega)]
      have m6 : ∀ i x i' x' i2 x2, mst (mst (mst c2 (hc + 7) i x) (hc + 8) i' x') (hc + 9) i2 x2 hc 2 = n := fun i x i' x' i2 x2 => by rw [mst_ne (by omega), mst_ne (by omega), mst_ne (by omega), qc _ (by omega)]; exact k2
      have t7' : (7 : Int).toNat = 7 := rfl
      have m7 : ∀ x y, mst (mst d2 220 (6 + n).toNat x) 208 (6 + n).toNat y 205 7 = n := fun x y => by rw [mst_ne (by omega), mst_ne (by omega), qd _ (by omega), ← cnt.2.2.1]; exact k2
      rw [if_neg (by omega : ¬ v = -1), if_neg (by omega : ¬ rv = 0), bd_some, if_neg (by omega : ¬ (1 : Int) = 0), if_pos hK, if_pos (by omega : 0 ≤ n ∧ n < 6), e3, bn_eq, m3, if_pos hK, if_pos (by omega : 0 ≤ n ∧ n < 6), e3, bn_eq, m4, if_pos hK, if_pos (by omega : 0 ≤ n ∧ n < 6), e3, bn_eq, m5, if_pos hK, e3, m6, bn_eq, if_pos (by omega : 0 ≤ 6 + n ∧ 6 + n < 12), t7, bn_eq, if_pos (by omega : 0 ≤ 6 + n ∧ 6 + n < 12), bn_eq, t7', m7, bn_eq, w32_in (x := n + 1) (by omega) (by omega)]
      have S3 : SX (PH hc) QH c0 d0 (mst (mst (mst c2 (hc + 7) n.toNat w) (hc + 8) n.toNat p) (hc + 9) n.toNat v) (mst d2 220 (6 + n).toNat v) := SX_md (SX_mc (SX_mc (SX_mc S2 (Or.inr (by omega)) (by omega) (by omega)) (Or.inr (by omega)) (by omega) (by omega)) (Or.inr (by omega)) (by omega) (by omega)) (Or.inr ⟨by omega, by omega, by show 6 ≤ _; omega⟩) (by omega) (by omega)
      have H3 : HR hc (mst (mst (mst c2 (hc + 7) n.toNat w) (hc + 8) n.toNat p) (hc + 9) n.toNat v) (mst d2 220 (6 + n).toNat v) := HR_pend H2 (n0 := n0) (n1 := n1) (n2 := n) (by rw [qc _ (by omega)]; exact k0) (by rw [qc _ (by omega)]; exact k1) (by rw [qc _ (by omega)]; exact k2) (FXc_trans (FXc_trans (FXc_m (by unfold PW; omega)) (FXc_m (by unfold PW; omega))) (FXc_m (by unfold PW; omega))) (FXm_m (by unfold QW; omega))
      have W : HoR (mst (mst (mst c2 (hc + 7) n.toNat w) (hc + 8) n.toNat p) (hc + 9) n.toNat v) hc (mst d2 220 (6 + n).toNat v) n := by
        unfold HoR
        rw [mst_ne (by omega : hc + 7 ≠ hc + 9), mst_ne (by omega : hc + 7 ≠ hc + 8), mst_hit, mst_ne (by omega : hc + 8 ≠ hc + 9), mst_hit, mst_hit, mst_ne (by omega : (218 : Nat) ≠ 220), mst_ne (by omega : (219 : Nat) ≠ 220), mst_ne (by omega : (205 : Nat) ≠ 220), mst_hit, qd 218 (by omega), qd 219 (by omega), qd 205 (by omega), e1, e2]
        exact ⟨⟨rfl, w0, w1⟩, ⟨rfl, p0, p1⟩, rfl, by omega, by omega⟩
      refine LR_fin ?_ (HR_hour H3 ?_ m1 W ?_)
      · exact SX_md (SX_md (SX_mc S3 (Or.inr (by omega)) (by omega) (by omega)) (Or.inr ⟨by omega, by omega, by show 6 ≤ _; omega⟩) (by omega) (by omega)) (Or.inr ⟨by omega, by omega, by show 5 ≤ 7; omega⟩) (by omega) (by omega)
      · exact m6 _ _ _ _ _ _
      · rw [mst_ne (by omega), mst_ne (by omega), mst_ne (by omega), qc _ (by omega)]; exact N
    · rw [if_pos t5, if_pos y2, bd_some, if_pos rfl]
      exact LR_fail2 S1 (FXc_p t3) (FXm_p t4) t6
  · rw [if_pos y, if_pos y, if_pos rfl, bd_some, if_pos rfl]
    exact LR_fail2 S (FXc_p w3) (FXm_p w4) w5
theorem hour_line {c d : Mm} (h : TkR c d) (hk : ¬ c 1 6 = 1) (hH : HR hc c d) : LR hc c d (clN (c hc 2) fn_HillsReader_readHour c) (fn_Model_readsHour d) := by
  obtain ⟨n0', n1', n2', n0r, n1r, n2r⟩ := HR_cnt hH
  have h1 := hH.1
  have pid : ∀ a j, PH hc a j → PH hc a j := fun _ _ z => z
  have qid : ∀ a j, QH a j → QH a j := fun _ _ z => z
  unfold clN fn_HillsReader_canBegin fn_Model_readsHour
  have t7 : (7 : Int).toNat = 7 := rfl
  rw [t7, ← n2', bn_eq, w32_in (x := 6 + c hc 2) (by omega) (by omega)]
  by_cases y : c hc 2 < 6
  · rw [if_pos y, if_neg (by omega : ¬ 6 + c hc 2 = 12)]
    obtain ⟨c1, d1, v1, v2, S1, g1, g1'⟩ := SX_first (P := PH hc) (Q := QH) h hk FXc_refl FXm_refl rfl (Int.le_refl _)
    have H1 := HR_p hH g1 g1'
    rw [v1, v2, bd_some, bd_some, bd_some, if_neg (by decide : ¬ (1 : Int) = 0)]
    refine LR_wrap ?_
    unfold fn_HillsReader_readHour
    have e31 : c1 3 1 = (hc : Int) := H1.2.1
    have qc1 : ∀ j, c1 hc j = c hc j := fun j => by rw [g1.1 hc (by omega)]
    have hK : isK 0 (c1 3 1) = true := isK0 (by omega)
    have e3 : (c1 3 1).toNat = hc := by omega
    rw [if_pos hK, e3, qc1, bn_eq, if_pos hK]
    generalize hn0 : c hc 0 = n0 at *
    generalize hn1 : c hc 1 = n1 at *
    generalize hn : c hc 2 = n at *
    obtain ⟨r, c2, d2, u1, u2, u3, u4⟩ := new_ok (p := hc + 3) (n := n) S1.2.2.1 e31 h1 H1.2.2.1 (by omega) (by omega) y
    rw [u1, u2, bd_some, bd_some]
    rcases u4 with ⟨z, u4, u5, u6, u7, u8⟩ | ⟨z, u4, u5⟩
    · have S2 : SX (PH hc) QH c d c2 d2 := SX_p (SX_mc (x := c1 1 3) (k := hc + 3) (j := n.toNat) S1 (Or.inr (by omega)) (by omega) (by omega)) u6 u3 u4 (by rw [u5, mst_ne (by omega)])
      have H2 : HR hc c2 d2 := HR_p (HR_pend H1 (n0 := n0) (n1 := n1) (n2 := n) (by rw [qc1]; exact hn0) (by rw [qc1]; exact hn1) (by rw [qc1]; exact hn) (FXc_m (k := hc + 3) (j := n.toNat) (x := c1 1 3) (by unfold PW; omega)) FXm_refl) u6 u3
      have qc2 : ∀ j, c2 hc j = c hc j := fun j => by rw [u6.1 hc (by omega), mst_ne (by omega), qc1]
      have Nn : NmR (c2 (hc + 3) n.toNat) (d2 203 43) := by
        rw [u6.1 _ (by omega), mst_hit, u7]; exact u8
      rw [if_neg (by omega : ¬ r = 0), if_neg (by omega : ¬ r = 0), bn_eq]
      generalize d2 203 43 = nm at *
      obtain ⟨rt, c3, d3, x1, x2, x3, x4, x5⟩ := word_ok (k := 11) (x := 79) (w := -13) S2.2.2.1 (by decide) rfl (by decide)
      rw [x1, x2, bd_some, bd_some]
      rcases x5 with ⟨z2, x5, x6⟩ | ⟨z2, x5⟩
      · have S3 := SX_p S2 x3 x4 x5 x6
        have H3 := HR_p H2 x3 x4
        rw [if_neg (by omega : ¬ rt = 0), if_neg (by omega : ¬ rt = 0)]
        unfold fn_HillsReader_takeWalkerAt
        obtain ⟨w, rw', c4, d4, a1, a2, a3, a4, a5⟩ := SX_walker S3 h1 H3.2.1 H3.2.2.1
        rw [a1, a2, bd_some, bd_some]
        unfold bo_HillsReader_readHour_56
        rcases a5 with ⟨z3, w0, w1, a5, a6, a7⟩ | ⟨z3, a5, a6⟩
        · have S4 := SX_p S3 a3 a4 a7 (by rw [a5])
          have H4 := HR_p H3 a3 a4
          have qc4 : ∀ a, a ≠ 1 → c4 a = c2 a := fun a ha => by rw [a3.1 _ ha, x3.1 _ ha]
          have qc4' : ∀ j, c4 hc j = c hc j := fun j => by rw [qc4 _ (by omega), qc2]
          rw [if_neg (by omega : ¬ w = -1), if_neg (by omega : ¬ rw' = 0), if_pos (by omega : 0 ≤ 6 + n ∧ 6 + n < 12), bn_eq, a6]
          have S5 : SX (PH hc) QH c d c4 (mst d4 218 (6 + n).toNat w) := SX_md S4 (Or.inr ⟨by omega, by omega, by show 6 ≤ _; omega⟩) (by omega) (by omega)
          have H5 : HR hc c4 (mst d4 218 (6 + n).toNat w) := HR_pend H4 (n0 := n0) (n1 := n1) (n2 := n) (by rw [qc4']; exact hn0) (by rw [qc4']; exact hn1) (by rw [qc4']; exact hn) FXc_refl (FXm_m (by unfold QW; omega))
          obtain ⟨c5, d5, b1, b2, S6, g6, g6'⟩ := SX_next S5
          have H6 := HR_p H5 g6 g6'
          rw [b1, b2, bd_some, bd_some]
          obtain ⟨rt2, c6, d6, j1, j2, j3, j4, j5⟩ := word_ok (k := 8) (x := 47) (w := -10) S6.2.2.1 (by decide) rfl (by decide)
          rw [j1, j2, bd_some, bd_some]
          rcases j5 with ⟨z4, j5, j6⟩ | ⟨z4, j5⟩
          · have S7 := SX_p S6 j3 j4 j5 j6
            have H7 := HR_p H6 j3 j4
            rw [if_neg (by omega : ¬ rt2 = 0), if_neg (by omega : ¬ rt2 = 0), bd_some, if_neg (by omega : ¬ w = -1)]
            obtain ⟨p, rp, c7, d7, i1, i2, i3, i4, i5⟩ := SX_place S7 h1 H7.2.1 H7.2.2.1
            rw [i1, i2, bd_some, bd_some]
            rcases i5 with ⟨z5, p0, p1, i5, i6, i7⟩ | ⟨z5, i5, i6⟩
            · have S8 := SX_p S7 i3 i4 i7 (by rw [i5])
              have H8 := HR_p H7 i3 i4
              have qc7 : ∀ a, a ≠ 1 → c7 a = c2 a := fun a ha => by rw [i3.1 _ ha, j3.1 _ ha, g6.1 _ ha, qc4 _ ha]
              have qc7' : ∀ j, c7 hc j = c hc j := fun j => by rw [qc7 _ (by omega), qc2]
              have q5 : d7 205 = d4 205 := by rw [i4.1 _ (by omega), j4.1 _ (by omega), g6'.1 _ (by omega), mst_ne (by omega)]
              have q5' : d6 205 = d4 205 := by rw [j4.1 _ (by omega), g6'.1 _ (by omega), mst_ne (by omega)]
              have q5'' : d3 205 = d4 205 := by rw [a4.1 _ (by omega)]
              have q18 : d7 218 (6 + n).toNat = w := by rw [i4.1 _ (by omega), j4.1 _ (by omega), g6'.1 _ (by omega), mst_hit]
              have cnt := HR_cnt H8
              rw [q5''] at w1
              rw [q5'] at p1
              rw [q5] at cnt
              have hK : isK 0 (c7 3 1) = true := isK0 (by have := H8.2.1; omega)
              have e3 : (c7 3 1).toNat = hc := by have := H8.2.1; omega
              rw [if_neg (by omega : ¬ p = -1), if_neg (by omega : ¬ rp = 0), if_pos hK, if_pos (by omega : 0 ≤ w ∧ w < 6), e3, if_pos (by omega : 0 ≤ 6 + n ∧ 6 + n < 12), q18, i6]
              obtain ⟨-, -, -, -, l5, l6, -⟩ := H8.2.2.2.2.2.1 w w0 (by rw [q5]; exact w1)
              obtain ⟨b, o1, o2, o3⟩ := pass2_ok (c := c7) (d := d7) (X := hc + 4 * w.toNat + 13) (p := p) w0 (by omega) l5.1 (by rw [l5.1]; omega) (by rw [l5.1]; omega) (fun i i0 i1 => (l6 i i0 (by rw [← l5.1]; exact i1)).1)
              rw [o1, o2, bd_some, bd_some]
              by_cases z6 : b = 0
              · obtain ⟨c8, d8, e1, e2, e3⟩ := wrong_no (p := 4) S8 pid qid (by omega) (by omega)
                rw [if_pos z6, if_pos z6, e1, e2, bd_some, bd_some, if_pos (Or.inl rfl), if_pos (Or.inl rfl)]
                exact e3
              · rw [if_neg z6, if_neg z6, if_pos (by omega : 0 ≤ 6 + n ∧ 6 + n < 12), i6, bn_eq]
                have S9 : SX (PH hc) QH c d c7 (mst d7 219 (6 + n).toNat p) := SX_md S8 (Or.inr ⟨by omega, by omega, by show 6 ≤ _; omega⟩) (by omega) (by omega)
                have H9 : HR hc c7 (mst d7 219 (6 + n).toNat p) := HR_pend H8 (n0 := n0) (n1 := n1) (n2 := n) (by rw [qc7']; exact hn0) (by rw [qc7']; exact hn1) (by rw [qc7']; exact hn) FXc_refl (FXm_m (by unfold QW; omega))
                obtain ⟨c8, d8, e1, e2, S10, g10, g10'⟩ := SX_next S9
                have H10 := HR_p H9 g10 g10'
                rw [e1, e2, bd_some, bd_some]
                refine hour_tail (n0 := n0) (n1 := n1) S10 H10 (by rw [g10.1 _ (by omega), qc7']; exact hn0) (by rw [g10.1 _ (by omega), qc7']; exact hn1) (by rw [g10.1 _ (by omega), qc7']; exact hn) (by omega) y w0 ?_ p0 ?_ ?_ ?_ ?_
                · rw [g10'.1 _ (by omega), mst_ne (by omega), q5]; exact w1
                · rw [g10'.1 _ (by omega), mst_ne (by omega), q5]; exact p1
                · rw [g10'.1 _ (by omega), mst_ne (by omega)]; exact q18
                · rw [g10'.1 _ (by omega), mst_hit]
                · rw [g10.1 _ (by omega), qc7 _ (by omega)]; exact Nn
            · rw [if_pos i5, if_pos z5]
              exact LR_fail S7 pid qid i3 i4 i6
          · rw [if_pos z4, if_pos z4, bd_some, if_pos rfl, if_pos rfl]
            exact LR_fail S6 pid qid j3 j4 j5
        · rw [if_pos a5, if_pos z3, bd_some, if_pos rfl, if_pos rfl]
          exact LR_fail S3 pid qid a3 a4 a6
      · rw [if_pos z2, if_pos z2]
        exact LR_fail S2 pid qid x3 x4 x5
    · rw [if_pos z, if_pos z]
      exact LR_fail2 S1 (FXc_p u4) (FXm_p u3) u5
  · obtain ⟨c', d', w1, w2, w3⟩ := beg_no h hH
    rw [if_neg y, if_pos (by omega : 6 + c hc 2 = 12), w1, w2, bd_some, bd_some, if_pos (Or.inl rfl), if_pos (Or.inl rfl), bd_some, if_pos rfl]
    exact w3
end Ho
