/-! A walker is told. -/
section Wl
variable {hc : Nat}
theorem LR_fail2 {c0 d0 c d c' d' : Mm} (h : SX (PH hc) QH c0 d0 c d) (g : FXc (PH hc) c c') (g' : FXm QH d d') (w : Wr c' d') : LR hc c0 d0 (some (0, c')) (some (0, d')) := ⟨0, c', d', rfl, rfl, FXc_trans h.1 g, FXm_trans h.2.1 g', Or.inr ⟨rfl, w⟩⟩
theorem wk_both {c0 d0 c d : Mm} {n n0 n2 : Int} {X : Nat} (hX : X = hc + 4 * n.toNat + 13) (m0 : 0 ≤ n) (m1 : n < 6) {w x lo hi : Int} {kw s A : Nat} (hA : 210 ≤ A ∧ A ≤ 213) (S : SX (PH hc) QH c0 d0 c d) (hH : HR hc c d) (k0 : c hc 0 = n0) (k1 : c hc 1 = n) (k2 : c hc 2 = n2) (hk : kw < 29) (hx : wdM.getD kw 0 = x) (hw : w = -(kw : Int) - 2) (l0 : 0 ≤ lo) {KC KM : Mm → Res}
    (hK : ∀ c' d' v, lo ≤ v → v ≤ hi → SX (PH hc) QH c0 d0 c' d' → HR hc c' d' → (∀ a, a ≠ 1 → a ≠ X → c' a = c a) → (∀ j, j ≠ s → c' X j = c X j) → c' X s = v → (∀ a, a ≠ 203 → a ≠ A → d' a = d a) → d' A (6 + n).toNat = v → LR hc c0 d0 (KC c') (KM d')) :
    LR hc c0 d0 (bd (fn_Tape_take w c) fun r m => if r = 0 then some (0, m) else bd (fn_Tape_takeNumber lo hi m) fun r2 m2 => bn (mst m2 X s r2) fun m3 => if (m3 X s) = (-1) then some (0, m3) else KC m3) (bd (fn_Model_needsBoth x lo hi d) fun r m => if r = 0 then some (0, m) else (if 0 ≤ 6 + n ∧ 6 + n < 12 then bn (mst m A (6 + n).toNat (m 203 42)) fun m2 => KM m2 else none)) := by
  have h1 := hH.1
  unfold fn_Model_needsBoth
  obtain ⟨r, c1, d1, w1, w2, w3, w4, w5⟩ := word_ok (x := x) (w := w) S.2.2.1 hk hx hw
  rw [w1, w2, bd_some, bd_some]
  rcases w5 with ⟨y, w5, w6⟩ | ⟨y, w5⟩
  · have S1 := SX_p S w3 w4 w5 w6
    have H1 := HR_p hH w3 w4
    rw [if_neg (by omega : ¬ r = 0), if_neg (by omega : ¬ r = 0)]
    obtain ⟨v, rv, c2, d2, t1, t2, t3, t4, t5⟩ := number_ok (lo := lo) (hi := hi) S1.2.2.1 l0
    rw [t1, t2, bd_some, bd_some, bn_eq, mst_hit]
    rcases t5 with ⟨y2, t5, t6, t7, t8, t9⟩ | ⟨y2, t5, t6⟩
    · have S2 := SX_p S1 t3 t4 t8 t9
      have H2 := HR_p H1 t3 t4
      rw [if_neg (by omega : ¬ v = -1), if_neg (by omega : ¬ rv = 0), bd_some, if_neg (by omega : ¬ (1 : Int) = 0), if_pos (by omega : 0 ≤ 6 + n ∧ 6 + n < 12), bn_eq, t7]
      have G : FXc (PW hc n0 n n2) c2 (mst c2 X s v) := FXc_m (by unfold PW; omega)
      have G' : FXm (QW n0 n n2) d2 (mst d2 A (6 + n).toNat v) := FXm_m (by unfold QW; omega)
      have q0 : ∀ j, c2 hc j = c hc j := fun j => by rw [t3.1 _ (by omega), w3.1 _ (by omega)]
      refine hK _ _ v t5 t6 (SX_md (SX_mc S2 (Or.inr (by omega)) (by omega) (by omega)) (Or.inr ⟨by omega, by omega, ?_⟩) (by omega) (by omega)) (HR_pend H2 (n0 := n0) (n1 := n) (n2 := n2) (by rw [q0]; exact k0) (by rw [q0]; exact k1) (by rw [q0]; exact k2) G G') (fun a a0 a1 => by rw [mst_ne a1, t3.1 a a0, w3.1 a a0]) (fun j hj => by rw [mst_miss hj, t3.1 _ (by omega), w3.1 _ (by omega)]) mst_hit (fun a a0 a1 => by rw [mst_ne a1, t4.1 a a0, w4.1 a a0]) mst_hit
      have : A = 210 ∨ A = 211 ∨ A = 212 ∨ A = 213 := by omega
      rcases this with rfl | rfl | rfl | rfl <;> show 6 ≤ _ <;> omega
    · rw [if_pos t5, if_pos y2, bd_some, if_pos rfl]
      refine LR_fail2 S1 (FXc_trans (FXc_p t3) (FXc_m (Or.inr (by omega)))) (FXm_p t4) ?_
      unfold Wr at t6 ⊢
      rw [mst_ne (by omega)]
      exact t6
  · subst y
    rw [if_pos rfl, if_pos rfl, bd_some, if_pos rfl]
    exact LR_fail2 S (FXc_p w3) (FXm_p w4) w5
theorem zero_loop {v1 v2 : Int} (h1 : 6 ≤ v1) (h2 : v1 < 12) : ∀ (j k : Nat) (v : Int) (d : Mm), v + j = 6 → 0 ≤ v → j < k → ∃ d', lp_Model_readsWalker_221 k v1 v2 v d = bo_Model_readsWalker_247 v1 v2 d' ∧ (∀ a, a ≠ 216 → d' a = d a) ∧ ∀ i : Nat, d' 216 i = if 6 * v1 + v ≤ (i : Int) ∧ (i : Int) < 6 * v1 + 6 then 0 else d 216 i := by
  intro j
  induction j with
  | zero =>
    intro k v d e1 e2 e3
    obtain ⟨k, rfl⟩ : ∃ t, k = t + 1 := ⟨k - 1, by omega⟩
    refine ⟨d, ?_, fun _ _ => rfl, fun i => by rw [if_neg (by omega)]⟩
    show bo_Model_readsWalker_221 _ v1 v2 v d = _
    unfold bo_Model_readsWalker_221
    rw [if_neg (by omega : ¬ v < 6)]
  | succ j ih =>
    intro k v d e1 e2 e3
    obtain ⟨k, rfl⟩ : ∃ t, k = t + 1 := ⟨k - 1, by omega⟩
    obtain ⟨d', u1, u2, u3⟩ := ih k (v + 1) (mst d 216 (6 * v1 + v).toNat 0) (by omega) (by omega) (by omega)
    refine ⟨d', ?_, fun a ha => by rw [u2 a ha, mst_ne ha], fun i => ?_⟩
    · show bo_Model_readsWalker_221 _ v1 v2 v d = _
      unfold bo_Model_readsWalker_221
      rw [if_pos (by omega : v < 6), w32_in (x := 6 * v1) (by omega) (by omega), w32_in (x := 6 * v1 + v) (by omega) (by omega), if_pos (by omega : 0 ≤ 6 * v1 + v ∧ 6 * v1 + v < 72), bn_eq, w32_in (x := v + 1) (by omega) (by omega)]
      exact u1
    · rw [u3, mst_self]
      by_cases y : (i : Int) = 6 * v1 + v
      · rw [if_neg (by omega), if_pos (by omega), if_pos (by omega)]
      · rw [if_neg (by omega : ¬ i = (6 * v1 + v).toNat)]
        by_cases y2 : 6 * v1 + (v + 1) ≤ (i : Int) ∧ (i : Int) < 6 * v1 + 6
        · rw [if_pos y2, if_pos (by omega)]
        · rw [if_neg y2, if_neg (by omega)]
theorem HR_walker {c d : Mm} {n nm : Int} (H : HR hc c d) (k1 : c hc 1 = n) (n6 : n < 6) (W : WkR c hc d n) (N : NmR (c (hc + 2) n.toNat) nm) : HR hc (mst c hc 1 (n + 1)) (mst (mst d 207 (6 + n).toNat nm) 205 6 (n + 1)) := by
  obtain ⟨c1, c2, c3, c4, c5, c6⟩ := HR_cnt H
  obtain ⟨h1, h2, h3, h4, h5, h6, h7, h8⟩ := H
  have G : FXc (fun a j => a = hc ∧ j = 1) c (mst c hc 1 (n + 1)) := FXc_m ⟨rfl, rfl⟩
  have G' : FXm (fun a j => (a = 205 ∧ j = 6) ∨ (a = 207 ∧ j = (6 + n).toNat)) d (mst (mst d 207 (6 + n).toNat nm) 205 6 (n + 1)) := FXm_trans (FXm_m (Or.inr ⟨rfl, rfl⟩)) (FXm_m (Or.inl ⟨rfl, rfl⟩))
  have q1 : mst c hc 1 (n + 1) hc 1 = n + 1 := mst_hit
  have q2 : mst (mst d 207 (6 + n).toNat nm) 205 6 (n + 1) 205 6 = n + 1 := mst_hit
  have q4 : mst (mst d 207 (6 + n).toNat nm) 205 6 (n + 1) 207 (6 + n).toNat = nm := by rw [mst_ne (by omega), mst_hit]
  revert G G' q1 q2 q4
  generalize mst c hc 1 (n + 1) = cf
  generalize mst (mst d 207 (6 + n).toNat nm) 205 6 (n + 1) = df
  intro G G' q1 q2 q4
  have f5 : df 205 5 = d 205 5 := gm G' (by omega) (by omega)
  have f7 : df 205 7 = d 205 7 := gm G' (by omega) (by omega)
  have k0' : cf hc 0 = c hc 0 := gc G (by omega) (by omega)
  have k2' : cf hc 2 = c hc 2 := gc G (by omega) (by omega)
  refine ⟨h1, ?_, ?_, ?_, ?_, ?_, ?_, ?_⟩
  · rw [gc G (by omega) (by omega)]; exact h2
  · unfold NmX NsO at h3 ⊢
    have t0 : (5 * 1 + 0 : Int).toNat = 5 := rfl
    have t1 : (5 * 1 + 1 : Int).toNat = 6 := rfl
    have t2 : (5 * 1 + 2 : Int).toNat = 7 := rfl
    rw [t0, t1, t2] at h3 ⊢
    rw [q1, q2, f5, f7, k0', k2']
    obtain ⟨l1, l2, l3, l4, l5, l6, l7, l8, l9⟩ := h3
    refine ⟨l1, rfl, l3, l4, by omega, l6, fun i i0 i1 => ?_, fun i i0 i1 => ?_, fun i i0 i1 => ?_⟩
    · rw [gc G (by omega) (by omega), gm G' (by omega) (by omega)]
      exact l7 i i0 (by omega)
    · by_cases z2 : i = n
      · have e6 : 6 * 1 + i = 6 + n := by omega
        rw [e6, z2, q4, gc G (by omega) (by omega)]
        exact N
      · rw [gc G (by omega) (by omega), gm G' (by omega) (by omega)]
        exact l8 i i0 (by omega)
    · rw [gc G (by omega) (by omega), gm G' (by omega) (by omega)]
      exact l9 i i0 (by omega)
  · rw [gc G (by omega) (by omega), gc G (by omega) (by omega), gm G' (by omega) (by omega), gm G' (by omega) (by omega)]; exact h4
  · exact PaR_congr h5 (gcr G (by omega) (fun j => by omega)) (gmr G' (by omega) (fun j => by omega)) (by omega)
  · rw [q2]
    have h6' : ∀ w : Int, 0 ≤ w → w < n + 1 → WkR c hc d w := fun w w0 w1 => by
      by_cases z : w = n
      · rw [z]; exact W
      · exact h6 w w0 (by omega)
    exact HR_wk h6' G G' h1 (fun a j a0 a1 => by omega) (fun a j a0 a1 => by omega) (fun j a1 => by omega) (fun a j a0 a1 => by omega) (by omega) (by omega)
  · rw [f7]
    exact HR_ho h7 G G' h1 (fun a j a0 a1 a2 => by omega) (fun a j a0 a1 a2 => by omega) (by omega) (by omega)
  · exact HR_lw h8 G G' h1 (fun a j a0 => by omega) (fun a j a0 => by omega)
theorem kind_ok {c d : Mm} (h : TkR c d) (x1 x9 : Int) : ∃ k, fn_HillsReader_takeKind c = bo_HillsReader_takeKind_53 k c ∧ (bd (fn_Model_isWord 8740238 d) fun r10 m11 => if r10 = 0 then (bd (fn_Model_isWord 383153 m11) fun r12 m13 => if r12 = 0 then (bd (fn_Model_isWord 180392 m13) fun r14 m15 => if r14 = 0 then (bd (fn_Model_isWord 1424261 m15) fun r16 m17 => if r16 = 0 then (bo_Model_readsWalker_103 x1 x9 x1 (-1) m17) else (bo_Model_readsWalker_103 x1 x9 x1 3 m17)) else (bo_Model_readsWalker_103 x1 x9 x1 2 m15)) else (bo_Model_readsWalker_103 x1 x9 x1 1 m13)) else (bo_Model_readsWalker_103 x1 x9 x1 0 m11)) = bo_Model_readsWalker_103 x1 x9 x1 k d ∧ (k = -1 ∨ 0 ≤ k ∧ k ≤ 3) := by
  unfold fn_HillsReader_takeKind
  rw [m_isW (k := 19) (x := 8740238) (w := -21) h (by decide) rfl (by decide), bd_some]
  by_cases y0 : c 1 2 = -21
  · rw [if_pos y0, if_pos y0, if_neg (by decide : ¬ (1 : Int) = 0)]
    exact ⟨0, rfl, rfl, by omega⟩
  · rw [if_neg y0, if_neg y0, if_pos rfl, m_isW (k := 20) (x := 383153) (w := -22) h (by decide) rfl (by decide), bd_some]
    by_cases y1 : c 1 2 = -22
    · rw [if_pos y1, if_pos y1, if_neg (by decide : ¬ (1 : Int) = 0)]
      exact ⟨1, rfl, rfl, by omega⟩
    · rw [if_neg y1, if_neg y1, if_pos rfl, m_isW (k := 21) (x := 180392) (w := -23) h (by decide) rfl (by decide), bd_some]
      by_cases y2 : c 1 2 = -23
      · rw [if_pos y2, if_pos y2, if_neg (by decide : ¬ (1 : Int) = 0)]
        exact ⟨2, rfl, rfl, by omega⟩
      · rw [if_neg y2, if_neg y2, if_pos rfl, m_isW (k := 22) (x := 1424261) (w := -24) h (by decide) rfl (by decide), bd_some]
        by_cases y3 : c 1 2 = -24
        · rw [if_pos y3, if_pos y3, if_neg (by decide : ¬ (1 : Int) = 0)]
          exact ⟨3, rfl, rfl, by omega⟩
        · rw [if_neg y3, if_neg y3, if_pos rfl]
          exact ⟨-1, rfl, rfl, by omega⟩
end Wl
