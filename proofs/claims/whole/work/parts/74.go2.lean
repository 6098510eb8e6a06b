/-! The class's walk from its beginning to its end. -/
section Gt
theorem GI_ge {H : Mm} {S : Nat → Int} {c m : Mm} {hc sc : Nat} {t : Int} (hg : GI H S c hc sc m t) (ht1 : t ≤ 240) (hn : 0 ≤ H 205 1 ∧ H 205 1 ≤ 6) {w : Int} (h0 : 0 ≤ w) (h1 : w < H 205 1) : t ≤ m 103 w.toNat := by
  obtain ⟨hx, hw⟩ := hg
  obtain ⟨-, hh, ha, -⟩ := hw w h0 h1
  rcases bt01 hx h0 (by omega) with b | b
  · obtain ⟨-, -, -, z⟩ := ha b
    rcases z with z | z
    · exact z.2
    · omega
  · obtain ⟨-, -, -, -, z1, z2⟩ := hh b
    by_cases d : wyS H w (m 99 w.toNat - 1) = -1
    · have := z1 d
      omega
    · exact (z2 d).2
theorem GI_skip {H : Mm} {S : Nat → Int} {c m : Mm} {hc sc : Nat} {t : Int} (hH : HD H) (hS : SD H S) (hg : GI H S c hc sc m t) (ht0 : 0 ≤ t) (ht1 : t < 240) (hl : ∀ w : Int, 0 ≤ w → w < H 205 1 → t < m 103 w.toNat) : GI H S c hc sc m (t + 1) := by
  have hn := hH.1
  refine ev_step (m1 := m) (m2 := m) hH hS ht0 ht1 hg.1 (fun w h0 h1 => come_J1 hH hS hg ht0 ht1 h0 h1 ⟨fun z => ?_, fun _ => SameW_refl⟩) (fun _ _ => rfl) (fun w h0 h1 => ⟨fun z => ?_, fun _ => rfl⟩) hg.1 (fun w h0 h1 => ⟨fun z => ?_, fun _ => SameW_refl⟩)
  · have := hl w h0 h1
    omega
  · obtain ⟨z1, z2, z3⟩ := z
    have hx := hg.2 w h0 h1
    have hm := hx.2.2.2 z1 z3
    obtain ⟨y1, y2, y3, y4, y5, y6⟩ := hx.2.1 z1
    by_cases d : wyS H w (m 99 w.toNat - 1) = -1
    · exact absurd (y5 d) z2
    · obtain ⟨y7, y8⟩ := y6 d
      rw [if_pos hm] at y7
      have := hl w h0 h1
      rw [← y3, ← y7]
      unfold imn imx
      split <;> split <;> (try split) <;> omega
  · have := hl w h0 h1
    omega
theorem GI_upto {H : Mm} {S : Nat → Int} {c m : Mm} {hc sc : Nat} {x : Int} (hH : HD H) (hS : SD H S) (hl : ∀ w : Int, 0 ≤ w → w < H 205 1 → x ≤ m 103 w.toNat) (hx : x ≤ 240) : ∀ (j : Nat) (t : Int), 0 ≤ t → t + j = x → GI H S c hc sc m t → GI H S c hc sc m x := by
  intro j
  induction j with
  | zero =>
    intro t h0 h1 h2
    have : t = x := by omega
    rwa [this] at h2
  | succ j ih =>
    intro t h0 h1 h2
    exact ih (t + 1) (by omega) (by omega) (GI_skip hH hS h2 h0 (by omega) (fun w w0 w1 => by have := hl w w0 w1; omega))
theorem go81 {H : Mm} {S : Nat → Int} {c m : Mm} {hc sc : Nat} (hH : HD H) (hS : SD H S) (hW : HW c hc H) (hSW : SW c sc H S) {x : Int} (hx0 : 0 ≤ x) (hx1 : x ≤ 1000000) (hl : ∀ w : Int, 0 ≤ w → w < H 205 1 → x ≤ m 103 w.toNat) (hg : GI H S c hc sc m (imn x 240)) : TT (lp_Walk_go_81 hc sc FU x 0 m) (fun _ m' => GI H S c hc sc m' 240) := by
  have hn := hH.1
  refine lp_inv2 (bo := bo_Walk_go_81 hc sc) (fun _ => rfl) (fun x i m => 0 ≤ i ∧ i ≤ x ∧ i ≤ 240 ∧ x ≤ 1000000 ∧ (∀ w : Int, 0 ≤ w → w < H 205 1 → x ≤ m 103 w.toNat) ∧ GI H S c hc sc m (imn x 240)) (fun _ i _ => (240 - i).toNat) ?_ FU x 0 m ⟨by omega, by omega, by omega, hx1, hl, hg⟩ (by decide)
  intro k x i m hI hk
  obtain ⟨i0, i1, i2, i3, hl, hg⟩ := hI
  unfold bo_Walk_go_81
  have fin : ¬ x < 240 → GI H S c hc sc m 240 := by
    intro z
    have e : imn x 240 = 240 := by unfold imn; split <;> omega
    rwa [e] at hg
  refine TT_if (fun a => ?_) (fun a => TT_some.mpr (fin (by omega)))
  refine TT_if (fun b => ?_) (fun b => TT_some.mpr (fin b))
  have e : imn x 240 = x := by unfold imn; split <;> omega
  rw [e] at hg
  have x0 : 0 ≤ x := by omega
  refine TT_call (comeAll_ok hg.1 hH hW x0 b (fun w w0 w1 => ?_)) (fun r1 m1 h1 => ?_)
  · obtain ⟨⟨n1, n2, -⟩, y1, y2, -⟩ := hg.2 w w0 w1
    refine ⟨n1, n2, fun z => ?_⟩
    have y3 := y2 z.2
    have y4 := wS_ok hH hS x.toNat (by omega) w w0 w1
    have y5 := y3.1
    omega
  · obtain ⟨hg1, hc1⟩ := h1
    have hJ : ∀ w : Int, 0 ≤ w → w < H 205 1 → J1 H S m1 x w := fun w w0 w1 => come_J1 hH hS hg x0 b w0 w1 (hc1 w w0 w1)
    have hT : ∀ w : Int, 0 ≤ w → w < H 205 1 → ThW H m1 w := by
      intro w w0 w1 z
      obtain ⟨⟨n1, n2, n3, -⟩, y1, y2⟩ := hJ w w0 w1
      obtain ⟨z1, z2⟩ := y1 z
      obtain ⟨z3, z4, z5, z6, z7⟩ := n3 (m1 99 w.toNat - 1) (by omega) (by omega)
      exact ⟨z1, n2, z7, z3, by omega⟩
    refine TT_call (greetAll_ok hg1 hH hW x0 b hT) (fun r2 m2 h2 => ?_)
    obtain ⟨hr2, hG⟩ := h2
    have e98 := hr2 98 (by omega)
    have e99 := hr2 99 (by omega)
    have e100 := hr2 100 (by omega)
    have e101 := hr2 101 (by omega)
    have hg2 : GX c m2 hc sc := by
      obtain ⟨z1, z2, z3, z4, z5⟩ := hg1
      exact ⟨fun a ha => (hr2 a (by omega)).trans (z1 a ha), by rw [e98]; exact z2, by rw [e98]; exact z3, by rw [e98]; exact z4, by rw [e98]; exact z5⟩
    refine TT_call (leaveAll_ok hg2 hH hW hSW hS.2.2.1 x0 b (fun w w0 w1 => ?_)) (fun r3 m3 h3 => ?_)
    · refine ⟨?_, fun z => ?_⟩
      · have := hT w w0 w1
        unfold ThW at this ⊢
        rw [e98, e99, e100, e101]
        exact this
      · rw [e98] at z
        obtain ⟨⟨n1, n2, n3, -⟩, y1, y2⟩ := hJ w w0 w1
        obtain ⟨z1, z2, z3, z4, z5, z6⟩ := y1 z.2
        obtain ⟨g1, g2⟩ := hG w w0 w1
        rw [e99]
        by_cases d : wyS H w (m1 99 w.toNat - 1) = -1
        · have := z5 d
          rw [g2 (fun q => q.2.1 this)] at z
          omega
        · unfold wyS at d
          split at d
          · split at d
            · exact ⟨by omega, by assumption⟩
            · exact absurd rfl d
          · exact absurd rfl d
    · obtain ⟨hg3, hL⟩ := h3
      have hg4 := ev_step hH hS x0 b hg1 hJ hr2 hG hg3 hL
      obtain ⟨x', hx', y1, y2, y3⟩ := nextMinute_ok hg3 hH hW
      rw [hx', bd_some]
      have hge : x + 1 ≤ x' := by
        rcases y3 with y3 | ⟨w, w0, w1, y3⟩
        · omega
        · rw [y3]
          exact GI_ge hg4 (by omega) ⟨hn.2.2.1, hn.2.2.2.1⟩ w0 w1
      simp (disch := omega) only [w32_in]
      refine hk x' (i + 1) m3 ⟨by omega, by omega, by omega, y1, y2, ?_⟩ (by omega)
      have e1 : 0 ≤ imn x' 240 ∧ imn x' 240 ≤ 240 ∧ imn x' 240 ≤ x' ∧ x + 1 ≤ imn x' 240 := by unfold imn; split <;> omega
      exact GI_upto hH hS (fun w w0 w1 => by have := y2 w w0 w1; omega) e1.2.1 (imn x' 240 - (x + 1)).toNat (x + 1) (by omega) (by omega) hg4
theorem go_ok {H : Mm} {S : Nat → Int} {c : Mm} {hc sc : Nat} (hH : HD H) (hS : SD H S) (hW : HW c hc H) (hSW : SW c sc H S) : TT (fn_Walk_go hc sc c) (fun _ m' => GI H S c hc sc m' 240) := by
  have hn := hH.1
  have hc0 := hW.1
  have hsc := hSW.1
  unfold fn_Walk_go
  simp only [bn_eq]
  refine lp_inv1 (bo := bo_Walk_go_17 hc sc) (fun _ => rfl) (fun a m => 0 ≤ a ∧ a ≤ H 205 1 ∧ FW c m ∧ m 98 0 = (hc : Int) ∧ m 98 1 = (sc : Int) ∧ m 98 7 = 0 ∧ ∀ w : Int, 0 ≤ w → w < a → m 99 w.toNat = 0 ∧ m 103 w.toNat = (if bt (S 2) w = 1 then H 211 w.toNat + S (4 + w).toNat else 1000000)) (fun a _ => (6 - a).toNat) ?_ FU 0 _ ⟨by omega, by omega, fun a ha => ?_, ?_, ?_, ?_, fun w w0 w1 => by omega⟩ (by decide)
  · intro k a m hI hk
    obtain ⟨a0, a1, hfr, e0, e1, e7, hlo⟩ := hI
    have hf' := hfr
    unfold FW at hf'
    unfold bo_Walk_go_17
    rw [hf' hc (by omega), hW.2.2.1]
    refine TT_if (fun b => ?_) (fun b => ?_)
    · obtain ⟨k1, k2, k3, k4, k5, k6, k7, k8, k9, k10, k11, k12, k13⟩ := hH.2.1 a a0 b
      obtain ⟨q0, q1, q2, q3, q4, q5, q6⟩ := hW.2.2.2.2.1 a a0 b
      have hl := hS.2.2.2.1 a a0 (by omega)
      have hl2 := hSW.2.2.2.2.2.1 a a0 (by omega)
      have fin : ∀ x : Int, x = (if bt (S 2) a = 1 then H 211 a.toNat + S (4 + a).toNat else 1000000) → TT (bo_Walk_go_66 hc sc k a a x (mst m 99 a.toNat 0)) (fun _ m' => GI H S c hc sc m' 240) := by
        intro x hx
        unfold bo_Walk_go_66
        simp (disch := omega) only [g_pos, bn_eq, w32_in]
        refine hk (a + 1) _ ⟨by omega, by omega, fun y hy => ?_, ?_, ?_, ?_, fun w w0 w1 => ?_⟩ (by omega)
        · rw [mst_ne (by omega), mst_ne (by omega)]; exact hfr y hy
        · rw [mst_ne (by omega), mst_ne (by omega)]; exact e0
        · rw [mst_ne (by omega), mst_ne (by omega)]; exact e1
        · rw [mst_ne (by omega), mst_ne (by omega)]; exact e7
        · by_cases d : w = a
          · subst d
            refine ⟨?_, ?_⟩
            · rw [mst_ne (by omega), mst_hit]
            · rw [mst_hit]; exact hx
          · obtain ⟨z1, z2⟩ := hlo w w0 (by omega)
            refine ⟨?_, ?_⟩
            · rw [mst_ne (by omega), mst_miss (by omega)]; exact z1
            · rw [mst_miss (by omega), mst_ne (by omega)]; exact z2
      refine TT_gd (by omega) ?_
      have e2 : mst m 99 a.toNat 0 sc 2 = S 2 := by rw [mst_ne (by omega), hf' sc (by omega)]; exact hSW.2.2.2.1
      simp only [bn_eq, fn_State_lives, e2, bt_fold]
      rcases bt_01 hS.1 hS.2.1 a0 (by omega : a < 6) with d | d
      · rw [if_pos d, bd_some, if_pos rfl]
        exact fin _ (by rw [if_neg (by omega)])
      · rw [if_neg (by omega), bd_some, if_neg (by decide)]
        refine TT_gd (by omega) ?_
        refine TT_gd (by omega) ?_
        have e3 : mst m 99 a.toNat 0 (hc + 4 * a.toNat + 13) 1 = H 211 a.toNat := by rw [mst_ne (by omega), hf' _ (by omega)]; exact q1
        have e4 : mst m 99 a.toNat 0 (sc + 1) a.toNat = S (4 + a).toNat := by rw [mst_ne (by omega), hf' _ (by omega)]; exact hl2
        rw [e3, e4]
        simp (disch := omega) only [w32_in]
        exact fin _ (by rw [if_pos d])
    · have ea : a = H 205 1 := by omega
      subst ea
      unfold bo_Walk_go_73
      have hgx : GX c m hc sc := ⟨hfr, e0, e1, by omega, by omega⟩
      obtain ⟨x, hx, y1, y2, y3⟩ := nextMinute_ok hgx hH hW
      rw [hx, bd_some]
      have hb0 : ∀ w : Int, 0 ≤ w → w < H 205 1 → bt (m 98 7) w = 0 := fun w w0 w1 => by rw [e7]; exact bt_zero w0 (by omega)
      have hg0 : GI H S c hc sc m 0 := by
        refine ⟨hgx, fun w w0 w1 => ?_⟩
        obtain ⟨z1, z2⟩ := hlo w w0 w1
        have b0 := hb0 w w0 w1
        have hk := hH.2.1 w w0 w1
        have hl := hS.2.2.2.1 w w0 (by omega)
        have hst : 2 ≤ H 215 w.toNat := hk.2.2.2.2.2.2.2.2.1
        have hs0 : 0 ≤ H 211 w.toNat := hk.2.2.1
        refine ⟨⟨by omega, by omega, fun i i0 i1 => by omega, fun i i0 i1 => by omega, fun i u i0 i1 => by omega, fun u u0 u1 => by omega⟩, fun z => by omega, fun _ => ?_, fun z => by omega⟩
        unfold AwayW
        rw [z1, z2]
        refine ⟨rfl, rfl, fun i i0 i1 => by omega, ?_⟩
        show ((if bt (S 2) w = 1 then H 211 w.toNat + S (4 + w).toNat else 100000) = _ ∧ _) ∨ (_ ∧ (if bt (S 2) w = 1 then H 211 w.toNat + S (4 + w).toNat else 100000) = _ ∧ _)
        by_cases d : bt (S 2) w = 1
        · rw [if_pos d, if_pos d]
          exact Or.inl ⟨rfl, by omega⟩
        · rw [if_neg d, if_neg d]
          exact Or.inr ⟨rfl, rfl, rfl⟩
      have x0 : 0 ≤ x := by
        rcases y3 with y3 | ⟨w, w0, w1, y3⟩
        · omega
        · rw [y3]; exact GI_ge hg0 (by omega) ⟨hn.2.2.1, hn.2.2.2.1⟩ w0 w1
      have e1 : 0 ≤ imn x 240 ∧ imn x 240 ≤ 240 ∧ imn x 240 ≤ x := by unfold imn; split <;> omega
      exact go81 hH hS hW hSW x0 y1 y2 (GI_upto hH hS (fun w w0 w1 => by have := y2 w w0 w1; omega) e1.2.1 (imn x 240).toNat 0 (by omega) (by omega) hg0)
  · rw [mst_ne (by omega), mst_ne (by omega), mst_ne (by omega)]
  · rw [mst_miss (by omega), mst_miss (by omega), mst_hit]
  · rw [mst_miss (by omega), mst_hit]
  · rw [mst_hit]
end Gt
