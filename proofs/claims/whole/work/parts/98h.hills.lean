/-! hills. -/
section Hc
theorem state83_ok {s : Nat} {c : Mm} (hs : s = 4 ∨ s = 41) : TT (fn_State_begin 83 s c) (fun _ c3 => (∀ a, a ≠ 83 → a ≠ 84 → a ≠ 85 → c3 a = c a) ∧ (c3 83 0 = 0 ∧ c3 83 1 = 0 ∧ c3 83 2 = w32 (ishl 1 (c s 1) - 1) ∧ c3 83 3 = 0) ∧ (∀ j, j < 6 → c3 84 j = 0) ∧ (∀ j, j < 6 → c3 85 j = c (s + 7) j)) := by
  unfold fn_State_begin
  simp only [bn_eq]
  have en : mst (mst c 83 0 0) 83 1 0 s 1 = c s 1 := by rw [mst_ne (by omega), mst_ne (by omega)]
  rw [en]
  refine TT_call (fillI_ok (by omega)) (fun r c2 q => TT_some.mpr ?_)
  obtain ⟨q1, q2, q3⟩ := q
  have t6 : (6 : Int).toNat = 6 := rfl
  simp only [tn0, t6]
  refine ⟨fun a a0 a1 a2 => ?_, ⟨?_, ?_, ?_, ?_⟩, fun j hj => ?_, fun j hj => ?_⟩
  · rw [mcp_ne (by omega), q1 a (by omega), mst_ne (by omega), mst_ne (by omega), mst_ne (by omega), mst_ne (by omega)]
  · rw [mcp_ne (by omega), q1 83 (by omega), mst_miss (by omega), mst_miss (by omega), mst_miss (by omega)]; exact mst_hit
  · rw [mcp_ne (by omega), q1 83 (by omega), mst_miss (by omega), mst_miss (by omega)]; exact mst_hit
  · rw [mcp_ne (by omega), q1 83 (by omega), mst_miss (by omega)]; exact mst_hit
  · rw [mcp_ne (by omega), q1 83 (by omega)]; exact mst_hit
  · rw [mcp_ne (by omega)]; exact q2 j hj
  · rw [mcp_hit (by omega) (by omega), Nat.zero_add, Nat.sub_zero, q1 _ (by omega), mst_ne (by omega), mst_ne (by omega), mst_ne (by omega), mst_ne (by omega)]
theorem begin83_ok {s : Nat} {c : Mm} (hs : s = 4 ∨ s = 41) : TT (fn_Standing_begin 82 s c) (fun _ c' => (∀ a, a ≠ 82 → a ≠ 83 → a ≠ 84 → a ≠ 85 → a ≠ 86 → a ≠ 92 → c' a = c a) ∧ (c' 83 0 = 0 ∧ c' 83 1 = 0 ∧ c' 83 2 = w32 (ishl 1 (c s 1) - 1) ∧ c' 83 3 = 0) ∧ (∀ j, j < 6 → c' 84 j = 0) ∧ (∀ j, j < 6 → c' 85 j = c (s + 7) j) ∧ c' 86 0 = 0 ∧ c' 82 3 = 0 ∧ (∀ j, j ≠ 3 → c' 82 j = c 82 j) ∧ ∀ j, j < 6 → c' 92 j = -2) := by
  unfold fn_Standing_begin
  refine TT_call (state83_ok hs) (fun r c3 q => ?_)
  simp only [bn_eq]
  obtain ⟨q1, q2, q3, q4⟩ := q
  refine TT_call (fillI_ok (by omega)) (fun r c4 p => TT_some.mpr ?_)
  obtain ⟨p1, p2, p3⟩ := p
  refine ⟨fun a a0 a1 a2 a3 a4 a5 => ?_, ⟨?_, ?_, ?_, ?_⟩, fun j hj => ?_, fun j hj => ?_, ?_, ?_, fun j hj => ?_, fun j hj => p2 j hj⟩
  · rw [p1 a (by omega), mst_ne (by omega), mst_ne (by omega)]; exact q1 a a1 a2 a3
  · rw [p1 83 (by omega), mst_ne (by omega), mst_ne (by omega)]; exact q2.1
  · rw [p1 83 (by omega), mst_ne (by omega), mst_ne (by omega)]; exact q2.2.1
  · rw [p1 83 (by omega), mst_ne (by omega), mst_ne (by omega)]; exact q2.2.2.1
  · rw [p1 83 (by omega), mst_ne (by omega), mst_ne (by omega)]; exact q2.2.2.2
  · rw [p1 84 (by omega), mst_ne (by omega), mst_ne (by omega)]; exact q3 j hj
  · rw [p1 85 (by omega), mst_ne (by omega), mst_ne (by omega)]; exact q4 j hj
  · rw [p1 86 (by omega), mst_ne (by omega)]; exact mst_hit
  · rw [p1 82 (by omega)]; exact mst_hit
  · rw [p1 82 (by omega), mst_miss hj, mst_ne (by omega), q1 82 (by omega) (by omega) (by omega)]
theorem hills52_ok {v : Int} {c : Mm} : TT (lp_Clock_hills_52 FU v 0 c) (fun r c' => r = v ∧ (∀ a, a ≠ 111 → a ≠ 122 → a ≠ 133 → a ≠ 144 → c' a = c a) ∧ ∀ i : Int, 0 ≤ i → i < 4 → c' (11 * i.toNat + 111) 0 = 0) := by
  refine lp_inv2 (bo := bo_Clock_hills_52) (fun _ => rfl) (fun v' i c' => v' = v ∧ 0 ≤ i ∧ i ≤ 4 ∧ (∀ a, a ≠ 111 → a ≠ 122 → a ≠ 133 → a ≠ 144 → c' a = c a) ∧ ∀ t : Int, 0 ≤ t → t < i → c' (11 * t.toNat + 111) 0 = 0) (fun _ i _ => (4 - i).toNat) ?_ FU v 0 c ⟨rfl, by omega, by omega, fun _ _ _ _ _ => rfl, fun t t0 t1 => by omega⟩ (by decide)
  intro k v' i c' hI hk
  obtain ⟨rfl, i0, i1, f1, f2⟩ := hI
  unfold bo_Clock_hills_52
  refine TT_if (fun g => ?_) (fun g => ?_)
  · rw [if_pos (by omega : 0 ≤ i ∧ i < 4), bn_eq, w32_in (x := i + 1) (by omega) (by omega)]
    refine hk _ _ _ ⟨rfl, by omega, by omega, fun a a0 a1 a2 a3 => by rw [mst_ne (by omega)]; exact f1 a a0 a1 a2 a3, fun t t0 t1 => ?_⟩ (by omega)
    by_cases y : t = i
    · subst y; exact mst_hit
    · rw [mst_ne (by omega)]; exact f2 t t0 (by omega)
  · exact TT_some.mpr ⟨rfl, f1, fun t t0 t1 => f2 t t0 (by omega)⟩
theorem hills47_ok {d : Mm} : TT (lp_Model_hills_47 FU 0 d) (fun r d' => r = 0 ∧ (∀ a, a ≠ 249 → d' a = d a) ∧ ∀ j : Nat, j < 4 → d' 249 j = 0) := by
  refine lp_inv1 (bo := bo_Model_hills_47) (fun _ => rfl) (fun i d' => 0 ≤ i ∧ i ≤ 4 ∧ (∀ a, a ≠ 249 → d' a = d a) ∧ ∀ j : Nat, (j : Int) < i → d' 249 j = 0) (fun i _ => (4 - i).toNat) ?_ FU 0 d ⟨by omega, by omega, fun _ _ => rfl, fun j hj => by omega⟩ (by decide)
  intro k i d' hI hk
  obtain ⟨i0, i1, f1, f2⟩ := hI
  unfold bo_Model_hills_47
  refine TT_if (fun g => ?_) (fun g => ?_)
  · rw [if_pos (by omega : 0 ≤ i ∧ i < 4), bn_eq, w32_in (x := i + 1) (by omega) (by omega)]
    refine hk _ _ ⟨by omega, by omega, fun a ha => by rw [mst_ne ha]; exact f1 a ha, fun j hj => ?_⟩ (by omega)
    by_cases y : j = i.toNat
    · subst y; exact mst_hit
    · rw [mst_miss y]; exact f2 j (by omega)
  · exact TT_some.mpr ⟨rfl, f1, fun j hj => f2 j (by omega)⟩
theorem PG_of {s : Nat} {c d dl : Mm} (H : HR s c d) (L : LaI d dl) : PG (dl 205 0) (dl 209) := fun p q p0 p1 q0 q1 => by
  obtain ⟨z1, z2, z3, z4, z5⟩ := H.2.2.2.2.1 p q p0 p1 q0 q1
  have e : dl 209 (6 * p + q).toNat = d 209 (36 + 6 * p + q).toNat := by
    have h36 : half 209 = 36 := rfl
    rw [L.2.1 209 (by decide) (by decide) _ (by omega), h36]
    congr 1
    omega
  have n0 : dl 205 0 = d 205 5 := L.2.1 205 (by decide) (by decide) 0 (by decide)
  rw [e, n0]
  exact ⟨z2, z3, z5⟩
theorem call_hills {f : Int → Int → Int → Int} {m : Mm} (hR : RR f m m) : Both fn_Clock_hills fn_Model_hills m := by
  refine pair_both hR (fun d hd hRd => ?_)
  obtain ⟨s, o, h03, h02, hso⟩ : ∃ s o : Nat, m 0 3 = (s : Int) ∧ m 0 2 = (o : Int) ∧ ((s = 4 ∧ o = 41) ∨ (s = 41 ∧ o = 4)) := by
    rcases hRd.2.1 with ⟨h, h'⟩ | ⟨h, h'⟩
    · exact ⟨41, 4, h', h, Or.inr ⟨rfl, rfl⟩⟩
    · exact ⟨4, 41, h', h, Or.inl ⟨rfl, rfl⟩⟩
  have hs : s = 4 ∨ s = 41 := by omega
  have hR1 : RR f m (mst d 203 0 0) := RR_FQ hRd FQ_refl ⟨fun a a0 _ _ _ => mst_ne (by omega), mst_miss (by decide), mst_miss (by decide)⟩
  have eS : (m 0 3).toNat = s := by omega
  unfold fn_Clock_hills fn_Model_hills
  rw [if_pos (isK0 (by omega)), bn_eq, eS]
  obtain ⟨r, b, c', d2, e1, e2, e3, e4, e5, e6, ⟨e7, e8⟩, e9⟩ := read_pair hR1 hs
  rw [e1, e2, bd_some, bd_some]
  have e0 : c' 0 = m 0 := e3 0 (by decide) (by decide) (by omega)
  have e5' : ∀ a, a ≠ 203 → (a < 205 ∨ 225 < a) → d2 a = d a := fun a a0 a1 => by rw [e5 a a0 a1, mst_ne a0]
  have e6' : ∀ a, 205 ≤ a → a ≤ 223 → ∀ j, j < half a → d2 a j = d a j := fun a a0 a1 j hj => by rw [e6 a a0 a1 j hj, mst_ne (by omega)]
  rcases e9 with ⟨hb, hr, c1, H, h1, h2⟩ | ⟨hb, hr, h0⟩
  · have k03 : c' 0 3 = (s : Int) := by rw [e0]; exact h03
    have k02 : c' 0 2 = (o : Int) := by rw [e0]; exact h02
    have t03 : (c' 0 3).toNat = s := by omega
    have t02 : (c' 0 2).toNat = o := by omega
    rw [if_pos hr, if_neg (by omega : ¬ b = 0), if_pos (isK0 (by omega)), if_pos (isK0 (by omega)), t03, t02, bn_eq, bn_eq, mst_hit, if_pos (isK0 (by omega))]
    have tS : ((s : Nat) : Int).toNat = s := by omega
    rw [tS]
    -- the class goes on
    obtain ⟨rb, cb, b1, b2, b3, b4, b5, b6, b7, b8, b9⟩ := begin83_ok (s := s) (c := mst (mst c' 0 3 ((o : Nat) : Int)) 0 2 ((s : Nat) : Int)) hs
    rw [b1, bd_some, bn_eq]
    obtain ⟨rc, cF, g1, rfl, g2, g3⟩ := hills52_ok (v := r) (c := mst cb 0 9 0)
    rw [g1]
    -- the reference goes on
    obtain ⟨rl, dl, l1, L⟩ := lays_ok (d := d2)
    have hL205 : ∀ a, 226 ≤ a → dl a = d2 a := fun a a0 => L.1 a (by omega)
    have hmm : ∃ mm : Mm, (∀ a, a ≠ 250 → mm a = dl a) ∧ ∀ p q : Int, 0 ≤ p → p < 6 → 0 ≤ q → q < 6 → mm 250 (6 * p + q).toNat = rnds (dl 209) 6 p q := by
      refine ⟨fun a => if a = 250 then (fun k => rnds (dl 209) 6 ((k : Int) / 6) ((k : Int) % 6)) else dl a, fun a ha => if_neg ha, fun p q p0 p1 q0 q1 => ?_⟩
      show (if (250 : Nat) = 250 then (fun k : Nat => rnds (dl 209) 6 ((k : Int) / 6) ((k : Int) % 6)) else dl 250) (6 * p + q).toNat = _
      rw [if_pos rfl]
      have e1 : (((6 * p + q).toNat : Nat) : Int) / 6 = p := by omega
      have e2 : (((6 * p + q).toNat : Nat) : Int) % 6 = q := by omega
      show rnds (dl 209) 6 ((((6 * p + q).toNat : Nat) : Int) / 6) ((((6 * p + q).toNat : Nat) : Int) % 6) = _
      rw [e1, e2]
    obtain ⟨mm, mm1, mm2⟩ := hmm
    obtain ⟨f1, HL1⟩ := HlR_of (c' := c') (d' := mm) H L (fun a a0 a1 => mm1 a (by omega)) (by rw [mm1 209 (by decide)]; exact mm2) h1 h2
    have hHD := HL1.1
    obtain ⟨rf, d3, x1, x2, x3⟩ := fresh_ok (m := mm) hHD (d := dl) (mm1 205 (by decide)).symm (mm1 218 (by decide)).symm (fun j _ => by rw [mm1 245 (by decide)])
    obtain ⟨rg, d4, y1, y2, y3, y4, y5, y6⟩ := forgets_ok (d := d3)
    have hPG : PG (dl 205 0) (d4 209) := by
      rw [y2 209 (by decide) (by decide), x2 209 (by decide)]
      exact PG_of H L
    obtain ⟨rw', d5, w1, w2, w3⟩ := laysWays_ok (m := d4) hPG
    have t0 : (0 : Int).toNat = 0 := rfl
    rw [l1, bd_some, x1, bd_some, y1, bd_some, w1, bd_some, t0, bn_eq, bn_eq]
    obtain ⟨rz, dF, z1, rfl, z2, z3⟩ := hills47_ok (d := mst (mst d5 236 0 0) 203 58 0)
    rw [z1]
    have q : ∀ a, a ≠ 203 → a ≠ 236 → a ≠ 240 → a ≠ 244 → a ≠ 245 → a ≠ 249 → a ≠ 250 → dF a = dl a := fun a a0 a1 a2 a3 a4 a5 a6 => by
      rw [z2 a a5, mst_ne a0, mst_ne a1, w2 a a6, y2 a a2 a3, x2 a a4]
    have cq : ∀ a, a ≠ 0 → a ≠ 82 → a ≠ 83 → a ≠ 84 → a ≠ 85 → a ≠ 86 → a ≠ 92 → a ≠ 111 → a ≠ 122 → a ≠ 133 → a ≠ 144 → cF a = c' a := fun a a0 a1 a2 a3 a4 a5 a6 a7 a8 a9 a10 => by
      rw [g2 a a7 a8 a9 a10, mst_ne a0, b2 a a1 a2 a3 a4 a5 a6, mst_ne a0, mst_ne a0]
    have cb0 : ∀ j, j ≠ 9 → cF 0 j = mst (mst c' 0 3 ((o : Nat) : Int)) 0 2 ((s : Nat) : Int) 0 j := fun j hj => by
      rw [g2 0 (by decide) (by decide) (by decide) (by decide), mst_miss hj, b2 0 (by decide) (by decide) (by decide) (by decide) (by decide) (by decide)]
    have f250 : ∀ p q : Int, 0 ≤ p → p < 6 → 0 ≤ q → q < 6 → dF 250 (6 * p + q).toNat = rnds (dF 209) 6 p q := fun p q' p0 p1 q0 q1 => by
      have e : dF 209 = d4 209 := by rw [z2 209 (by decide), mst_ne (by decide), mst_ne (by decide), w2 209 (by decide)]
      rw [z2 250 (by decide), mst_ne (by decide), mst_ne (by decide), w3 p q' p0 p1 q0 q1, e]
    obtain ⟨f2, HL⟩ := HlR_of (c' := cF) (d' := dF) H L (fun a a0 a1 => q a (by omega) (by omega) (by omega) (by omega) (by omega) (by omega) (by omega)) f250 (fun a a0 a1 a2 => by rw [cq a (by omega) (by omega) (by omega) (by omega) (by omega) (by omega) (by omega) (by omega) (by omega) (by omega) (by omega)]; exact h1 a a0 a1 a2) (fun hp p q p0 p1 q0 q1 => by rw [cq (s + 5) (by omega) (by omega) (by omega) (by omega) (by omega) (by omega) (by omega) (by omega) (by omega) (by omega) (by omega)]; exact h2 hp p q p0 p1 q0 q1)
    have cg : ∀ a, 82 ≤ a → a ≤ 92 → cF a = cb a := fun a a0 a1 => by
      rw [g2 a (by omega) (by omega) (by omega) (by omega), mst_ne (by omega)]
    have d245 : dF 245 = frS mm := by
      rw [z2 245 (by decide), mst_ne (by decide), mst_ne (by decide), w2 245 (by decide), y2 245 (by decide) (by decide), x3]
    have dF205 : dF 205 = mm 205 := by rw [q 205 (by decide) (by decide) (by decide) (by decide) (by decide) (by decide) (by decide), mm1 205 (by decide)]
    have hn := hHD.1
    have hRd0 := hRd
    obtain ⟨u1, u2, u3, u4, u5, u6, u7, u8, u9, u10⟩ := hRd
    have w02 : cF 0 2 = (s : Int) := by rw [cb0 2 (by decide), mst_hit]
    have w03 : cF 0 3 = (o : Int) := by rw [cb0 3 (by decide), mst_miss (by decide), mst_hit]
    refine ⟨_, cF, dF, f2, rfl, by rw [hr], fun a a0 => ?_, fun a a0 => ?_, ?_, ?_, ?_, ?_, ?_, ?_, ?_, ?_, ?_, ?_⟩
    · rw [cq a (by omega) (by omega) (by omega) (by omega) (by omega) (by omega) (by omega) (by omega) (by omega) (by omega) (by omega)]
      exact e3 a (by omega) (by omega) (by omega)
    · rw [q a (by omega) (by omega) (by omega) (by omega) (by omega) (by omega) (by omega), L.1 a (by omega)]
      exact e5' a (by omega) (by omega)
    · unfold TpR
      have a1 : cF 1 0 = 0 := by rw [cq 1 (by decide) (by decide) (by decide) (by decide) (by decide) (by decide) (by decide) (by decide) (by decide) (by decide) (by decide)]; exact e4
      have a2 : dF 203 1 = 0 := by
        rw [z2 203 (by decide), mst_miss (by decide), mst_ne (by decide), w2 203 (by decide), y2 203 (by decide) (by decide), x2 203 (by decide), L.1 203 (by decide)]; exact e7
      rw [a1, a2]
      exact ⟨rfl, by omega, by omega, fun i i0 i1 => by omega⟩
    · rw [w02, w03]; omega
    · have e : (cF 0 2).toNat = s := by omega
      rw [e]; exact HL
    · rw [d245]
      refine ⟨⟨?_, ?_, ?_, ?_, fun w w0 w1 => ?_, fun x x0 x1 => ?_⟩, SD_congr (fr_SD hHD).1 dF205⟩
      · rw [cg 83 (by decide) (by decide), b3.1]
        unfold frS
        rw [if_neg (by omega), if_neg (by omega), if_neg (by omega)]
      · rw [cg 83 (by decide) (by decide), b3.2.1]
        unfold frS
        rw [if_neg (by omega), if_neg (by omega), if_neg (by omega)]
      · have ec : mst (mst c' 0 3 ((o : Nat) : Int)) 0 2 ((s : Nat) : Int) s 1 = mm 205 1 := by
          rw [mst_ne (by omega), mst_ne (by omega)]; exact HL1.2.1.2.2.1
        rw [cg 83 (by decide) (by decide), b3.2.2.1, ec]
        unfold frS
        rw [if_neg (by omega), if_pos rfl]
      · rw [cg 83 (by decide) (by decide), b3.2.2.2]
        unfold frS
        rw [if_neg (by omega), if_neg (by omega), if_neg (by omega)]
      · rw [cg 84 (by decide) (by decide), b4 _ (by omega), (fr_SD hHD).2 w w0 w1]
        exact ⟨rfl, by omega⟩
      · rw [dF205] at x1
        have e : (10 + x).toNat - 10 = x.toNat := by omega
        rw [cg 85 (by decide) (by decide), b5 _ (by omega), mst_ne (by omega), mst_ne (by omega), (HL1.2.2.1 x x0 x1).1]
        unfold frS
        rw [if_neg (by omega), if_neg (by omega), if_pos (by omega), e]
    · have a1 : dF 236 0 = 0 := by rw [z2 236 (by decide), mst_ne (by decide), mst_hit]
      unfold LnR
      rw [t0, a1, cg 86 (by decide) (by decide), b6]
      exact ⟨rfl, by omega, by omega, fun i i0 i1 => by omega⟩
    · have a1 : dF 240 0 = 0 := by rw [z2 240 (by decide), mst_ne (by decide), mst_ne (by decide), w2 240 (by decide), y3]
      have a2 : cF 82 6 = m 82 6 := by
        rw [cg 82 (by decide) (by decide), b8 6 (by decide), mst_ne (by decide), mst_ne (by decide)]
        rw [e3 82 (by decide) (by decide) (by omega)]
      unfold SnR
      rw [t0, a1, cg 82 (by decide) (by decide), b7, ← cg 82 (by decide) (by decide), a2]
      exact ⟨rfl, by omega, by omega, u6.2.2.2.1, u6.2.2.2.2.1, fun i i0 i1 => by omega⟩
    · intro h h0 h1'
      rw [dF205] at h1'
      have a1 : dF 244 (6 * 0 + h).toNat = -2 := by
        have e : (6 * 0 + h).toNat = h.toNat := by omega
        rw [e, z2 244 (by decide), mst_ne (by decide), mst_ne (by decide), w2 244 (by decide), y5 _ (by omega)]
      rw [a1, cg 92 (by decide) (by decide), b9 _ (by omega)]
      exact ⟨rfl, by omega, by omega⟩
    · intro i i0 i1
      have a1 : dF 249 i.toNat = 0 := z3 _ (by omega)
      rw [a1, g3 i i0 i1]
      exact ⟨rfl, Or.inl rfl, fun z => by omega⟩
    · have a1 : dF 203 58 = 0 := by rw [z2 203 (by decide), mst_hit]
      have a2 : cF 0 9 = 0 := by rw [g2 0 (by decide) (by decide) (by decide) (by decide), mst_hit]
      have a3 : cF 0 8 = m 0 8 := by rw [cb0 8 (by decide), mst_miss (by decide), mst_miss (by decide), e0]
      unfold UnR
      rw [a1, a2, a3]
      exact ⟨rfl, by omega, by omega, u9.2.2.2.1, u9.2.2.2.2.1, fun i i0 i1 => by omega⟩
    · rw [q 243 (by decide) (by decide) (by decide) (by decide) (by decide) (by decide) (by decide), L.1 243 (by decide), e5' 243 (by decide) (by decide)]; exact u10
  · rw [if_neg (by omega : ¬ r = 0), if_pos hb, hr]
    refine ⟨d2 203 9, c', d2, f, rfl, rfl, fun a a0 => e3 a (by omega) (by omega) (by omega), fun a a0 => e5' a (by omega) (by omega), ?_⟩
    have hSp := RR_spare2 (s := s) (c' := c') hRd (by omega) (fun a a0 a1 a2 a3 => e3 a a1 a2 a3) e4
    refine RR_half hSp (fun a a0 a1 j hj => ?_) (fun a ha => ?_) ?_ ?_
    · rw [mst_ne (by omega)]; exact e6' a a0 a1 j hj
    · rw [mst_ne (by omega)]; exact e5' a (by omega) (by omega)
    · rw [mst_hit]; exact e7
    · rw [mst_miss (by decide), e8 58 (by decide), mst_miss (by decide)]
end Hc
