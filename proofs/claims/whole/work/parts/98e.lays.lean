/-! What is read is laid. -/
section Ly
variable {m : Mm}
def ShI (d : Mm) (n : Nat) (d' : Mm) : Prop := (∀ b, (b < 205 ∨ n ≤ b) → d' b = d b) ∧ ∀ b, 205 ≤ b → b < n → ∀ j, j < half b → d' b j = d b (half b + j)
theorem shifts_ok {n a : Nat} {h : Int} {d : Mm} (h0 : 0 ≤ h) (h1 : h ≤ 1000) (hn : 2 * h ≤ n) : TT (fn_Model_shifts n a h d) (fun _ d' => (∀ b, b ≠ a → d' b = d b) ∧ ∀ j : Nat, (j : Int) < h → d' a j = d a (h.toNat + j)) := by
  unfold fn_Model_shifts
  refine lp_inv1 (lp := lp_Model_shifts_2 n a h) (bo := bo_Model_shifts_2 n a h) (fun _ => rfl) (fun v d' => 0 ≤ v ∧ v ≤ h ∧ (∀ b, b ≠ a → d' b = d b) ∧ ∀ j : Nat, ((j : Int) < v → d' a j = d a (h.toNat + j)) ∧ (v ≤ (j : Int) → d' a j = d a j)) (fun v _ => (h - v).toNat) ?_ FU 0 d ⟨by omega, h0, fun _ _ => rfl, fun j => ⟨fun z => by omega, fun _ => rfl⟩⟩ (by show (h - 0).toNat < 2000; omega)
  intro k v d' hI hk
  obtain ⟨v0, v1, f1, f2⟩ := hI
  unfold bo_Model_shifts_2
  refine TT_if (fun g => ?_) (fun g => ?_)
  · rw [w32_in (x := h + v) (by omega) (by omega), if_pos (by omega : 0 ≤ h + v ∧ h + v < (n : Int)), if_pos (by omega : 0 ≤ v ∧ v < (n : Int)), bn_eq, w32_in (x := v + 1) (by omega) (by omega)]
    refine hk _ _ ⟨by omega, by omega, fun b hb => by rw [mst_ne hb]; exact f1 b hb, fun j => ⟨fun z => ?_, fun z => ?_⟩⟩ (by omega)
    · by_cases y : j = v.toNat
      · subst y
        rw [mst_hit, (f2 _).2 (by omega)]
        congr 1
        omega
      · rw [mst_miss y]; exact (f2 j).1 (by omega)
    · rw [mst_miss (by omega)]; exact (f2 j).2 (by omega)
  · exact TT_some.mpr ⟨f1, fun j hj => (f2 j).1 (by omega)⟩
theorem shiftsNames_ok {n a : Nat} {h : Int} {d : Mm} (h0 : 0 ≤ h) (h1 : h ≤ 1000) (hn : 2 * h ≤ n) : TT (fn_Model_shiftsNames n a h d) (fun _ d' => (∀ b, b ≠ a → d' b = d b) ∧ ∀ j : Nat, (j : Int) < h → d' a j = d a (h.toNat + j)) := by
  unfold fn_Model_shiftsNames
  refine lp_inv1 (lp := lp_Model_shiftsNames_2 n a h) (bo := bo_Model_shiftsNames_2 n a h) (fun _ => rfl) (fun v d' => 0 ≤ v ∧ v ≤ h ∧ (∀ b, b ≠ a → d' b = d b) ∧ ∀ j : Nat, ((j : Int) < v → d' a j = d a (h.toNat + j)) ∧ (v ≤ (j : Int) → d' a j = d a j)) (fun v _ => (h - v).toNat) ?_ FU 0 d ⟨by omega, h0, fun _ _ => rfl, fun j => ⟨fun z => by omega, fun _ => rfl⟩⟩ (by show (h - 0).toNat < 2000; omega)
  intro k v d' hI hk
  obtain ⟨v0, v1, f1, f2⟩ := hI
  unfold bo_Model_shiftsNames_2
  refine TT_if (fun g => ?_) (fun g => ?_)
  · rw [w32_in (x := h + v) (by omega) (by omega), if_pos (by omega : 0 ≤ h + v ∧ h + v < (n : Int)), if_pos (by omega : 0 ≤ v ∧ v < (n : Int)), bn_eq, w32_in (x := v + 1) (by omega) (by omega)]
    refine hk _ _ ⟨by omega, by omega, fun b hb => by rw [mst_ne hb]; exact f1 b hb, fun j => ⟨fun z => ?_, fun z => ?_⟩⟩ (by omega)
    · by_cases y : j = v.toNat
      · subst y
        rw [mst_hit, (f2 _).2 (by omega)]
        congr 1
        omega
      · rw [mst_miss y]; exact (f2 j).1 (by omega)
    · rw [mst_miss (by omega)]; exact (f2 j).2 (by omega)
  · exact TT_some.mpr ⟨f1, fun j hj => (f2 j).1 (by omega)⟩
theorem Sh_step {d d1 d2 : Mm} {n : Nat} (h : ShI d n d1) (hn : 205 ≤ n) (e1 : ∀ b, b ≠ n → d2 b = d1 b) (e2 : ∀ j, j < half n → d2 n j = d1 n (half n + j)) : ShI d (n + 1) d2 := by
  refine ⟨fun b hb => ?_, fun b b0 b1 j hj => ?_⟩
  · rw [e1 b (by omega)]; exact h.1 b (by omega)
  · by_cases z : b = n
    · subst z
      rw [e2 j hj, h.1 b (by omega)]
    · rw [e1 b z]; exact h.2 b b0 (by omega) j hj
theorem sh_go {d d1 : Mm} {n N : Nat} {h : Int} {K : Int → Mm → Res} {Q : Int → Mm → Prop} (hI : ShI d n d1) (hn : 205 ≤ n) (hh : half n = h.toNat) (h0 : 0 ≤ h) (h1 : h ≤ 1000) (hN : 2 * h ≤ N) (hK : ∀ r d2, ShI d (n + 1) d2 → TT (K r d2) Q) : TT (bd (fn_Model_shifts N n h d1) K) Q := by
  refine TT_call (shifts_ok h0 h1 hN) (fun r d2 q => hK r d2 (Sh_step hI hn q.1 (fun j hj => ?_)))
  rw [hh] at hj ⊢
  exact q.2 j (by omega)
theorem sh_goN {d d1 : Mm} {n N : Nat} {h : Int} {K : Int → Mm → Res} {Q : Int → Mm → Prop} (hI : ShI d n d1) (hn : 205 ≤ n) (hh : half n = h.toNat) (h0 : 0 ≤ h) (h1 : h ≤ 1000) (hN : 2 * h ≤ N) (hK : ∀ r d2, ShI d (n + 1) d2 → TT (K r d2) Q) : TT (bd (fn_Model_shiftsNames N n h d1) K) Q := by
  refine TT_call (shiftsNames_ok h0 h1 hN) (fun r d2 q => hK r d2 (Sh_step hI hn q.1 (fun j hj => ?_)))
  rw [hh] at hj ⊢
  exact q.2 j (by omega)
/-- what lays leaves -/
def LaI (d d' : Mm) : Prop := (∀ b, (b < 205 ∨ 223 < b) → d' b = d b) ∧ (∀ b, 205 ≤ b → b ≤ 220 → ∀ j, j < half b → d' b j = d b (half b + j)) ∧ (∀ j, j < 1000 → d' 223 j = d 223 (1000 + j)) ∧ d' 221 0 = w32 (d 221 1 - 1000) ∧ d' 222 0 = w32 (d 222 1 - 1000)
theorem lays_ok {d : Mm} : TT (fn_Model_lays d) (fun _ d' => LaI d d') := by
  unfold fn_Model_lays
  have I0 : ShI d 205 d := ⟨fun _ _ => rfl, fun b b0 b1 => by omega⟩
  refine sh_go I0 (by decide) rfl (by decide) (by decide) (by decide) (fun r d1 I => ?_)
  refine sh_goN I (by decide) rfl (by decide) (by decide) (by decide) (fun r d1 I => ?_)
  refine sh_goN I (by decide) rfl (by decide) (by decide) (by decide) (fun r d1 I => ?_)
  refine sh_goN I (by decide) rfl (by decide) (by decide) (by decide) (fun r d1 I => ?_)
  refine sh_go I (by decide) rfl (by decide) (by decide) (by decide) (fun r d1 I => ?_)
  refine sh_go I (by decide) rfl (by decide) (by decide) (by decide) (fun r d1 I => ?_)
  refine sh_go I (by decide) rfl (by decide) (by decide) (by decide) (fun r d1 I => ?_)
  refine sh_go I (by decide) rfl (by decide) (by decide) (by decide) (fun r d1 I => ?_)
  refine sh_go I (by decide) rfl (by decide) (by decide) (by decide) (fun r d1 I => ?_)
  refine sh_go I (by decide) rfl (by decide) (by decide) (by decide) (fun r d1 I => ?_)
  refine sh_go I (by decide) rfl (by decide) (by decide) (by decide) (fun r d1 I => ?_)
  refine sh_go I (by decide) rfl (by decide) (by decide) (by decide) (fun r d1 I => ?_)
  refine sh_go I (by decide) rfl (by decide) (by decide) (by decide) (fun r d1 I => ?_)
  refine sh_go I (by decide) rfl (by decide) (by decide) (by decide) (fun r d1 I => ?_)
  refine sh_go I (by decide) rfl (by decide) (by decide) (by decide) (fun r d1 I => ?_)
  refine sh_go I (by decide) rfl (by decide) (by decide) (by decide) (fun r d1 I => ?_)
  refine TT_call (shifts_ok (by decide) (by decide) (by decide)) (fun r d2 q => ?_)
  have t1000 : (1000 : Int).toNat = 1000 := rfl
  rw [t1000] at q
  simp only [bn_eq, tn0, tn1]
  refine TT_some.mpr ⟨fun b hb => ?_, fun b b0 b1 j hj => ?_, fun j hj => ?_, ?_, ?_⟩
  · rw [mst_ne (by omega), mst_ne (by omega), q.1 b (by omega)]; exact I.1 b (by omega)
  · rw [mst_ne (by omega), mst_ne (by omega), q.1 b (by omega)]; exact I.2 b b0 (by omega) j hj
  · rw [mst_ne (by omega), mst_ne (by omega), q.2 j (by omega), I.1 223 (by omega)]
  · rw [mst_ne (by omega), mst_hit, q.1 221 (by omega), I.1 221 (by omega)]
  · rw [mst_hit, mst_ne (by omega), q.1 222 (by omega), I.1 222 (by omega)]
theorem forgets_ok {d : Mm} : TT (fn_Model_forgets d) (fun _ d' => (∀ a, a ≠ 240 → a ≠ 244 → d' a = d a) ∧ d' 240 0 = 0 ∧ (∀ j, j ≠ 0 → d' 240 j = d 240 j) ∧ (∀ j, j < 6 → d' 244 j = -2) ∧ ∀ j, 6 ≤ j → d' 244 j = d 244 j) := by
  unfold fn_Model_forgets
  rw [bn_eq, tn0]
  refine lp_inv1 (bo := bo_Model_forgets_9) (fun _ => rfl) (fun v d' => 0 ≤ v ∧ v ≤ 6 ∧ (∀ a, a ≠ 240 → a ≠ 244 → d' a = d a) ∧ d' 240 = mst d 240 0 0 240 ∧ ∀ j : Nat, ((j : Int) < v → d' 244 j = -2) ∧ (v ≤ (j : Int) → d' 244 j = d 244 j)) (fun v _ => (6 - v).toNat) ?_ FU 0 _ ⟨by omega, by omega, fun a a0 a1 => mst_ne a0, rfl, fun j => ⟨fun z => by omega, fun _ => by rw [mst_ne (by decide)]⟩⟩ (by decide)
  intro k v d' hI hk
  obtain ⟨v0, v1, f1, f2, f3⟩ := hI
  unfold bo_Model_forgets_9
  refine TT_if (fun g => ?_) (fun g => ?_)
  · rw [if_pos (by omega : 0 ≤ v ∧ v < 30), bn_eq, w32_in (x := v + 1) (by omega) (by omega)]
    refine hk _ _ ⟨by omega, by omega, fun a a0 a1 => by rw [mst_ne a1]; exact f1 a a0 a1, by rw [mst_ne (by decide)]; exact f2, fun j => ⟨fun z => ?_, fun z => ?_⟩⟩ (by omega)
    · by_cases y : j = v.toNat
      · subst y; exact mst_hit
      · rw [mst_miss y]; exact (f3 j).1 (by omega)
    · rw [mst_miss (by omega)]; exact (f3 j).2 (by omega)
  · refine TT_some.mpr ⟨f1, by rw [f2, mst_hit], fun j hj => by rw [f2, mst_miss hj], fun j hj => (f3 j).1 (by omega), fun j hj => (f3 j).2 (by omega)⟩
theorem rnds_congr {P P' : Nat → Int} (h : ∀ p q : Int, 0 ≤ p → p < 6 → 0 ≤ q → q < 6 → P' (6 * p + q).toNat = P (6 * p + q).toNat) : ∀ n : Nat, n ≤ 6 → ∀ p q : Int, 0 ≤ p → p < 6 → 0 ≤ q → q < 6 → rnds P' n p q = rnds P n p q := fun n => by
  induction n with
  | zero =>
    intro _ p q p0 p1 q0 q1
    show W0 P' p q = W0 P p q
    unfold W0
    rw [h p q p0 p1 q0 q1]
  | succ n ih =>
    intro hn p q p0 p1 q0 q1
    show rnd (n : Int) (rnds P' n) p q = rnd (n : Int) (rnds P n) p q
    unfold rnd
    rw [ih (by omega) p q p0 p1 q0 q1, ih (by omega) p n p0 p1 (by omega) (by omega), ih (by omega) n q (by omega) (by omega) q0 q1]
/-- the hills that were read, as hills -/
theorem HlR_of {s : Nat} {c c' d dl d' : Mm} (H : HR s c d) (L : LaI d dl) (hd : ∀ a, 205 ≤ a → a ≤ 223 → d' a = dl a) (h250 : ∀ p q : Int, 0 ≤ p → p < 6 → 0 ≤ q → q < 6 → d' 250 (6 * p + q).toNat = rnds (d' 209) 6 p q) (hc : ∀ a, s ≤ a → a ≤ s + 36 → a ≠ s + 5 → c' a = c a) (hw : PG (c s 0) (c (s + 4)) → ∀ p q : Int, 0 ≤ p → p < c s 0 → 0 ≤ q → q < c s 0 → c' (s + 5) (6 * p + q).toNat = wvC (rnds (c (s + 4)) (c s 0).toNat p q)) : ∃ f, HlR f c' s d' := by
  obtain ⟨c1, c2, c3, c4, c5, c6⟩ := HR_cnt H
  obtain ⟨h1, h2, h3, h4, h5, h6, h7, h8⟩ := H
  obtain ⟨L1, L2, L3, L4, L5⟩ := L
  have x : ∀ (a K : Nat) (i : Int) (J : Nat), 205 ≤ a → a ≤ 220 → half a = K → 0 ≤ i → i < K → (K : Int) + i = J → d' a i.toNat = d a J := fun a K i J a0 a1 hK i0 i1 e => by
    rw [hd a a0 (by omega), L2 a a0 a1 _ (by rw [hK]; omega), hK]
    congr 1
    omega
  have n0 : d' 205 0 = d 205 5 := x 205 5 0 5 (by decide) (by decide) rfl (by decide) (by decide) (by decide)
  have n1 : d' 205 1 = d 205 6 := x 205 5 1 6 (by decide) (by decide) rfl (by decide) (by decide) (by decide)
  have n2 : d' 205 2 = d 205 7 := x 205 5 2 7 (by decide) (by decide) rfl (by decide) (by decide) (by decide)
  have n3 : d' 205 3 = d 205 8 := x 205 5 3 8 (by decide) (by decide) rfl (by decide) (by decide) (by decide)
  have n4 : d' 205 4 = d 205 9 := x 205 5 4 9 (by decide) (by decide) rfl (by decide) (by decide) (by decide)
  have pa : ∀ p q : Int, 0 ≤ p → p < 6 → 0 ≤ q → q < 6 → d' 209 (6 * p + q).toNat = d 209 (36 + 6 * p + q).toNat := fun p q p0 p1 q0 q1 => x 209 36 _ _ (by decide) (by decide) rfl (by omega) (by omega) (by omega)
  have pg : PG (d' 205 0) (d' 209) := fun p q p0 p1 q0 q1 => by
    obtain ⟨z1, z2, z3, z4, z5⟩ := h5 p q p0 p1 q0 q1
    rw [pa p q p0 p1 q0 q1, n0]
    exact ⟨z2, z3, z5⟩
  have ecp : ∀ p q : Int, 0 ≤ p → p < 6 → 0 ≤ q → q < 6 → c (s + 4) (6 * p + q).toNat = d' 209 (6 * p + q).toNat := fun p q p0 p1 q0 q1 => by
    rw [pa p q p0 p1 q0 q1]; exact (h5 p q p0 p1 q0 q1).1
  have pgc : PG (c s 0) (c (s + 4)) := fun p q p0 p1 q0 q1 => by
    rw [ecp p q p0 p1 q0 q1]
    have := pg p q p0 p1 q0 q1
    rw [n0, ← c1] at this
    exact this
  have G6 := GW_all pg 6 (by decide)
  have wk : ∀ w : Int, 0 ≤ w → w < d' 205 1 → WkR c s d w := fun w w0 w1 => h6 w w0 (by omega)
  have r6 : ∀ (a : Nat) (i : Int), ((210 ≤ a ∧ a ≤ 213) ∨ a = 215 ∨ (218 ≤ a ∧ a ≤ 220) ∨ (206 ≤ a ∧ a ≤ 208)) → 0 ≤ i → i < 6 → d' a i.toNat = d a (6 + i).toNat := fun a i ha i0 i1 => by
    refine x a 6 i _ (by omega) (by omega) ?_ i0 (by omega) (by omega)
    have : a = 206 ∨ a = 207 ∨ a = 208 ∨ a = 210 ∨ a = 211 ∨ a = 212 ∨ a = 213 ∨ a = 215 ∨ a = 218 ∨ a = 219 ∨ a = 220 := by omega
    rcases this with rfl | rfl | rfl | rfl | rfl | rfl | rfl | rfl | rfl | rfl | rfl <;> rfl
  have r14 : ∀ i : Int, 0 ≤ i → i < 24 → d' 214 i.toNat = d 214 (24 + i).toNat := fun i i0 i1 => x 214 24 i _ (by decide) (by decide) rfl i0 (by omega) (by omega)
  have r16 : ∀ (a : Nat) (i : Int), (a = 216 ∨ a = 217) → 0 ≤ i → i < 36 → d' a i.toNat = d a (36 + i).toNat := fun a i ha i0 i1 => by
    rcases ha with rfl | rfl
    · exact x 216 36 i _ (by decide) (by decide) rfl i0 (by omega) (by omega)
    · exact x 217 36 i _ (by decide) (by decide) rfl i0 (by omega) (by omega)
  have hHD : HD d' := by
    refine ⟨by rw [n0, n1, n2]; omega, fun w w0 w1 => ?_, fun p q p0 p1 q0 q1 => ?_, fun p q p0 p1 q0 q1 => ?_, fun h h0 h1' => ?_⟩
    · obtain ⟨g1, g2, g3, g4, g5, g6, g7, g8⟩ := wk w w0 w1
      unfold WKo
      rw [r6 210 w (by omega) w0 (by omega), r6 211 w (by omega) w0 (by omega), r6 212 w (by omega) w0 (by omega), r6 213 w (by omega) w0 (by omega), r6 215 w (by omega) w0 (by omega), n0, n1]
      refine ⟨g1.2.1, g1.2.2, g2.2.1, g2.2.2, g3.2.1, g3.2.2, g4.2.1, g4.2.2, g5.2.1, g5.2.2, fun i i0 i1 => ?_, fun i i0 i1 => ?_, fun p p0 p1 => ?_⟩
      · have e : 24 + (4 * w + i) = 24 + 4 * w + i := by omega
        rw [r14 (4 * w + i) (by omega) (by omega), e]
        exact (g6 i i0 i1).2
      · have e : 24 + (4 * w + i) = 24 + 4 * w + i := by omega
        have e2 : 24 + (4 * w + i + 1) = 24 + 4 * w + i + 1 := by omega
        rw [r14 (4 * w + i) (by omega) (by omega), r14 (4 * w + i + 1) (by omega) (by omega), e, e2]
        exact g7 i i0 i1
      · have e : 36 + (6 * w + p) = 36 + 6 * w + p := by omega
        rw [r16 216 (6 * w + p) (Or.inl rfl) (by omega) (by omega), r16 217 (6 * w + p) (Or.inr rfl) (by omega) (by omega), e]
        obtain ⟨z1, z2, z3, z4⟩ := g8 p p0 p1
        exact ⟨z2, z3, fun z => (z4 z).2⟩
    · rw [h250 p q p0 p1 q0 q1]
      obtain ⟨z1, z2, z3, z4, -⟩ := G6 p q p0 p1 q0 q1
      exact ⟨z1, z2, fun z _ _ => z4 z⟩
    · rw [pa p q p0 p1 q0 q1]
      obtain ⟨z1, z2, z3, z4, z5⟩ := h5 p q p0 p1 q0 q1
      exact ⟨z2, z3, z4⟩
    · obtain ⟨g1, g2, g3⟩ := h7 h h0 (by omega)
      rw [r6 218 h (by omega) h0 (by omega), r6 219 h (by omega) h0 (by omega), r6 220 h (by omega) h0 (by omega), n0, n1]
      exact ⟨g1.2.1, g1.2.2, g2.2.1, g2.2.2, g3.2.1, g3.2.2⟩
  have hHW : HW c' s d' := by
    refine ⟨h1, ?_, ?_, ?_, fun w w0 w1 => ?_, fun p q p0 p1 q0 q1 => ?_⟩
    · rw [hc s (by omega) (by omega) (by omega), n0]; exact c1
    · rw [hc s (by omega) (by omega) (by omega), n1]; exact c2
    · rw [hc s (by omega) (by omega) (by omega), n2]; exact c3
    · obtain ⟨g1, g2, g3, g4, g5, g6, g7, g8⟩ := wk w w0 w1
      rw [hc (s + 4 * w.toNat + 13) (by omega) (by omega) (by omega), hc (s + 4 * w.toNat + 14) (by omega) (by omega) (by omega), hc (s + 4 * w.toNat + 15) (by omega) (by omega) (by omega), hc (s + 4 * w.toNat + 16) (by omega) (by omega) (by omega), r6 210 w (by omega) w0 (by omega), r6 211 w (by omega) w0 (by omega), r6 212 w (by omega) w0 (by omega), r6 213 w (by omega) w0 (by omega), r6 215 w (by omega) w0 (by omega)]
      refine ⟨g1.1, g2.1, g3.1, g4.1, g5.1, fun i i0 i1 => ?_, fun p p0 p1 => ?_⟩
      · have e : 24 + (4 * w + i) = 24 + 4 * w + i := by omega
        rw [r14 (4 * w + i) (by omega) (by omega), e]
        exact (g6 i i0 i1).1
      · have e : 36 + (6 * w + p) = 36 + 6 * w + p := by omega
        rw [r16 216 (6 * w + p) (Or.inl rfl) (by omega) (by omega), r16 217 (6 * w + p) (Or.inr rfl) (by omega) (by omega), e]
        obtain ⟨z1, z2, z3, z4⟩ := g8 p p0 p1
        exact ⟨z1, fun z => (z4 z).1⟩
    · rw [n0, ← c1] at p1 q1
      rw [hw pgc p q p0 p1 q0 q1]
      unfold wayS wvC
      rw [h250 p q p0 (by omega) q0 (by omega), rnds_congr ecp (c s 0).toNat (by omega) p q p0 (by omega) q0 (by omega)]
      have pg' : PG (c s 0) (d' 209) := by rw [c1, ← n0]; exact pg
      have e := rnds_N pg' p q p0 p1 q0 q1 c4.1 c4.2 (6 - (c s 0).toNat) (by omega)
      have e6 : (c s 0).toNat + (6 - (c s 0).toNat) = 6 := by omega
      rw [e6] at e
      rw [e]
  have hHX : HX c' s d' := fun h h0 h1' => by
    obtain ⟨g1, g2, g3⟩ := h7 h h0 (by omega)
    rw [hc (s + 7) (by omega) (by omega) (by omega), hc (s + 8) (by omega) (by omega) (by omega), hc (s + 9) (by omega) (by omega) (by omega), r6 218 h (by omega) h0 (by omega), r6 219 h (by omega) h0 (by omega), r6 220 h (by omega) h0 (by omega)]
    exact ⟨g1.1, g2.1, g3.1⟩
  obtain ⟨l1, l2, l3, l4, l5, l6, l7, l8, l9⟩ := h3
  have law : ∃ f, LawC f c' (s + 10) ∧ LawM f d' := by
    obtain ⟨q221, q⟩ := h8
    have e221 : d' 221 0 = 0 := by rw [hd 221 (by decide) (by decide), L4, q221]; rfl
    rcases q with ⟨q1, q2, q3, q4, q5⟩ | ⟨q1, q2, q3, f, q4, q5⟩
    · refine ⟨fun o _ _ => o, ?_, ?_⟩
      · have g : SemC (s + 10) (c' (s + 10 + 1)) 0 1 64 (fun o _ _ => o) := SemC_h (SemC_leaf (x := -2) (i := 0) (by rw [hc (s + 10 + 1) (by omega) (by omega) (by omega)]; exact q5) (Or.inr (Or.inl ⟨rfl, rfl⟩))) (by decide)
        exact SemC_law g (by rw [hc (s + 10) (by omega) (by omega) (by omega)]; exact q4) (by decide)
      · intro m o s y z1 z2 z3 z4 z5 z6
        have e222 : d' 222 0 = 0 := by rw [hd 222 (by decide) (by decide), L5, q2]; rfl
        exact ⟨fun _ => rfl, fun z => by omega⟩
    · refine ⟨f, LawC_congr q4 (by rw [hc (s + 10) (by omega) (by omega) (by omega)]) (hc (s + 10 + 1) (by omega) (by omega) (by omega)), q5 d' e221 ?_ (fun j hj => ?_)⟩
      · rw [hd 222 (by decide) (by decide), L5, w32_in (by omega) (by omega)]
      · rw [hd 223 (by decide) (by decide), L3 j hj]
  obtain ⟨f, lc, lm⟩ := law
  refine ⟨f, hHD, hHW, hHX, ?_, ?_, fun p q p0 p1 q0 q1 => ?_, fun i i0 i1 => ?_, fun i i0 i1 => ?_, fun i i0 i1 => ?_, lc, lm⟩
  · rw [hc s (by omega) (by omega) (by omega), n3]; exact h4.1
  · rw [hc s (by omega) (by omega) (by omega), n4]; exact h4.2.1
  · rw [hc (s + 4) (by omega) (by omega) (by omega)]; exact ecp p q p0 p1 q0 q1
  · rw [n0, ← c1] at i1
    rw [hc (s + 1) (by omega) (by omega) (by omega), r6 206 i (by omega) i0 (by omega)]
    have := l7 i i0 i1
    have e : 6 * 1 + i = 6 + i := by omega
    rw [e] at this
    exact this
  · rw [n1, ← c2] at i1
    rw [hc (s + 2) (by omega) (by omega) (by omega), r6 207 i (by omega) i0 (by omega)]
    have := l8 i i0 i1
    have e : 6 * 1 + i = 6 + i := by omega
    rw [e] at this
    exact this
  · rw [n2, ← c3] at i1
    rw [hc (s + 3) (by omega) (by omega) (by omega), r6 208 i (by omega) i0 (by omega)]
    have := l9 i i0 i1
    have e : 6 * 1 + i = 6 + i := by omega
    rw [e] at this
    exact this
end Ly
