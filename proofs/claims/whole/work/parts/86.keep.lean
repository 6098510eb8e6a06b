/-! What is kept before something is done by hand. -/
section Kp
theorem mcp_ne {m : Mm} {a sp b dp n c : Nat} (h : c ≠ b) : mcp m a sp b dp n c = m c := by funext j; simp [mcp, h]
theorem mcp_hit {m : Mm} {a sp b dp n j : Nat} (h : dp ≤ j) (h2 : j < dp + n) : mcp m a sp b dp n b j = m a (sp + (j - dp)) := by simp [mcp, h, h2]
theorem mcp_miss {m : Mm} {a sp b dp n j : Nat} (h : ¬ (dp ≤ j ∧ j < dp + n)) : mcp m a sp b dp n b j = m b j := by
  unfold mcp
  rw [if_neg (fun z => h z.2)]
theorem irm16_all : ∀ x : Nat, x < 64 → irm (x : Int) 16 = ((x % 16 : Nat) : Int) := by decide +kernel
theorem irm16 {x : Int} (h0 : 0 ≤ x) (h1 : x < 64) : irm x 16 = x % 16 := by
  obtain ⟨y, hy, rfl⟩ := nn h0 (n := 64) h1
  rw [irm16_all y hy]
  omega
/-- a state is another's -/
def SameS (m : Mm) (p : Nat) (m' : Mm) (th : Nat) : Prop := m' th 0 = m p 0 ∧ m' th 1 = m p 1 ∧ m' th 2 = m p 2 ∧ m' th 3 = m p 3 ∧ ∀ j, j < 6 → m' (th + 1) j = m (p + 1) j ∧ m' (th + 2) j = m (p + 2) j
theorem SameS_StR {m m' d : Mm} {p th : Nat} {S : Nat → Int} (h : SameS m p m' th) (hd : HD d) (hS : StR m p d S) : StR m' th d S := by
  have hn := hd.1
  obtain ⟨h0, h1, h2, h3, h4⟩ := h
  obtain ⟨⟨s0, s1, s2, s3, s4, s5⟩, hs⟩ := hS
  refine ⟨⟨h0.trans s0, h1.trans s1, h2.trans s2, h3.trans s3, fun w w0 w1 => ?_, fun h x0 x1 => ?_⟩, hs⟩
  · rw [(h4 w.toNat (by omega)).1]; exact s4 w w0 w1
  · rw [(h4 h.toNat (by omega)).2]; exact s5 h x0 x1
theorem stCopy_ok {th p : Nat} {m : Mm} (hd : th + 2 < p ∨ p + 2 < th) (h3 : m p 3 = 0 ∨ m p 3 = 1) : TT (fn_State_copy th p m) (fun _ m' => (∀ a, a ≠ th → a ≠ th + 1 → a ≠ th + 2 → m' a = m a) ∧ (∀ j, 4 ≤ j → m' th j = m th j) ∧ SameS m p m' th) := by
  unfold fn_State_copy
  simp only [bn_eq, tn0, show (6 : Int).toNat = 6 from rfl]
  simp (disch := omega) only [mst_ne, g_pos]
  refine TT_some.mpr ⟨fun a a0 a1 a2 => ?_, fun j hj => ?_, ?_, ?_, ?_, ?_, fun j hj => ⟨?_, ?_⟩⟩
  · simp (disch := omega) only [mcp_ne, mst_ne]
  · simp (disch := omega) only [mcp_ne, mst_miss]
  · simp (disch := omega) only [mcp_ne, mst_miss, mst_hit]
  · simp (disch := omega) only [mcp_ne, mst_miss, mst_hit]
  · simp (disch := omega) only [mcp_ne, mst_miss, mst_hit]
  · simp (disch := omega) only [mcp_ne, mst_miss, mst_hit]
  · rw [mcp_ne (by omega), mcp_hit (by omega) (by omega), Nat.zero_add, Nat.sub_zero]
    simp (disch := omega) only [mst_ne]
  · rw [mcp_hit (by omega) (by omega), Nat.zero_add, Nat.sub_zero, mcp_ne (by omega)]
    simp (disch := omega) only [mst_ne]
/-- the class has kept its state -/
def RemP (c c' : Mm) : Prop := (∀ a, a ≠ 0 → ¬ (155 ≤ a ∧ a < 203) → c' a = c a) ∧ (∀ j, j ≠ 8 → j ≠ 9 → c' 0 j = c 0 j)
  ∧ c' 0 8 = (if c 0 9 = 16 then (c 0 8 + 1) % 16 else c 0 8) ∧ c' 0 9 = (if c 0 9 = 16 then 16 else c 0 9 + 1)
  ∧ SameS c 83 c' (3 * ((c' 0 8 + c' 0 9 - 1) % 16).toNat + 155) ∧ ∀ a, 155 ≤ a → a < 203 → a ≠ 3 * ((c' 0 8 + c' 0 9 - 1) % 16).toNat + 155 → a ≠ 3 * ((c' 0 8 + c' 0 9 - 1) % 16).toNat + 156 → a ≠ 3 * ((c' 0 8 + c' 0 9 - 1) % 16).toNat + 157 → c' a = c a
theorem remember_ok {c : Mm} (h8 : 0 ≤ c 0 8 ∧ c 0 8 < 16) (h9 : 0 ≤ c 0 9 ∧ c 0 9 ≤ 16) (h3 : c 83 3 = 0 ∨ c 83 3 = 1) : TT (fn_Clock_remember c) (fun _ c' => RemP c c') := by
  have key : ∀ (c1 : Mm) (o u : Int), (∀ a, a ≠ 0 → c1 a = c a) → (∀ j, j ≠ 8 → j ≠ 9 → c1 0 j = c 0 j) → c1 0 8 = o → c1 0 9 = u → 0 ≤ o → o < 16 → 0 ≤ u → u < 16 → o = (if c 0 9 = 16 then (c 0 8 + 1) % 16 else c 0 8) → u + 1 = (if c 0 9 = 16 then 16 else c 0 9 + 1) → TT (bo_Clock_remember_32 c1) (fun _ c' => RemP c c') := by
    intro c1 o u e1 e2 e3 e4 o0 o1 u0 u1 ho hu
    unfold bo_Clock_remember_32
    rw [e3, e4, w32_in (by omega) (by omega), irm16 (by omega) (by omega)]
    refine TT_gd (by omega) ?_
    refine TT_call (stCopy_ok (by omega) (by rw [e1 83 (by omega)]; exact h3)) (fun r c2 q => ?_)
    obtain ⟨q1, q2, q3⟩ := q
    have e5 : c2 0 = c1 0 := q1 0 (by omega) (by omega) (by omega)
    rw [bn_eq, e5, e4, w32_in (by omega) (by omega)]
    have ep : mst c2 0 9 (u + 1) 0 8 = o := by rw [mst_miss (by omega), e5, e3]
    have eq : mst c2 0 9 (u + 1) 0 9 = u + 1 := mst_hit
    refine TT_some.mpr ⟨fun a a0 a1 => ?_, fun j j0 j1 => ?_, ?_, ?_, ?_, ?_⟩
    · rw [mst_ne a0, q1 a (by omega) (by omega) (by omega)]; exact e1 a a0
    · rw [mst_miss j1, e5]; exact e2 j j0 j1
    · rw [ep]; exact ho
    · rw [eq]; exact hu
    · rw [ep, eq]
      have e6 : o + (u + 1) - 1 = o + u := by omega
      rw [e6]
      obtain ⟨s0, s1, s2, s3, s4⟩ := q3
      rw [e1 83 (by omega)] at s0 s1 s2 s3
      refine ⟨?_, ?_, ?_, ?_, fun j hj => ⟨?_, ?_⟩⟩
      · rw [mst_ne (by omega)]; exact s0
      · rw [mst_ne (by omega)]; exact s1
      · rw [mst_ne (by omega)]; exact s2
      · rw [mst_ne (by omega)]; exact s3
      · rw [mst_ne (by omega), (s4 j hj).1, e1 84 (by omega)]
      · rw [mst_ne (by omega), (s4 j hj).2, e1 85 (by omega)]
    · rw [ep, eq]
      have e6 : o + (u + 1) - 1 = o + u := by omega
      rw [e6]
      intro a a0 a1 a2 a3 a4
      rw [mst_ne (by omega), q1 a a2 (by omega) (by omega)]; exact e1 a (by omega)
  unfold fn_Clock_remember
  by_cases g : c 0 9 = 16
  · rw [if_pos g, bn_eq, w32_in (by omega) (by omega), irm16 (by omega) (by omega), bn_eq]
    have e9 : mst c 0 8 ((c 0 8 + 1) % 16) 0 9 = 16 := by rw [mst_miss (by omega)]; exact g
    rw [e9, w32_in (by omega) (by omega)]
    refine key _ ((c 0 8 + 1) % 16) 15 (fun a ha => ?_) (fun j j0 j1 => ?_) ?_ ?_ (by omega) (by omega) (by omega) (by omega) (by rw [if_pos g]) (by rw [if_pos g]; rfl)
    · rw [mst_ne ha, mst_ne ha]
    · rw [mst_miss j1, mst_miss j0]
    · rw [mst_miss (by omega), mst_hit]
    · rw [mst_hit]; rfl
  · rw [if_neg g]
    exact key c (c 0 8) (c 0 9) (fun _ _ => rfl) (fun _ _ _ => rfl) rfl rfl h8.1 h8.2 h9.1 (by omega) (by rw [if_neg g]) (by rw [if_neg g])
theorem copies_ok {na nb : Nat} {a b : Nat} {p q : Int} {m : Mm} (hab : a ≠ b) (p0 : 0 ≤ p) (p1 : p + 16 ≤ na) (q0 : 0 ≤ q) (q1 : q + 16 ≤ nb) (hn : na < 100000) (hn2 : nb < 100000) : TT (fn_Model_copies na a p nb b q m) (fun _ m' => (∀ c, c ≠ b → m' c = m c) ∧ ∀ j : Nat, m' b j = if q ≤ (j : Int) ∧ (j : Int) < q + 16 then m a (p + (j - q)).toNat else m b j) := by
  unfold fn_Model_copies
  refine lp_inv1 (bo := bo_Model_copies_3 na a p nb b q) (fun _ => rfl) (fun i m' => 0 ≤ i ∧ i ≤ 16 ∧ (∀ c, c ≠ b → m' c = m c) ∧ ∀ j : Nat, m' b j = if q ≤ (j : Int) ∧ (j : Int) < q + i then m a (p + (j - q)).toNat else m b j) (fun i _ => (16 - i).toNat) ?_ FU 0 m ⟨by omega, by omega, fun _ _ => rfl, fun j => by rw [if_neg (by omega)]⟩ (by decide)
  intro k i m' hI hk
  obtain ⟨i0, i1, h1, h2⟩ := hI
  unfold bo_Model_copies_3
  refine TT_if (fun g => ?_) (fun g => ?_)
  · simp (disch := omega) only [w32_in, g_pos, bn_eq]
    refine hk _ _ ⟨by omega, by omega, fun c hc => by rw [mst_ne hc]; exact h1 c hc, fun j => ?_⟩ (by omega)
    by_cases g2 : j = (q + i).toNat
    · subst g2
      rw [mst_hit, if_pos (by omega), h1 a hab]
      congr 1
      omega
    · rw [mst_miss g2, h2 j]
      by_cases g3 : q ≤ (j : Int) ∧ (j : Int) < q + i
      · rw [if_pos g3, if_pos (by omega)]
      · rw [if_neg g3, if_neg (by omega)]
  · have e : i = 16 := by omega
    subst e
    exact TT_some.mpr ⟨h1, h2⟩
/-- the reference has kept its state -/
def KeeP (d d' : Mm) : Prop := (∀ a, a ≠ 203 → a ≠ 248 → d' a = d a) ∧ (∀ j, j ≠ 58 → d' 203 j = d 203 j) ∧ d' 203 58 = (if d 203 58 = 16 then 16 else d 203 58 + 1)
  ∧ (∀ i : Int, 0 ≤ i → i < d' 203 58 - 1 → ∀ j : Nat, j < 16 → d' 248 (16 * i + j).toNat = d 248 (16 * (if d 203 58 = 16 then i + 1 else i) + j).toNat) ∧ ∀ j : Nat, j < 16 → d' 248 (16 * (d' 203 58 - 1) + j).toNat = d 245 j
theorem keeps_ok {d : Mm} (h : 0 ≤ d 203 58 ∧ d 203 58 ≤ 16) : TT (fn_Model_keeps d) (fun _ d' => KeeP d d') := by
  have key : ∀ (d1 : Mm) (u : Int), (∀ a, a ≠ 203 → a ≠ 248 → d1 a = d a) → (∀ j, j ≠ 58 → d1 203 j = d 203 j) → d1 203 58 = u → 0 ≤ u → u < 16 → u + 1 = (if d 203 58 = 16 then 16 else d 203 58 + 1) → (∀ i : Int, 0 ≤ i → i < u → ∀ j : Nat, j < 16 → d1 248 (16 * i + j).toNat = d 248 (16 * (if d 203 58 = 16 then i + 1 else i) + j).toNat) → TT (bo_Model_keeps_49 d1) (fun _ d' => KeeP d d') := by
    intro d1 u e1 e2 e3 u0 u1 e4 e5
    unfold bo_Model_keeps_49
    rw [e3, w32_in (by omega) (by omega)]
    refine TT_call (copies_ok (by omega) (by omega) (by omega) (by omega) (by omega) (by omega) (by omega)) (fun r d2 q => ?_)
    obtain ⟨q1, q2⟩ := q
    have e6 : d2 203 = d1 203 := q1 203 (by omega)
    rw [bn_eq, e6, e3, w32_in (by omega) (by omega)]
    have e7 : mst d2 203 58 (u + 1) 203 58 = u + 1 := mst_hit
    refine TT_some.mpr ⟨fun a a0 a1 => ?_, fun j hj => ?_, ?_, fun i i0 i1 j hj => ?_, fun j hj => ?_⟩
    · rw [mst_ne a0, q1 a a1]; exact e1 a a0 a1
    · rw [mst_miss hj, e6]; exact e2 j hj
    · rw [e7]; exact e4
    · rw [e7] at i1
      rw [mst_ne (by omega), q2, if_neg (by omega)]
      exact e5 i i0 (by omega) j hj
    · rw [e7, mst_ne (by omega), q2, if_pos (by omega), e1 245 (by omega) (by omega)]
      congr 1
      omega
  unfold fn_Model_keeps
  by_cases g : d 203 58 = 16
  · rw [if_pos g]
    refine lp_inv1 (bo := bo_Model_keeps_11) (fun _ => rfl) (fun i m' => 0 ≤ i ∧ i ≤ 240 ∧ (∀ a, a ≠ 248 → m' a = d a) ∧ ∀ j : Nat, m' 248 j = if (j : Int) < i then d 248 (j + 16) else d 248 j) (fun i _ => (240 - i).toNat) ?_ FU 0 d ⟨by omega, by omega, fun _ _ => rfl, fun j => by rw [if_neg (by omega)]⟩ (by decide)
    intro k i m' hI hk
    obtain ⟨i0, i1, h1, h2⟩ := hI
    unfold bo_Model_keeps_11
    refine TT_if (fun g2 => ?_) (fun g2 => ?_)
    · simp (disch := omega) only [w32_in, g_pos, bn_eq]
      refine hk _ _ ⟨by omega, by omega, fun a ha => by rw [mst_ne ha]; exact h1 a ha, fun j => ?_⟩ (by omega)
      by_cases g3 : j = i.toNat
      · subst g3
        rw [mst_hit, if_pos (by omega), h2, if_neg (by omega)]
        congr 1
        omega
      · rw [mst_miss g3, h2 j]
        by_cases g4 : (j : Int) < i
        · rw [if_pos g4, if_pos (by omega)]
        · rw [if_neg g4, if_neg (by omega)]
    · have e : i = 240 := by omega
      subst e
      unfold bo_Model_keeps_39
      rw [bn_eq, h1 203 (by omega), g, w32_in (by omega) (by omega)]
      refine key _ 15 (fun a a0 a1 => by rw [mst_ne a0]; exact h1 a a1) (fun j hj => by rw [mst_miss hj, h1 203 (by omega)]) mst_hit (by omega) (by omega) (by rw [if_pos g]; rfl) (fun i i0 i1 j hj => ?_)
      rw [mst_ne (by omega), h2, if_pos (by omega), if_pos g]
      congr 1
      omega
  · rw [if_neg g]
    exact key d (d 203 58) (fun _ _ _ => rfl) (fun _ _ => rfl) rfl h.1 (by omega) (by rw [if_neg g]) (fun i i0 i1 j hj => by rw [if_neg g])
theorem keep_UnR {c c' d d' : Mm} (hd : HD d) (h : UnR c d) (hS : StR c 83 d (d 245)) (hc : RemP c c') (hm : KeeP d d') : UnR c' d' := by
  obtain ⟨h1, h2, h3, h4, h5, h6⟩ := h
  obtain ⟨c1, c2, c3, c4, c5, c6⟩ := hc
  obtain ⟨m1, m2, m3, m4, m5⟩ := hm
  have e205 : d' 205 = d 205 := m1 205 (by omega) (by omega)
  have hu : c' 0 9 = d' 203 58 := by rw [c4, m3, h1]
  have hu1 : 1 ≤ d' 203 58 ∧ d' 203 58 ≤ 16 := by rw [m3]; split <;> omega
  have ho : 0 ≤ c' 0 8 ∧ c' 0 8 < 16 := by rw [c3]; split <;> omega
  refine ⟨hu, by omega, hu1.2, ho.1, ho.2, fun i i0 i1 => ?_⟩
  by_cases g : i = d' 203 58 - 1
  · have er : ∀ j : Nat, j < 16 → rowS d' 248 i j = d 245 j := fun j hj => by unfold rowS; rw [g]; exact m5 j hj
    have ei : (c' 0 8 + i) % 16 = (c' 0 8 + c' 0 9 - 1) % 16 := by rw [g, hu]; congr 1; omega
    rw [ei]
    have hs2 := SameS_StR c5 hd hS
    obtain ⟨⟨s0, s1, s2, s3, s4, s5⟩, ⟨t1, t2, t3, t4, t5, t6⟩⟩ := hs2
    have hn := hd.1
    refine ⟨⟨?_, ?_, ?_, ?_, fun w w0 w1 => ?_, fun x x0 x1 => ?_⟩, ⟨?_, ?_, ?_, fun w w0 w1 => ?_, fun x x0 x1 => ?_, by rw [er 0 (by omega)]; exact t6⟩⟩
    · rw [er 0 (by omega)]; exact s0
    · rw [er 1 (by omega)]; exact s1
    · rw [er 2 (by omega)]; exact s2
    · rw [er 3 (by omega)]; exact s3
    · rw [er _ (by omega)]; exact s4 w w0 w1
    · rw [e205] at x1; rw [er _ (by omega)]; exact s5 x x0 x1
    · rw [er 2 (by omega)]; exact t1
    · rw [er 2 (by omega)]; exact t2
    · rw [er 3 (by omega)]; exact t3
    · rw [er _ (by omega)]; exact t4 w w0 w1
    · rw [e205] at x1 ⊢; rw [er _ (by omega)]; exact t5 x x0 x1
  · have hi := h6 (if d 203 58 = 16 then i + 1 else i) (by split <;> omega) (by rw [m3] at i1 g; split <;> split at i1 <;> split at g <;> omega)
    have er : ∀ j : Nat, j < 16 → rowS d' 248 i j = rowS d 248 (if d 203 58 = 16 then i + 1 else i) j := fun j hj => m4 i i0 (by omega) j hj
    have ei : (c 0 8 + (if d 203 58 = 16 then i + 1 else i)) % 16 = (c' 0 8 + i) % 16 := by
      rw [c3, h1]
      split <;> omega
    rw [ei] at hi
    have hne : (c' 0 8 + i) % 16 ≠ (c' 0 8 + c' 0 9 - 1) % 16 := by omega
    have hr : 0 ≤ (c' 0 8 + i) % 16 ∧ (c' 0 8 + i) % 16 < 16 := by omega
    have hr2 : 0 ≤ (c' 0 8 + c' 0 9 - 1) % 16 ∧ (c' 0 8 + c' 0 9 - 1) % 16 < 16 := by omega
    obtain ⟨⟨s0, s1, s2, s3, s4, s5⟩, ⟨t1, t2, t3, t4, t5, t6⟩⟩ := hi
    have hn := hd.1
    have f0 := c6 (3 * ((c' 0 8 + i) % 16).toNat + 155) (by omega) (by omega) (by omega) (by omega) (by omega)
    have f1 := c6 (3 * ((c' 0 8 + i) % 16).toNat + 155 + 1) (by omega) (by omega) (by omega) (by omega) (by omega)
    have f2 := c6 (3 * ((c' 0 8 + i) % 16).toNat + 155 + 2) (by omega) (by omega) (by omega) (by omega) (by omega)
    refine ⟨⟨?_, ?_, ?_, ?_, fun w w0 w1 => ?_, fun x x0 x1 => ?_⟩, ⟨?_, ?_, ?_, fun w w0 w1 => ?_, fun x x0 x1 => ?_, by rw [er 0 (by omega)]; exact t6⟩⟩
    · rw [er 0 (by omega), f0]; exact s0
    · rw [er 1 (by omega), f0]; exact s1
    · rw [er 2 (by omega), f0]; exact s2
    · rw [er 3 (by omega), f0]; exact s3
    · rw [er _ (by omega), f1]; exact s4 w w0 w1
    · rw [e205] at x1; rw [er _ (by omega), f2]; exact s5 x x0 x1
    · rw [er 2 (by omega)]; exact t1
    · rw [er 2 (by omega)]; exact t2
    · rw [er 3 (by omega)]; exact t3
    · rw [er _ (by omega)]; exact t4 w w0 w1
    · rw [e205] at x1 ⊢; rw [er _ (by omega)]; exact t5 x x0 x1
end Kp
