/-! sets. -/
section Se
variable {f : Int → Int → Int → Int} {m : Mm}
theorem m_bits {x : Int} {d : Mm} (h0 : 0 ≤ x) (h1 : x < 64) : fn_Model_bits x d = some (bcS x, d) := by
  unfold fn_Model_bits
  rw [lp_fld (lp := lp_Model_bits_4 x) (bo := bo_Model_bits_4 x) (fun _ => rfl) (N := 6) (f := fun v a => w32 (a + bt x v)) (o := fun a => some (a, d)) (fun k v a v0 v1 => ?_) (fun k a => ?_) 6 FU 0 0 (by omega) (by omega) (by decide)]
  · have p0 := bt_01 h0 h1 (k := 0) (by omega) (by omega)
    have p1 := bt_01 h0 h1 (k := 1) (by omega) (by omega)
    have p2 := bt_01 h0 h1 (k := 2) (by omega) (by omega)
    have p3 := bt_01 h0 h1 (k := 3) (by omega) (by omega)
    have p4 := bt_01 h0 h1 (k := 4) (by omega) (by omega)
    have p5 := bt_01 h0 h1 (k := 5) (by omega) (by omega)
    have e : fld (fun v a => w32 (a + bt x v)) 6 0 0 = w32 (w32 (w32 (w32 (w32 (w32 (0 + bt x 0) + bt x 1) + bt x 2) + bt x 3) + bt x 4) + bt x 5) := rfl
    rw [e]
    unfold bcS
    rw [w32_in (x := 0 + bt x 0) (by omega) (by omega), w32_in (x := 0 + bt x 0 + bt x 1) (by omega) (by omega), w32_in (x := 0 + bt x 0 + bt x 1 + bt x 2) (by omega) (by omega), w32_in (x := 0 + bt x 0 + bt x 1 + bt x 2 + bt x 3) (by omega) (by omega), w32_in (x := 0 + bt x 0 + bt x 1 + bt x 2 + bt x 3 + bt x 4) (by omega) (by omega), w32_in (x := 0 + bt x 0 + bt x 1 + bt x 2 + bt x 3 + bt x 4 + bt x 5) (by omega) (by omega), Int.zero_add]
  · unfold bo_Model_bits_4
    rw [if_pos v1, bn_eq, bt_fold, w32_in (x := v + 1) (by omega) (by omega)]
  · unfold bo_Model_bits_4
    rw [if_neg (by omega)]
/-- all of a set come later -/
def dlS (set mi : Int) (S : Nat → Int) : Nat → Int := fun j => if 4 ≤ j ∧ j < 10 ∧ bt set ((j : Int) - 4) = 1 then S j + mi else S j
theorem dl_w {set mi w : Int} {S : Nat → Int} (w0 : 0 ≤ w) (w1 : w < 6) : dlS set mi S (4 + w).toNat = if bt set w = 1 then S (4 + w).toNat + mi else S (4 + w).toNat := by
  unfold dlS
  have e : (((4 + w).toNat : Nat) : Int) - 4 = w := by omega
  rw [e]
  by_cases g : bt set w = 1
  · rw [if_pos g, if_pos ⟨by omega, by omega, g⟩]
  · rw [if_neg g, if_neg (fun z => g z.2.2)]
theorem dl_o {set mi : Int} {S : Nat → Int} {j : Nat} (h : j < 4 ∨ 10 ≤ j) : dlS set mi S j = S j := by
  unfold dlS
  rw [if_neg (by omega)]
theorem dl_SD {H : Mm} {S : Nat → Int} {set mi : Int} (h : SD H S) (h6 : ∀ w : Int, 0 ≤ w → w < 6 → S (4 + w).toNat ≤ 60) (m0 : 1 ≤ mi) (m1 : mi ≤ 60) : SD H (dlS set mi S) := by
  obtain ⟨t1, t2, t3, t4, t5, t6⟩ := h
  refine ⟨by rw [dl_o (by omega)]; exact t1, by rw [dl_o (by omega)]; exact t2, by rw [dl_o (by omega)]; exact t3, fun w w0 w1 => ?_, fun x x0 x1 => by rw [dl_o (by omega)]; exact t5 x x0 x1, by rw [dl_o (by omega)]; exact t6⟩
  have a := t4 w w0 w1
  have b := h6 w w0 w1
  rw [dl_w w0 w1]
  split <;> omega
theorem delay_ok {c H : Mm} {S : Nat → Int} {set mi : Int} (h : StR c 95 H S) (s0 : 0 ≤ set) (s1 : set < 64) (m0 : 1 ≤ mi) (m1 : mi ≤ 60) : TT (fn_State_delay 95 set mi c) (fun _ c' => (∀ a, a ≠ 96 → c' a = c a) ∧ SW c' 95 H (dlS set mi S)) := by
  obtain ⟨⟨a0, a1, a2, a3, a4, a5⟩, ht⟩ := h
  unfold fn_State_delay
  refine lp_inv1 (bo := bo_State_delay_2 95 set mi) (fun _ => rfl) (fun i c' => 0 ≤ i ∧ i ≤ 6 ∧ (∀ a, a ≠ 96 → c' a = c a) ∧ ∀ w : Int, 0 ≤ w → w < 6 → c' 96 w.toNat = if w < i then dlS set mi S (4 + w).toNat else S (4 + w).toNat) (fun i _ => (6 - i).toNat) ?_ FU 0 c ⟨by omega, by omega, fun _ _ => rfl, fun w w0 w1 => by rw [if_neg (by omega)]; exact (a4 w w0 w1).1⟩ (by decide)
  intro k i c' hI hk
  obtain ⟨i0, i1, h1, h2⟩ := hI
  unfold bo_State_delay_2 bo_State_delay_26
  refine TT_if (fun g => ?_) (fun g => ?_)
  · rw [bt_fold, w32_in (x := i + 1) (by omega) (by omega)]
    have hd := dl_w (set := set) (mi := mi) (S := S) i0 g
    have hb := bt_01 s0 s1 i0 g
    have hi := h2 i i0 g
    rw [if_neg (by omega)] at hi
    have b1 := ht.2.2.2.1 i i0 g
    refine TT_if (fun g2 => ?_) (fun g2 => ?_)
    · refine hk _ _ ⟨by omega, by omega, h1, fun w w0 w1 => ?_⟩ (by omega)
      by_cases g3 : w = i
      · subst g3
        rw [hi, if_pos (by omega), hd, if_neg (by omega)]
      · rw [h2 w w0 w1]
        by_cases g4 : w < i
        · rw [if_pos g4, if_pos (by omega)]
        · rw [if_neg g4, if_neg (by omega)]
    · have b2 := (a4 i i0 g).2
      refine TT_gd (by omega) ?_
      refine TT_gd (by omega) ?_
      rw [hi, w32_in (by omega) (by omega), bn_eq]
      refine hk _ _ ⟨by omega, by omega, fun a ha => by rw [mst_ne ha]; exact h1 a ha, fun w w0 w1 => ?_⟩ (by omega)
      by_cases g3 : w = i
      · subst g3
        rw [mst_hit, if_pos (by omega), hd, if_pos (by omega)]
      · rw [mst_miss (by omega), h2 w w0 w1]
        by_cases g4 : w < i
        · rw [if_pos g4, if_pos (by omega)]
        · rw [if_neg g4, if_neg (by omega)]
  · have e : i = 6 := by omega
    subst e
    refine TT_some.mpr ⟨h1, Or.inr rfl, ?_, ?_, ?_, ?_, fun w w0 w1 => ?_, fun x x0 x1 => ?_⟩
    · rw [h1 95 (by omega), dl_o (by omega)]; exact a0
    · rw [h1 95 (by omega), dl_o (by omega)]; exact a1
    · rw [h1 95 (by omega), dl_o (by omega)]; exact a2
    · rw [h1 95 (by omega), dl_o (by omega)]; exact a3
    · rw [h2 w w0 w1, if_pos w1]
    · rw [h1 _ (by omega), dl_o (by omega)]; exact a5 x x0 x1
/-- told as it is: both say the same -/
theorem told_rel {S : Nat → Int} {mC mM : Mm} {hc : Nat} (hn : TdR m 92 m 0) (hw : WB f m S hc 95 mC) (e92 : mC 92 = m 92) (hm : MO m S mM) (hs : mM 245 = S) : ∃ x : Int, fn_Standing_isAsTold 82 hc mC = some (x, mC) ∧ lp_Model_isAsTold_6 FU 0 mM = some (x, mM) := by
  have hH := hw.1
  have hnn := hH.1
  have m244 : mM 244 = m 244 := hm.1 244 (by omega) (by omega)
  have m205 : mM 205 = m 205 := hm.1 205 (by omega) (by omega)
  have h2 : mC hc 2 = m 205 2 := hw.2.2.2.1.2.2.2.1
  unfold fn_Standing_isAsTold
  refine rel1 (boC := bo_Standing_isAsTold_2 82 hc) (boM := bo_Model_isAsTold_6) (fun _ => rfl) (fun _ => rfl) (N := m 205 2) (fun kC kM i i0 i1 => ?_) (fun kC kM => ?_) (m 205 2).toNat FU FU 0 (by omega) (by omega) (by show (m 205 2).toNat < 2000; omega) (by show (m 205 2).toNat < 2000; omega)
  · obtain ⟨y1, y2, y3⟩ := hn i i0 i1
    have ei : (6 * 0 + i).toNat = i.toNat := by omega
    rw [ei] at y1
    have eC : bo_Standing_isAsTold_2 82 hc kC i mC = if m 244 i.toNat = -2 then kC (i + 1) mC else if whS m S i = m 244 i.toNat then kC (i + 1) mC else some (0, mC) := by
      unfold bo_Standing_isAsTold_2 bo_Standing_isAsTold_37
      rw [h2, if_pos i1, if_pos (by omega), e92, y1, w32_in (by omega) (by omega), if_pos (by omega : 0 ≤ i ∧ i < 6), minuteOf_eq hw i0 i1, bd_some]
      by_cases g0 : m 244 i.toNat = -2
      · rw [if_pos g0, if_pos g0]
      · rw [if_neg g0, if_neg g0]
        by_cases g : m 244 i.toNat = whS m S i
        · rw [if_pos g, if_pos g.symm]
        · rw [if_neg g, if_neg (fun z => g z.symm)]
    have eM : bo_Model_isAsTold_6 kM i mM = if m 244 i.toNat = -2 then kM (i + 1) mM else if whS m S i = m 244 i.toNat then kM (i + 1) mM else some (0, mM) := by
      unfold bo_Model_isAsTold_6 bo_Model_isAsTold_43
      rw [m205, tn2, if_pos i1, if_pos (by omega), m244, w32_in (by omega) (by omega), m_isWhen hH hw.2.1 hm hs i0 i1, bd_some, if_pos (by omega : 0 ≤ i ∧ i < 30), m244]
    rw [eC, eM]
    by_cases g1 : m 244 i.toNat = -2
    · rw [if_pos g1, if_pos g1]; exact Or.inr ⟨rfl, rfl⟩
    · rw [if_neg g1, if_neg g1]
      by_cases g2 : whS m S i = m 244 i.toNat
      · rw [if_pos g2, if_pos g2]; exact Or.inr ⟨rfl, rfl⟩
      · rw [if_neg g2, if_neg g2]; exact Or.inl ⟨0, rfl, rfl⟩
  · refine ⟨1, ?_, ?_⟩
    · unfold bo_Standing_isAsTold_2
      rw [h2, if_neg (by omega)]
    · unfold bo_Model_isAsTold_6
      rw [m205, tn2, if_neg (by omega)]
theorem m_delay {a b c1 c2 c3 c4 set mi p2 : Int} {k56 : Int → Int → Int → Int → Int → Mm → Res} {d0 : Mm} {S : Nat → Int} (hH : HD m) (e205 : d0 205 = m 205) (e245 : d0 245 = S) (hS : SD m S) (h6 : ∀ w : Int, 0 ≤ w → w < 6 → S (4 + w).toNat ≤ 60) (s0 : 0 ≤ set) (s1 : set < 64) (hz : ∀ w : Int, m 205 1 ≤ w → w < 6 → bt set w = 0) (m0 : 1 ≤ mi) (m1 : mi ≤ 60) : ∃ d1 : Mm, lp_Model_sets_68 mi p2 k56 FU c1 c2 c3 c4 set 0 d0 = bo_Model_sets_113 mi p2 k56 c1 c2 c3 c4 set d1 ∧ (∀ k, k ≠ 245 → d1 k = d0 k) ∧ d1 245 = dlS set mi S := by
  have hn := hH.1
  have key : ∀ (j n : Nat) (i : Int) (d : Mm), i + j = m 205 1 → 0 ≤ i → j < n → (∀ k, k ≠ 245 → d k = d0 k) → (∀ j : Nat, d 245 j = if 4 ≤ j ∧ (j : Int) < 4 + i then dlS set mi S j else S j) → ∃ d1 : Mm, lp_Model_sets_68 mi p2 k56 n c1 c2 c3 c4 set i d = bo_Model_sets_113 mi p2 k56 c1 c2 c3 c4 set d1 ∧ (∀ k, k ≠ 245 → d1 k = d0 k) ∧ d1 245 = dlS set mi S := by
    intro j
    induction j with
    | zero =>
      intro n i d h1 h2 h3 h4 h5
      obtain ⟨k, rfl⟩ : ∃ k, n = k + 1 := ⟨n - 1, by omega⟩
      refine ⟨d, ?_, h4, funext fun j => ?_⟩
      · show bo_Model_sets_68 _ _ _ _ _ _ _ _ _ _ _ = _
        unfold bo_Model_sets_68
        rw [h4 205 (by omega), e205, tn1, if_neg (by omega)]
      · rw [h5 j]
        by_cases g : 4 ≤ j ∧ (j : Int) < 4 + i
        · rw [if_pos g]
        · rw [if_neg g]
          by_cases g2 : j < 4 ∨ 10 ≤ j
          · rw [dl_o g2]
          · have := dl_w (set := set) (mi := mi) (S := S) (w := (j : Int) - 4) (by omega) (by omega)
            have e : (4 + ((j : Int) - 4)).toNat = j := by omega
            rw [e, hz _ (by omega) (by omega), if_neg (by omega)] at this
            rw [this]
    | succ j ih =>
      intro n i d h1 h2 h3 h4 h5
      obtain ⟨k, rfl⟩ : ∃ k, n = k + 1 := ⟨n - 1, by omega⟩
      have hd := dl_w (set := set) (mi := mi) (S := S) h2 (by omega : i < 6)
      have ei : d 245 (4 + i).toNat = S (4 + i).toNat := by rw [h5, if_neg (by omega)]
      have b1 := hS.2.2.2.1 i h2 (by omega)
      have b2 := h6 i h2 (by omega)
      have e : lp_Model_sets_68 mi p2 k56 (k + 1) c1 c2 c3 c4 set i d = lp_Model_sets_68 mi p2 k56 k c1 c2 c3 c4 set (i + 1) (mst d 245 (4 + i).toNat (dlS set mi S (4 + i).toNat)) := by
        show bo_Model_sets_68 _ _ _ _ _ _ _ _ _ _ _ = _
        unfold bo_Model_sets_68 bo_Model_sets_105
        rw [h4 205 (by omega), e205, tn1, if_pos (by omega), bn_eq, w32_in (x := 4 + i) (by omega) (by omega), if_pos (by omega), bt_fold, ei, hd, w32_in (x := i + 1) (by omega) (by omega)]
        by_cases g : bt set i = 1
        · rw [if_pos g, if_pos g, if_pos (by omega), w32_in (by omega) (by omega), bn_eq]
        · rw [if_neg g, if_neg g, if_pos (by omega), Int.add_zero, w32_in (by omega) (by omega), bn_eq]
      rw [e]
      refine ih k (i + 1) _ (by omega) (by omega) (by omega) (fun k hk => by rw [mst_ne hk]; exact h4 k hk) (fun q => ?_)
      by_cases g : q = (4 + i).toNat
      · subst g; rw [mst_hit, if_pos (by omega)]
      · rw [mst_miss g, h5 q]
        by_cases g2 : 4 ≤ q ∧ (q : Int) < 4 + i
        · rw [if_pos g2, if_pos (by omega)]
        · rw [if_neg g2, if_neg (by omega)]
  exact key (m 205 1).toNat FU 0 d0 (by omega) (by omega) (by show (m 205 1).toNat < 2000; omega) (fun _ _ => rfl) (fun j => by rw [e245, if_neg (by omega)])
theorem shl_all : ∀ n : Nat, n ≤ 6 → (1 ≤ ishl 1 (n : Int) ∧ ishl 1 (n : Int) ≤ 64 ∧ w32 (ishl 1 (n : Int) - 1) = ishl 1 (n : Int) - 1) ∧ ∀ x : Nat, x < 64 → (x : Int) < ishl 1 (n : Int) → ∀ k : Nat, k < 6 → n ≤ k → bt (x : Int) (k : Int) = 0 := by decide +kernel
theorem shl_r {n : Int} (h0 : 0 ≤ n) (h1 : n ≤ 6) : (1 ≤ ishl 1 n ∧ ishl 1 n ≤ 64 ∧ w32 (ishl 1 n - 1) = ishl 1 n - 1) ∧ ∀ x : Int, 0 ≤ x → x < ishl 1 n → ∀ k : Int, n ≤ k → k < 6 → bt x k = 0 := by
  obtain ⟨y, hy, rfl⟩ := nn h0 (n := 7) (by omega)
  obtain ⟨a, b⟩ := shl_all y (by omega)
  refine ⟨a, fun x x0 x1 k k0 k1 => ?_⟩
  obtain ⟨u, hu, rfl⟩ := nn x0 (n := 64) (by omega)
  obtain ⟨v, hv, rfl⟩ := nn (by omega : 0 ≤ k) (n := 6) k1
  exact b u hu x1 v hv (by omega)
theorem call_sets (hR : RR f m m) (mi p2 : Int) : Both (fn_Clock_sets mi p2) (fn_Model_sets mi p2) m := by
  refine q_rel hR (fun d hE hd => ?_)
  have hH := hR.2.2.1.1
  have hS := hR.2.2.2.1
  have hn := hH.1
  have hc0 := RR_hc hR
  have htd := hR.2.2.2.2.2.2.1
  have er : ∀ k, 204 ≤ k → mst d 203 0 0 k = m k := fun k hk => by rw [mst_ne (by omega)]; exact hE k (by omega)
  have hq := th_FQM (d := d) (x := 0) (j := 0) (by omega) (by omega)
  have h6 : ∀ w : Int, 0 ≤ w → w < 6 → m 245 (4 + w).toNat ≤ 60 := fun w w0 w1 => (hS.1.2.2.2.2.1 w w0 w1).2
  unfold fn_Clock_sets fn_Model_sets
  rw [bn_eq (mst d 203 0 0), m_within, bd_some]
  have no : ∃ x : Int, TT (some (-1, m)) (fun r c' => r = x ∧ FQ m c' ∧ EqM m c') ∧ TT (some (-1, mst d 203 0 0)) (fun r d' => r = x ∧ FQM d d' ∧ EqC d d') := ⟨-1, TT_some.mpr ⟨rfl, FQ_refl, fun _ _ => rfl⟩, TT_some.mpr ⟨rfl, hq⟩⟩
  by_cases c1 : mi < 1
  · simp only [if_pos c1, ↓reduceIte]
    exact no
  · by_cases c2 : 60 < mi
    · simp only [if_neg c1, if_pos c2, ↓reduceIte]
      exact no
    · simp only [if_neg c1, if_neg c2]
      rw [if_neg (by decide : ¬ (1 : Int) = 0), m_within, bd_some]
      by_cases c3 : p2 < 0
      · simp only [if_pos c3, ↓reduceIte]
        exact no
      · by_cases c4 : 3 < p2
        · simp only [if_neg c3, if_pos c4, ↓reduceIte]
          exact no
        · simp only [if_neg c3, if_neg c4]
          rw [if_neg (by decide : ¬ (1 : Int) = 0), if_pos hc0.1, hR.2.2.1.2.1.2.2.1, bn_eq]
          obtain ⟨⟨n1, n2, n3⟩, nz⟩ := shl_r hn.2.2.1 hn.2.2.2.1
          obtain ⟨r1, d1, e1, q1, q2⟩ := copies_ok (na := 16) (nb := 16) (a := 245) (b := 246) (p := 0) (q := 0) (m := mst d 203 0 0) (by omega) (by omega) (by omega) (by omega) (by omega) (by omega) (by omega)
          have e205 : d1 205 = m 205 := (q1 205 (by omega)).trans (er 205 (by omega))
          rw [e1, bd_some]
          have eall : fn_Model_allWalkers d1 = some (ishl 1 (m 205 1) - 1, d1) := by
            unfold fn_Model_allWalkers
            rw [e205, tn1, n3]
          rw [eall, bd_some, n3]
          -- what the reference's memory keeps
          have G0 : FQM d d1 ∧ EqC d d1 := ⟨⟨fun k k0 k1 k2 k3 => by rw [q1 k k2, mst_ne (by omega)], by rw [q1 203 (by omega), mst_miss (by omega)], by rw [q1 203 (by omega), mst_miss (by omega)]⟩, fun k hk => by rw [q1 k (by omega), mst_ne (by omega)]⟩
          have A0 : ∀ j : Nat, j < 16 → d1 246 j = m 245 j := fun j hj => by
            rw [q2 j, if_pos (by omega), er 245 (by omega)]
            congr 1
            omega
          have key : ∀ (j n n' : Nat) (x1 x2 x3 x4 set : Int) (kC kM : Mm), set + j = ishl 1 (m 205 1) → 0 ≤ set → j < n → j < n' → -1 ≤ x4 → x4 < 64 → FQ m kC → EqM m kC → FQM d kM → EqC d kM → (∀ j : Nat, j < 16 → kM 246 j = m 245 j) → ∃ y : Int, TT (lp_Clock_sets_46 mi p2 n x1 x2 x3 x4 set kC) (fun r c' => r = y ∧ FQ m c' ∧ EqM m c') ∧ TT (lp_Model_sets_56 mi p2 n' x1 x2 x3 x4 set kM) (fun r d' => r = y ∧ FQM d d' ∧ EqC d d') := by
            intro j
            induction j with
            | zero =>
              intro n n' x1 x2 x3 x4 set kC kM h1 h2 h3 h4 h5 h5' hF hFE hG hGE hA
              obtain ⟨k, rfl⟩ : ∃ k, n = k + 1 := ⟨n - 1, by omega⟩
              obtain ⟨k', rfl⟩ : ∃ k, n' = k + 1 := ⟨n' - 1, by omega⟩
              obtain ⟨l1, l2⟩ := Hl_FQ hR hF
              have g205 : kM 205 = m 205 := (hG.1 205 (by omega) (by omega) (by omega) (by omega)).trans (hE 205 (by omega))
              have eC : lp_Clock_sets_46 mi p2 (k + 1) x1 x2 x3 x4 set kC = bo_Clock_sets_163 mi p2 x1 x2 x3 x4 kC := by
                show bo_Clock_sets_46 _ _ _ _ _ _ _ _ _ = _
                unfold bo_Clock_sets_46
                rw [l2, if_pos hc0.1, l1.2.1.2.2.1, if_neg (by omega)]
              have eM : lp_Model_sets_56 mi p2 (k' + 1) x1 x2 x3 x4 set kM = bo_Model_sets_185 mi p2 x1 x2 x3 x4 kM := by
                show bo_Model_sets_56 _ _ _ _ _ _ _ _ _ = _
                unfold bo_Model_sets_56 fn_Model_allWalkers
                rw [g205, tn1, n3, bd_some, if_pos (by omega)]
              rw [eC, eM]
              have both : ∀ y : Int, ∃ z : Int, TT (some (y, kC)) (fun r c' => r = z ∧ FQ m c' ∧ EqM m c') ∧ TT (some (y, kM)) (fun r d' => r = z ∧ FQM d d' ∧ EqC d d') := fun y => ⟨y, TT_some.mpr ⟨rfl, hF, hFE⟩, TT_some.mpr ⟨rfl, hG, hGE⟩⟩
              unfold bo_Clock_sets_163 bo_Model_sets_185 bo_Clock_sets_171 bo_Model_sets_193
              have hc : p2 = 0 ∨ p2 = 1 ∨ p2 = 2 ∨ p2 = 3 := by omega
              by_cases g : x1 = 0
              · rcases hc with rfl | rfl | rfl | rfl <;> simp only [g, ↓reduceIte] <;> exact both _
              · rcases hc with rfl | rfl | rfl | rfl <;> simp only [if_neg g] <;> exact both _
            | succ j ih =>
              intro n n' x1 x2 x3 x4 set kC kM h1 h2 h3 h4 h5 h5' hF hFE hG hGE hA
              obtain ⟨k, rfl⟩ : ∃ k, n = k + 1 := ⟨n - 1, by omega⟩
              obtain ⟨k', rfl⟩ : ∃ k, n' = k + 1 := ⟨n' - 1, by omega⟩
              obtain ⟨l1, l2⟩ := Hl_FQ hR hF
              have g205 : kM 205 = m 205 := (hG.1 205 (by omega) (by omega) (by omega) (by omega)).trans (hE 205 (by omega))
              have g245 : kM 245 = m 245 := (hG.1 245 (by omega) (by omega) (by omega) (by omega)).trans (hE 245 (by omega))
              have gF : FM2 m kM := fun a a0 a1 => (hG.1 a (by omega) (by omega) (by omega) (by omega)).trans (hE a (by omega))
              have hset : set < 64 := by omega
              -- the class
              obtain ⟨ra, ka, ea, fa, fEa, sa, -⟩ := trial_copy hR hF hFE
              obtain ⟨rb, kb, eb, b1, b2⟩ := delay_ok (mi := mi) sa h2 hset (by omega) (by omega)
              have fb : FQ m kb := FQ_trans fa ⟨fun a a0 a1 a2 _ _ _ _ => b1 a (by omega), fun j _ => by rw [b1 0 (by omega)], fun j _ => by rw [b1 14 (by omega)], fun j _ => by rw [b1 51 (by omega)]⟩
              have fEb : EqM m kb := EqM_trans fEa (fun a ha => b1 a (by omega))
              obtain ⟨l3, l4⟩ := Hl_FQ hR fb
              have hSD := dl_SD (set := set) (mi := mi) hS.2 h6 (by omega) (by omega)
              obtain ⟨rc, kc, ec, g1, g2⟩ := c_go_w l3 b2 hSD
              have wc := FW_FQ g2
              have fc : FQ m kc := FQ_trans fb wc.1
              have fEc : EqM m kc := EqM_trans fEb wc.2
              -- the reference
              obtain ⟨d2, u1, u2, u3⟩ := m_delay (p2 := p2) (k56 := lp_Model_sets_56 mi p2 k') (c1 := x1) (c2 := x2) (c3 := x3) (c4 := x4) (a := 0) (b := 0) hH g205 g245 hS.2 h6 h2 hset (fun w w0 w1 => nz set h2 (by omega) w w0 w1) (by omega : 1 ≤ mi) (by omega)
              have fm2 : FM2 m d2 := fun a a0 a1 => (u2 a (by omega)).trans (gF a a0 a1)
              obtain ⟨rd, d3, v1, v2, v3⟩ := laysDay_S fm2 u3 hH hSD
              have mo3 : MO m (dlS set mi (m 245)) d3 := ⟨fun a a0 a1 => (v2 a (by omega)).trans (fm2 a a0 a1), v3⟩
              obtain ⟨x, y1, y2⟩ := told_rel htd g1 (fc.1 92 (by omega) (by omega) (by omega) (by omega) (by omega) (by omega) (by omega)) mo3 (by rw [v2 245 (by omega)]; exact u3)
              obtain ⟨re, d4, w1, w2, w3⟩ := copies_ok (na := 16) (nb := 16) (a := 246) (b := 245) (p := 0) (q := 0) (m := d3) (by omega) (by omega) (by omega) (by omega) (by omega) (by omega) (by omega)
              have e4 : ∀ a, a ≠ 245 → (a < 251 ∨ 254 < a) → d4 a = kM a := fun a a0 a1 => by rw [w2 a a0, v2 a a1, u2 a a0]
              have e45 : d4 245 = m 245 := by
                funext q
                rw [w3 q, v2 246 (by omega), u2 246 (by omega), v2 245 (by omega), u3]
                by_cases gq : (0 : Int) ≤ (q : Int) ∧ (q : Int) < 0 + 16
                · rw [if_pos gq]
                  have eq : (0 + ((q : Int) - 0)).toNat = q := by omega
                  rw [eq, hA q (by omega)]
                · rw [if_neg gq, dl_o (by omega)]
              have hG4 : FQM d d4 := by
                refine ⟨fun a a0 a1 a2 a3 => ?_, ?_, ?_⟩
                · by_cases ga : a = 245
                  · subst ga; rw [e45, hE 245 (by omega)]
                  · rw [e4 a ga (by omega)]; exact hG.1 a a0 a1 a2 a3
                · rw [e4 203 (by omega) (by omega)]; exact hG.2.1
                · rw [e4 203 (by omega) (by omega)]; exact hG.2.2
              have hGE4 : EqC d d4 := fun a ha => by rw [e4 a (by omega) (by omega)]; exact hGE a ha
              have hA4 : ∀ q : Nat, q < 16 → d4 246 q = m 245 q := fun q hq => by rw [e4 246 (by omega) (by omega)]; exact hA q hq
              have nxt : ∀ y1 y2 y3 y4 : Int, -1 ≤ y4 → y4 < 64 → ∃ y : Int, TT (lp_Clock_sets_46 mi p2 k y1 y2 y3 y4 (set + 1) kc) (fun r c' => r = y ∧ FQ m c' ∧ EqM m c') ∧ TT (lp_Model_sets_56 mi p2 k' y1 y2 y3 y4 (set + 1) d4) (fun r d' => r = y ∧ FQM d d' ∧ EqC d d') := fun y1 y2 y3 y4 z1 z2 => ih k k' y1 y2 y3 y4 (set + 1) kc d4 (by omega) (by omega) (by omega) (by omega) z1 z2 fc fEc hG4 hGE4 hA4
              have eC : lp_Clock_sets_46 mi p2 (k + 1) x1 x2 x3 x4 set kC = if x = 0 then lp_Clock_sets_46 mi p2 k x1 x2 x3 x4 (set + 1) kc else if x4 = -1 then lp_Clock_sets_46 mi p2 k (w32 (x1 + 1)) (iand x2 set) (ior x3 set) set (set + 1) kc else if bcS set < bcS x4 then lp_Clock_sets_46 mi p2 k (w32 (x1 + 1)) (iand x2 set) (ior x3 set) set (set + 1) kc else lp_Clock_sets_46 mi p2 k (w32 (x1 + 1)) (iand x2 set) (ior x3 set) x4 (set + 1) kc := by
                show bo_Clock_sets_46 _ _ _ _ _ _ _ _ _ = _
                unfold bo_Clock_sets_46 bo_Clock_sets_153 bo_Clock_sets_157
                rw [l2, if_pos hc0.1, l1.2.1.2.2.1, if_pos (by omega), ea, bd_some, eb, bd_some, l4, if_pos hc0.1, ec, bd_some, fc.2.1 2 (by omega), if_pos hc0.1, y1, bd_some, w32_in (x := set + 1) (by omega) (by omega), bn_eq, bn_eq, bitCount_eq h2 hset, bd_some]
                by_cases z : x4 = -1
                · rw [if_pos z, if_pos z]
                · rw [if_neg z, if_neg z, bitCount_eq (by omega) h5', bd_some]
              have eM : lp_Model_sets_56 mi p2 (k' + 1) x1 x2 x3 x4 set kM = if x = 0 then lp_Model_sets_56 mi p2 k' x1 x2 x3 x4 (set + 1) d4 else if x4 < 0 then lp_Model_sets_56 mi p2 k' (w32 (x1 + 1)) (iand x2 set) (ior x3 set) set (set + 1) d4 else if bcS set < bcS x4 then lp_Model_sets_56 mi p2 k' (w32 (x1 + 1)) (iand x2 set) (ior x3 set) set (set + 1) d4 else lp_Model_sets_56 mi p2 k' (w32 (x1 + 1)) (iand x2 set) (ior x3 set) x4 (set + 1) d4 := by
                show bo_Model_sets_56 _ _ _ _ _ _ _ _ _ = _
                unfold bo_Model_sets_56 fn_Model_allWalkers
                rw [g205, tn1, n3, bd_some, if_neg (by omega), u1]
                unfold bo_Model_sets_113 fn_Model_isAsTold bo_Model_sets_175 bo_Model_sets_179
                rw [v1, bd_some, y2, bd_some, w1, bd_some, w32_in (x := set + 1) (by omega) (by omega), bn_eq, bn_eq, m_bits h2 hset, bd_some]
                by_cases z : x4 < 0
                · rw [if_pos z, if_pos z]
                · rw [if_neg z, if_neg z, m_bits (by omega) h5', bd_some]
              rw [eC, eM]
              by_cases z1 : x = 0
              · rw [if_pos z1, if_pos z1]
                exact nxt _ _ _ _ h5 h5'
              · rw [if_neg z1, if_neg z1]
                by_cases z2 : x4 = -1
                · rw [if_pos z2, if_pos (by omega : x4 < 0)]
                  exact nxt _ _ _ _ (by omega) hset
                · rw [if_neg z2, if_neg (by omega : ¬ x4 < 0)]
                  by_cases z3 : bcS set < bcS x4
                  · rw [if_pos z3, if_pos z3]
                    exact nxt _ _ _ _ (by omega) hset
                  · rw [if_neg z3, if_neg z3]
                    exact nxt _ _ _ _ h5 h5'
          exact key (ishl 1 (m 205 1)).toNat FU FU 0 (ishl 1 (m 205 1) - 1) 0 (-1) 0 m d1 (by omega) (by omega) (by show (ishl 1 (m 205 1)).toNat < 2000; omega) (by show (ishl 1 (m 205 1)).toNat < 2000; omega) (by omega) (by omega) FQ_refl (fun _ _ => rfl) G0.1 G0.2 A0
end Se
