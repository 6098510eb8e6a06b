/-! deputies. -/
section De
variable {f : Int → Int → Int → Int} {m : Mm}
/-- nothing but the search's own has changed -/
def BC (c0 c : Mm) : Prop := (∀ a, a ≠ 0 → a ≠ 109 → a ≠ 110 → c a = c0 a) ∧ ∀ j, j ≠ 17 → c 0 j = c0 0 j
def BM (d0 d : Mm) : Prop := (∀ a, a ≠ 203 → a ≠ 256 → a ≠ 257 → d a = d0 a) ∧ ∀ j, j ≠ 68 → d 203 j = d0 203 j
theorem BC_trans {a b c : Mm} (h : BC a b) (h' : BC b c) : BC a c := ⟨fun x p q r => (h'.1 x p q r).trans (h.1 x p q r), fun j p => (h'.2 j p).trans (h.2 j p)⟩
theorem BM_trans {a b c : Mm} (h : BM a b) (h' : BM b c) : BM a c := ⟨fun x p q r => (h'.1 x p q r).trans (h.1 x p q r), fun j p => (h'.2 j p).trans (h.2 j p)⟩
theorem BC_109 {c : Mm} {j : Nat} {v : Int} : BC c (mst c 109 j v) := ⟨fun a a0 a1 _ => mst_ne a1, fun j _ => by rw [mst_ne (by omega)]⟩
theorem BM_256 {c : Mm} {j : Nat} {v : Int} : BM c (mst c 256 j v) := ⟨fun a a0 a1 _ => mst_ne a1, fun j _ => by rw [mst_ne (by omega)]⟩
theorem WB_BC {S : Nat → Int} {hc : Nat} {c0 c : Mm} (h : WB f m S hc 83 c0) (e : BC c0 c) : WB f m S hc 83 c := by
  obtain ⟨h1, h2, h3, h4, h5, h6, h7⟩ := h
  have hn := h1.1
  have hc0 := h4.1
  exact ⟨h1, h2, VO_congr h3 (fun a _ _ => e.1 a (by omega) (by omega) (by omega)), HW_congr (by omega) h4 (fun a _ _ _ => e.1 a (by omega) (by omega) (by omega)), SW_congr h5 (e.1 _ (by omega) (by omega) (by omega)) (e.1 _ (by omega) (by omega) (by omega)) (e.1 _ (by omega) (by omega) (by omega)), HX_congr h6 (fun a _ _ => e.1 a (by omega) (by omega) (by omega)), LawC_congr h7 (by rw [e.1 _ (by omega) (by omega) (by omega)]) (e.1 _ (by omega) (by omega) (by omega))⟩
/-- what the search stands on -/
def DB (f : Int → Int → Int → Int) (m c0 : Mm) : Prop := WB f m (m 245) (m 0 2).toNat 83 c0 ∧ StW c0 83 m (m 245) ∧ c0 0 2 = m 0 2 ∧ isK 0 (m 0 2) = true
theorem DB_BC {c0 c : Mm} (h : DB f m c0) (e : BC c0 c) : DB f m c := ⟨WB_BC h.1 e, StW_congr h.2.1 (e.1 _ (by omega) (by omega) (by omega)) (e.1 _ (by omega) (by omega) (by omega)) (e.1 _ (by omega) (by omega) (by omega)) rfl, (e.2 2 (by omega)).trans h.2.2.1, h.2.2.2⟩
theorem DB_rows {c : Mm} (h : DB f m c) : c (m 0 2).toNat 1 = m 205 1 ∧ c (m 0 2).toNat 2 = m 205 2 := ⟨h.1.2.2.2.1.2.2.1, h.1.2.2.2.1.2.2.2.1⟩
theorem ofS_r {H : Mm} (hH : HD H) {h x : Int} (h0 : 0 ≤ h) (h1 : h < H 205 2) (x0 : -1 ≤ x) (x1 : x < 240) : 0 ≤ ofS H h x ∧ ofS H h x ≤ 240 := by
  have hh := hH.2.2.2.2 h h0 h1
  unfold ofS
  split
  · omega
  · split <;> omega
theorem faS_r {H : Mm} {S : Nat → Int} (w p : Int) : -1 ≤ faS H S w p ∧ faS H S w p < 240 := by
  have := fst_rng (P := fun t => decide (atS H S t w = p)) (j := 240) (v := 0) (by omega)
  unfold faS
  omega
/-- one who can be, for both; and what he is off -/
theorem cand (hH : HD m) {c d : Mm} (hc : DB f m c) (hd : MO m (m 245) d) (hd2 : d 245 = m 245) {h w : Int} (h0 : 0 ≤ h) (h1 : h < m 205 2) (w0 : 0 ≤ w) (w1 : w < m 205 1) (dead : bt (m 245 2) (m 245 (10 + h).toNat) = 0) : ∃ x : Int, fn_State_canDepute 83 (m 0 2).toNat h w c = some (x, c) ∧ fn_Model_canStand h w d = some (x, d) := by
  obtain ⟨x, x0, x1, x2⟩ := canDep_rel hH hc.1.2.1 hc.1.2.2.2.1 hc.1.2.2.2.2.2.1 hc.2.1 hd.1 hd2 h0 h1 w0 w1
  refine ⟨x, ?_, x2⟩
  rw [x1]
  split
  · next g =>
    rw [g] at dead
    unfold fn_Model_canStand at x2
    rw [m_isAlive, hd2, dead, iz0, bd_some, if_pos rfl] at x2
    cases x2
    rfl
  · rfl
theorem dep_none (hH : HD m) {c0 : Mm} (hb : DB f m c0) (d0 : Mm) (hd : MO m (m 245) d0) (hd2 : d0 245 = m 245) : ∀ (n : Nat) (h used off : Int) (c : Mm), m 205 2 - h < n → 0 ≤ h → h ≤ m 205 2 → 0 ≤ used → used < 64 → 0 ≤ off → off ≤ 240 * h → BC c0 c → 0 ≤ c 0 17 → c 0 17 ≤ off → TT (rc_Clock_chooseDeputies n h used off c) (fun _ c' => BC c0 c' ∧ c' 0 17 = c 0 17 ∧ c' 110 = c 110 ∧ ∀ q : Int, 0 ≤ q → q < h → c' 109 q.toNat = c 109 q.toNat) := by
  have hn := hH.1
  intro n
  induction n with
  | zero => intro h used off c h1; omega
  | succ n ih =>
    intro h used off c h1 h0 h2 u0 u1 o0 o1 hbc b0 b1
    have hc := DB_BC hb hbc
    obtain ⟨e1, e2⟩ := DB_rows hc
    show TT (bm_Clock_chooseDeputies (rc_Clock_chooseDeputies n) h used off c) _
    unfold bm_Clock_chooseDeputies
    rw [hc.2.2.1, if_pos hc.2.2.2, e2]
    refine TT_if (fun g => ?_) (fun g => ?_)
    · refine TT_gd (by omega) ?_
      have e85 : c 85 h.toNat = m 245 (10 + h).toNat := hc.2.1.2.2.2.2.2 h h0 g
      have hby := hc.1.2.1.2.2.2.2.1 h h0 g
      have e83 : c 83 2 = m 245 2 := hc.2.1.2.2.1
      rw [lives_eq, bd_some, e85, e83]
      rcases bt_01 hc.1.2.1.1 hc.1.2.1.2.1 hby.1 (by omega : m 245 (10 + h).toNat < 6) with b | b
      · rw [b, iz3, if_pos rfl]
        refine lp_inv1 (bo := bo_Clock_chooseDeputies_93 (rc_Clock_chooseDeputies n) h used off) (fun _ => rfl) (fun w c' => 0 ≤ w ∧ w ≤ m 205 1 ∧ BC c0 c' ∧ c' 0 17 = c 0 17 ∧ c' 110 = c 110 ∧ ∀ q : Int, 0 ≤ q → q < h → c' 109 q.toNat = c 109 q.toNat) (fun w _ => (6 - w).toNat) ?_ FU 0 c ⟨by omega, by omega, hbc, rfl, rfl, fun _ _ _ => rfl⟩ (by decide)
        intro k w c' hI hk
        obtain ⟨w0, w1, a1, a2, a3, a4⟩ := hI
        have hc' := DB_BC hb a1
        obtain ⟨e1', e2'⟩ := DB_rows hc'
        unfold bo_Clock_chooseDeputies_93
        rw [hc'.2.2.1, if_pos hc'.2.2.2, e1']
        refine TT_if (fun g2 => ?_) (fun g2 => TT_some.mpr ⟨a1, a2, a3, a4⟩)
        have next : ∀ c2 : Mm, BC c0 c2 → c2 0 17 = c 0 17 → c2 110 = c 110 → (∀ q : Int, 0 ≤ q → q < h → c2 109 q.toNat = c 109 q.toNat) → TT (bo_Clock_chooseDeputies_179 (rc_Clock_chooseDeputies n) h used off k w c2) (fun _ c' => BC c0 c' ∧ c' 0 17 = c 0 17 ∧ c' 110 = c 110 ∧ ∀ q : Int, 0 ≤ q → q < h → c' 109 q.toNat = c 109 q.toNat) := by
          intro c2 y1 y2 y3 y4
          unfold bo_Clock_chooseDeputies_179
          rw [w32_in (by omega) (by omega)]
          exact hk _ _ ⟨by omega, by omega, y1, y2, y3, y4⟩ (by omega)
        rw [bt_fold]
        refine TT_if (fun g3 => ?_) (fun g3 => ?_)
        · unfold bo_Clock_chooseDeputies_119
          rw [if_neg (by decide), hc'.2.2.1, if_pos hc'.2.2.2]
          obtain ⟨x, x1, -⟩ := cand hH hc' hd hd2 h0 g w0 g2 b
          rw [x1, bd_some]
          refine TT_if (fun _ => next c' a1 a2 a3 a4) (fun g4 => ?_)
          refine TT_gd (by omega) ?_
          have b2 : BC c0 (mst c' 109 h.toNat w) := BC_trans a1 BC_109
          have hc2 := DB_BC hb b2
          have hf := faS_r (H := m) (S := m 245) w (m 219 h.toNat)
          have ho := ofS_r hH h0 g hf.1 hf.2
          have hu := bt_set_r u0 u1 w0 (by omega : w < 6)
          rw [bn_eq, offBy_eq hc2.1 h0 g w0 g2, bd_some]
          generalize ofS m h (faS m (m 245) w (m 219 h.toNat)) = o at *
          generalize ior used (ishl 1 w) = u2 at *
          rw [w32_in (by omega) (by omega), w32_in (by omega) (by omega)]
          refine TT_call (ih (h + 1) u2 (off + o) _ (by omega) (by omega) (by omega) hu.1 hu.2 (by omega) (by omega) b2 (by rw [mst_ne (by omega), a2]; exact b0) (by rw [mst_ne (by omega), a2]; omega)) (fun r c3 q => ?_)
          obtain ⟨q1, q2, q3, q4⟩ := q
          refine next c3 q1 (by rw [q2, mst_ne (by omega)]; exact a2) (by rw [q3, mst_ne (by omega)]; exact a3) (fun y y0 y1 => ?_)
          rw [q4 y y0 (by omega), mst_miss (by omega)]
          exact a4 y y0 y1
        · unfold bo_Clock_chooseDeputies_119
          rw [if_pos rfl]
          exact next c' a1 a2 a3 a4
      · rw [b, iz1, if_neg (by decide)]
        refine TT_gd (by omega) ?_
        rw [bn_eq, w32_in (by omega) (by omega)]
        refine TT_call (ih (h + 1) used off _ (by omega) (by omega) (by omega) u0 u1 o0 (by omega) (BC_trans hbc BC_109) (by rw [mst_ne (by omega)]; exact b0) (by rw [mst_ne (by omega)]; exact b1)) (fun r c3 q => TT_some.mpr ?_)
        obtain ⟨q1, q2, q3, q4⟩ := q
        refine ⟨q1, by rw [q2, mst_ne (by omega)], by rw [q3, mst_ne (by omega)], fun y y0 y1 => ?_⟩
        rw [q4 y y0 (by omega), mst_miss (by omega)]
    · rw [if_neg (by omega), if_neg (by omega)]
      exact TT_some.mpr ⟨hbc, rfl, rfl, fun _ _ _ => rfl⟩
/-- both searches stand alike -/
def DR (m c0 d0 c d : Mm) (h : Int) : Prop := BC c0 c ∧ BM d0 d ∧ c 0 17 = d 203 68 ∧ -1 ≤ c 0 17 ∧ (0 ≤ c 0 17 → ∀ q : Int, 0 ≤ q → q < m 205 2 → c 110 q.toNat = d 257 q.toNat) ∧ ∀ q : Int, 0 ≤ q → q < h → c 109 q.toNat = d 256 q.toNat
theorem MO_BM {d0 d : Mm} (h : MO m (m 245) d0) (e : BM d0 d) : MO m (m 245) d := MO_congr h (fun a a0 a1 a2 _ => e.1 a (by omega) (by omega) (by omega))
theorem dep_rel (hH : HD m) {c0 d0 : Mm} (hb : DB f m c0) (hd : MO m (m 245) d0) (hd2 : d0 245 = m 245) : ∀ (n n' : Nat) (h used off : Int) (c d : Mm), m 205 2 - h < n → m 205 2 - h < n' → 0 ≤ h → h ≤ m 205 2 → 0 ≤ used → used < 64 → 0 ≤ off → off ≤ 240 * h → DR m c0 d0 c d h → ∃ (r r' : Int) (c' d' : Mm), rc_Clock_chooseDeputies n h used off c = some (r, c') ∧ rc_Model_stands n' h used off d = some (r', d') ∧ DR m c0 d0 c' d' h := by
  have hn := hH.1
  intro n
  induction n with
  | zero => intro n' h used off c d h1; omega
  | succ n ih =>
    intro n' h used off c d h1 h1' h0 h2 u0 u1 o0 o1 hD
    obtain ⟨k', rfl⟩ : ∃ k, n' = k + 1 := ⟨n' - 1, by omega⟩
    have hD0 := hD
    obtain ⟨a1, a2, a3, a4, a5, a6⟩ := hD
    have hc := DB_BC hb a1
    obtain ⟨e1, e2⟩ := DB_rows hc
    have hm := MO_BM hd a2
    have m245 : d 245 = m 245 := (a2.1 245 (by omega) (by omega) (by omega)).trans hd2
    have m205 : d 205 = m 205 := hm.1 205 (by omega) (by omega)
    by_cases pr : 0 ≤ d 203 68 ∧ d 203 68 ≤ off
    · -- the reference looks no further
      obtain ⟨r, c', q0, q1, q2, q3, q4⟩ := dep_none hH hb d0 hd hd2 (n + 1) h used off c h1 h0 h2 u0 u1 o0 o1 a1 (by omega) (by omega)
      refine ⟨r, 0, c', d, q0, ?_, q1, a2, by rw [q2]; exact a3, by rw [q2]; exact a4, fun z q y0 y1 => ?_, fun q y0 y1 => ?_⟩
      · show bm_Model_stands _ _ _ _ _ = _
        unfold bm_Model_stands
        rw [if_neg (by omega), if_neg (by omega)]
      · rw [q3]; exact a5 (by omega) q y0 y1
      · rw [q4 q y0 y1]; exact a6 q y0 y1
    · have eM : rc_Model_stands (k' + 1) h used off d = bo_Model_stands_16 (rc_Model_stands k') h used off d := by
        show bm_Model_stands _ _ _ _ _ = _
        unfold bm_Model_stands
        by_cases g : d 203 68 < 0
        · rw [if_pos g]
        · rw [if_neg g, if_pos (by omega)]
      by_cases g : h < m 205 2
      · have e85 : c 85 h.toNat = m 245 (10 + h).toNat := hc.2.1.2.2.2.2.2 h h0 g
        have hby := hc.1.2.1.2.2.2.2.1 h h0 g
        have e83 : c 83 2 = m 245 2 := hc.2.1.2.2.1
        rcases bt_01 hc.1.2.1.1 hc.1.2.1.2.1 hby.1 (by omega : m 245 (10 + h).toNat < 6) with b | b
        · have eC : rc_Clock_chooseDeputies (n + 1) h used off c = lp_Clock_chooseDeputies_93 (rc_Clock_chooseDeputies n) h used off FU 0 c := by
            show bm_Clock_chooseDeputies _ _ _ _ _ = _
            unfold bm_Clock_chooseDeputies
            rw [hc.2.2.1, if_pos hc.2.2.2, e2, if_pos g, if_pos (by omega), lives_eq, bd_some, e85, e83, b, iz3, if_pos rfl]
          have eM2 : bo_Model_stands_16 (rc_Model_stands k') h used off d = lp_Model_stands_97 (rc_Model_stands k') h used off FU 0 d := by
            unfold bo_Model_stands_16
            rw [m205, tn2, if_neg (by omega), w32_in (by omega) (by omega), if_pos (by omega), m245, m_isAlive, bd_some, m245, b, iz0, if_pos rfl]
          rw [eC, eM, eM2]
          have key : ∀ (j x x' : Nat) (w : Int) (c d : Mm), w + j = m 205 1 → 0 ≤ w → j < x → j < x' → DR m c0 d0 c d h → ∃ (r r' : Int) (c' d' : Mm), lp_Clock_chooseDeputies_93 (rc_Clock_chooseDeputies n) h used off x w c = some (r, c') ∧ lp_Model_stands_97 (rc_Model_stands k') h used off x' w d = some (r', d') ∧ DR m c0 d0 c' d' h := by
            intro j
            induction j with
            | zero =>
              intro x x' w c d s1 s2 s3 s4 hD
              obtain ⟨y, rfl⟩ : ∃ k, x = k + 1 := ⟨x - 1, by omega⟩
              obtain ⟨y', rfl⟩ : ∃ k, x' = k + 1 := ⟨x' - 1, by omega⟩
              have hc := DB_BC hb hD.1
              obtain ⟨e1, e2⟩ := DB_rows hc
              have m205 : d 205 = m 205 := (MO_BM hd hD.2.1).1 205 (by omega) (by omega)
              refine ⟨0, 0, c, d, ?_, ?_, hD⟩
              · show bo_Clock_chooseDeputies_93 _ _ _ _ _ _ _ = _
                unfold bo_Clock_chooseDeputies_93
                rw [hc.2.2.1, if_pos hc.2.2.2, e1, if_neg (by omega)]
              · show bo_Model_stands_97 _ _ _ _ _ _ _ = _
                unfold bo_Model_stands_97
                rw [m205, tn1, if_neg (by omega)]
            | succ j ihj =>
              intro x x' w c d s1 s2 s3 s4 hD
              obtain ⟨y, rfl⟩ : ∃ k, x = k + 1 := ⟨x - 1, by omega⟩
              obtain ⟨y', rfl⟩ : ∃ k, x' = k + 1 := ⟨x' - 1, by omega⟩
              have hD0 := hD
              obtain ⟨a1, a2, a3, a4, a5, a6⟩ := hD
              have hc := DB_BC hb a1
              obtain ⟨e1, e2⟩ := DB_rows hc
              have hm := MO_BM hd a2
              have m245 : d 245 = m 245 := (a2.1 245 (by omega) (by omega) (by omega)).trans hd2
              have m205 : d 205 = m 205 := hm.1 205 (by omega) (by omega)
              have hw : w < m 205 1 := by omega
              obtain ⟨z, z1, z2⟩ := cand hH hc hm m245 h0 g s2 hw b
              have hf := faS_r (H := m) (S := m 245) w (m 219 h.toNat)
              have ho := ofS_r hH h0 g hf.1 hf.2
              have hu := bt_set_r u0 u1 s2 (by omega : w < 6)
              have b2 : BC c0 (mst c 109 h.toNat w) := BC_trans a1 BC_109
              have b3 : BM d0 (mst d 256 h.toNat w) := BM_trans a2 BM_256
              have hc2 := DB_BC hb b2
              have hm2 := MO_BM hd b3
              have eo := offBy_eq hc2.1 h0 g s2 hw
              have efa := m_firstAt (p := m 219 h.toNat) hH hm2 s2 hw
              have eob := m_offBy hH hm2 h0 g hf.1 hf.2
              have e219 : mst d 256 h.toNat w 219 = m 219 := hm2.1 219 (by omega) (by omega)
              have hbu := bt_01 u0 u1 s2 (by omega : w < 6)
              generalize ofS m h (faS m (m 245) w (m 219 h.toNat)) = o at *
              generalize faS m (m 245) w (m 219 h.toNat) = fa at *
              have eu : ior used (ishl 1 w) = ior used (ishl 1 w) := rfl
              have eC : lp_Clock_chooseDeputies_93 (rc_Clock_chooseDeputies n) h used off (y + 1) w c = if bt used w = 0 then (if z = 0 then lp_Clock_chooseDeputies_93 (rc_Clock_chooseDeputies n) h used off y (w + 1) c else bd (rc_Clock_chooseDeputies n (h + 1) (ior used (ishl 1 w)) (off + o) (mst c 109 h.toNat w)) fun r8 m9 => lp_Clock_chooseDeputies_93 (rc_Clock_chooseDeputies n) h used off y (w + 1) m9) else lp_Clock_chooseDeputies_93 (rc_Clock_chooseDeputies n) h used off y (w + 1) c := by
                show bo_Clock_chooseDeputies_93 _ _ _ _ _ _ _ = _
                unfold bo_Clock_chooseDeputies_93 bo_Clock_chooseDeputies_119 bo_Clock_chooseDeputies_179
                rw [hc.2.2.1, if_pos hc.2.2.2, e1, if_pos hw, bt_fold, w32_in (x := w + 1) (by omega) (by omega), if_neg (by decide : ¬ (1 : Int) = 0), if_pos (rfl : (0 : Int) = 0), z1, bd_some, if_pos (by omega : 0 ≤ h ∧ h < 6), bn_eq, eo, bd_some, w32_in (x := h + 1) (by omega) (by omega), w32_in (x := off + o) (by omega) (by omega), if_pos hc.2.2.2]
              have eM : lp_Model_stands_97 (rc_Model_stands k') h used off (y' + 1) w d = if bt used w = 1 then lp_Model_stands_97 (rc_Model_stands k') h used off y' (w + 1) d else (if z = 0 then lp_Model_stands_97 (rc_Model_stands k') h used off y' (w + 1) d else bd (rc_Model_stands k' (h + 1) (ior used (ishl 1 w)) (off + o) (mst d 256 h.toNat w)) fun r8 m9 => lp_Model_stands_97 (rc_Model_stands k') h used off y' (w + 1) m9) := by
                show bo_Model_stands_97 _ _ _ _ _ _ _ = _
                unfold bo_Model_stands_97 bo_Model_stands_171
                rw [m205, tn1, if_pos hw, bt_fold, w32_in (x := w + 1) (by omega) (by omega), z2, bd_some, if_pos (by omega : 0 ≤ h ∧ h < 6), bn_eq, if_pos (by omega : 0 ≤ h ∧ h < 12), e219, efa, bd_some, eob, bd_some, w32_in (x := h + 1) (by omega) (by omega), w32_in (x := off + o) (by omega) (by omega)]
              rw [eC, eM]
              rcases hbu with bu | bu
              · rw [if_pos bu, if_neg (by omega : ¬ bt used w = 1)]
                by_cases gz : z = 0
                · rw [if_pos gz, if_pos gz]
                  exact ihj y y' (w + 1) c d (by omega) (by omega) (by omega) (by omega) hD0
                · rw [if_neg gz, if_neg gz]
                  have hD2 : DR m c0 d0 (mst c 109 h.toNat w) (mst d 256 h.toNat w) (h + 1) := by
                    refine ⟨b2, b3, by rw [mst_ne (by omega), mst_ne (by omega)]; exact a3, by rw [mst_ne (by omega)]; exact a4, fun p q y0 y1 => ?_, fun q y0 y1 => ?_⟩
                    · rw [mst_ne (by omega)] at p
                      rw [mst_ne (by omega), mst_ne (by omega)]; exact a5 p q y0 y1
                    · by_cases gq : q = h
                      · subst gq; rw [mst_hit, mst_hit]
                      · rw [mst_miss (by omega), mst_miss (by omega)]; exact a6 q y0 (by omega)
                  obtain ⟨r, r', c', d', q1, q2, q3⟩ := ih k' (h + 1) (ior used (ishl 1 w)) (off + o) _ _ (by omega) (by omega) (by omega) (by omega) hu.1 hu.2 (by omega) (by omega) hD2
                  rw [q1, q2, bd_some, bd_some]
                  exact ihj y y' (w + 1) c' d' (by omega) (by omega) (by omega) (by omega) ⟨q3.1, q3.2.1, q3.2.2.1, q3.2.2.2.1, q3.2.2.2.2.1, fun q y0 y1 => q3.2.2.2.2.2 q y0 (by omega)⟩
              · rw [if_neg (by omega : ¬ bt used w = 0), if_pos bu]
                exact ihj y y' (w + 1) c d (by omega) (by omega) (by omega) (by omega) hD0
          exact key (m 205 1).toNat FU FU 0 c d (by omega) (by omega) (by show (m 205 1).toNat < 2000; omega) (by show (m 205 1).toNat < 2000; omega) hD0
        · have hD2 : DR m c0 d0 (mst c 109 h.toNat (-1)) (mst d 256 h.toNat (-1)) (h + 1) := by
            refine ⟨BC_trans a1 BC_109, BM_trans a2 BM_256, by rw [mst_ne (by omega), mst_ne (by omega)]; exact a3, by rw [mst_ne (by omega)]; exact a4, fun p q y0 y1 => ?_, fun q y0 y1 => ?_⟩
            · rw [mst_ne (by omega)] at p
              rw [mst_ne (by omega), mst_ne (by omega)]; exact a5 p q y0 y1
            · by_cases gq : q = h
              · subst gq; rw [mst_hit, mst_hit]
              · rw [mst_miss (by omega), mst_miss (by omega)]; exact a6 q y0 (by omega)
          obtain ⟨r, r', c', d', q1, q2, q3⟩ := ih k' (h + 1) used off _ _ (by omega) (by omega) (by omega) (by omega) u0 u1 o0 (by omega) hD2
          refine ⟨0, 0, c', d', ?_, ?_, ⟨q3.1, q3.2.1, q3.2.2.1, q3.2.2.2.1, q3.2.2.2.2.1, fun q y0 y1 => q3.2.2.2.2.2 q y0 (by omega)⟩⟩
          · show bm_Clock_chooseDeputies _ _ _ _ _ = _
            unfold bm_Clock_chooseDeputies
            rw [hc.2.2.1, if_pos hc.2.2.2, e2, if_pos g, if_pos (by omega), lives_eq, bd_some, e85, e83, b, iz1, if_neg (by decide), if_pos (by omega), bn_eq, w32_in (by omega) (by omega), q1, bd_some]
          · rw [eM]
            unfold bo_Model_stands_16
            rw [m205, tn2, if_neg (by omega), w32_in (x := 10 + h) (by omega) (by omega), if_pos (by omega), m245, m_isAlive, bd_some, m245, b, iz2, if_neg (by decide), if_pos (by omega), bn_eq, w32_in (by omega) (by omega), q2, bd_some]
      · -- a whole row
        have eh : h = m 205 2 := by omega
        have eC : rc_Clock_chooseDeputies (n + 1) h used off c = bo_Clock_chooseDeputies_27 (rc_Clock_chooseDeputies n) h used off c := by
          show bm_Clock_chooseDeputies _ _ _ _ _ = _
          unfold bm_Clock_chooseDeputies
          rw [hc.2.2.1, if_pos hc.2.2.2, e2, if_neg g]
          by_cases g2 : c 0 17 = -1
          · rw [if_pos g2]
          · rw [if_neg g2, if_pos (by omega)]
        have lp : ∀ (j x : Nat) (i : Int) (e : Mm), i + j = h → 0 ≤ i → j < x → (∀ a, a ≠ 257 → e a = mst d 203 68 off a) → (∀ q : Int, 0 ≤ q → q < i → e 257 q.toNat = d 256 q.toNat) → ∃ e', lp_Model_stands_34 (rc_Model_stands k') h used off x i e = some (0, e') ∧ (∀ a, a ≠ 257 → e' a = mst d 203 68 off a) ∧ ∀ q : Int, 0 ≤ q → q < h → e' 257 q.toNat = d 256 q.toNat := by
          intro j
          induction j with
          | zero =>
            intro x i e s1 s2 s3 s4 s5
            obtain ⟨y, rfl⟩ : ∃ k, x = k + 1 := ⟨x - 1, by omega⟩
            refine ⟨e, ?_, s4, fun q y0 y1 => s5 q y0 (by omega)⟩
            show bo_Model_stands_34 _ _ _ _ _ _ _ = _
            unfold bo_Model_stands_34
            rw [if_neg (by omega)]
          | succ j ihj =>
            intro x i e s1 s2 s3 s4 s5
            obtain ⟨y, rfl⟩ : ∃ k, x = k + 1 := ⟨x - 1, by omega⟩
            have ee : lp_Model_stands_34 (rc_Model_stands k') h used off (y + 1) i e = lp_Model_stands_34 (rc_Model_stands k') h used off y (i + 1) (mst e 257 i.toNat (e 256 i.toNat)) := by
              show bo_Model_stands_34 _ _ _ _ _ _ _ = _
              unfold bo_Model_stands_34
              rw [if_pos (by omega), if_pos (by omega), if_pos (by omega), bn_eq, w32_in (by omega) (by omega)]
            rw [ee]
            refine ihj y (i + 1) _ (by omega) (by omega) (by omega) (fun a ha => by rw [mst_ne ha]; exact s4 a ha) (fun q y0 y1 => ?_)
            by_cases gq : q = i
            · subst gq; rw [mst_hit, s4 256 (by omega), mst_ne (by omega)]
            · rw [mst_miss (by omega)]; exact s5 q y0 (by omega)
        obtain ⟨e', l1, l2, l3⟩ := lp h.toNat FU 0 (mst d 203 68 off) (by omega) (by omega) (by show h.toNat < 2000; omega) (fun _ _ => rfl) (fun q y0 y1 => by omega)
        refine ⟨0, 0, mcp (mst c 0 17 off) 109 0 110 0 6, e', ?_, ?_, ⟨fun a b0 b1 b2 => ?_, fun j hj => ?_⟩, ⟨fun a b0 b1 b2 => ?_, fun j hj => ?_⟩, ?_, ?_, fun _ q y0 y1 => ?_, fun q y0 y1 => ?_⟩
        · rw [eC]
          rfl
        · rw [eM]
          unfold bo_Model_stands_16
          rw [m205, tn2, if_pos eh, bn_eq]
          exact l1
        · rw [mcp_ne b2, mst_ne b0]; exact a1.1 a b0 b1 b2
        · rw [mcp_ne (by omega), mst_miss hj]; exact a1.2 j hj
        · rw [l2 a b2, mst_ne b0]; exact a2.1 a b0 b1 b2
        · rw [l2 203 (by omega), mst_miss hj]; exact a2.2 j hj
        · rw [mcp_ne (by omega), mst_hit, l2 203 (by omega), mst_hit]
        · rw [mcp_ne (by omega), mst_hit]; omega
        · rw [mcp_hit (by omega) (by omega), Nat.zero_add, Nat.sub_zero, mst_ne (by omega), l3 q y0 (by omega)]
          exact a6 q y0 (by omega)
        · rw [mcp_ne (by omega), mst_ne (by omega), l2 256 (by omega), mst_ne (by omega)]
          exact a6 q y0 y1
theorem call_deputies (hR : RR f m m) (p : Int) : Both (fn_Clock_deputies p) (fn_Model_deputies p) m := by
  refine q_rel hR (fun d hE hd => ?_)
  have hH := hR.2.2.1.1
  have hn := hH.1
  have hc0 := RR_hc hR
  have er : ∀ k, 204 ≤ k → mst d 203 0 0 k = m k := fun k hk => by rw [mst_ne (by omega)]; exact hE k (by omega)
  have hq := th_FQM (d := d) (x := 0) (j := 0) (by omega) (by omega)
  have e2 : m (m 0 2).toNat 2 = m 205 2 := hR.2.2.1.2.1.2.2.2.1
  by_cases c1 : -1 ≤ p ∧ p < m 205 2
  · obtain ⟨r1, k1, e1, g1, g2⟩ := c_go hR
    have w1 := FW_FQ g2
    have hk0 : k1 0 2 = m 0 2 := w1.1.2.1 2 (by omega)
    generalize hc : mst k1 0 17 (-1) = c0
    have hDB : DB f m c0 := by
      have hst : StW k1 83 m (m 245) := StW_congr hR.2.2.2.1.1 (g2 _ (by omega)) (g2 _ (by omega)) (g2 _ (by omega)) rfl
      have hbc : BC k1 c0 := by rw [← hc]; exact ⟨fun a a0 _ _ => mst_ne a0, fun j hj => mst_miss hj⟩
      exact DB_BC ⟨g1, hst, hk0, hc0.1⟩ hbc
    obtain ⟨r2, d1, u1, u2, u3⟩ := m_go hR (FM2_mst (EqM_FM2 hE)) (er 245 (by omega))
    have hf := FR_FQM u3
    generalize hd0 : mst d1 203 68 (-1) = d0
    have hm0 : MO m (m 245) d0 := MO_congr u2 (fun a _ _ _ _ => by rw [← hd0, mst_ne (by omega)])
    have h245 : d0 245 = m 245 := by rw [← hd0, mst_ne (by omega), u3 245 (by omega)]; exact er 245 (by omega)
    have hDR : DR m c0 d0 c0 d0 0 := ⟨⟨fun _ _ _ _ => rfl, fun _ _ => rfl⟩, ⟨fun _ _ _ _ => rfl, fun _ _ => rfl⟩, by rw [← hc, ← hd0, mst_hit, mst_hit], by rw [← hc, mst_hit]; omega, fun z => by rw [← hc, mst_hit] at z; omega, fun q y0 y1 => by omega⟩
    obtain ⟨r, r', c', d', q1, q2, q3⟩ := dep_rel hH hDB hm0 h245 8 8 0 0 0 c0 d0 (by omega) (by omega) (by omega) (by omega) (by omega) (by omega) (by omega) (by omega) hDR
    obtain ⟨a1, a2, a3, a4, a5, -⟩ := q3
    have fC : FQ m c' ∧ EqM m c' := by
      refine ⟨FQ_trans w1.1 ⟨fun a b0 b1 b2 _ _ _ _ => ?_, fun j hj => ?_, fun j _ => ?_, fun j _ => ?_⟩, EqM_trans w1.2 (fun a ha => ?_)⟩
      · rw [a1.1 a (by omega) (by omega) (by omega), ← hc, mst_ne (by omega)]
      · rw [a1.2 j (by omega), ← hc, mst_miss (by omega)]
      · rw [a1.1 14 (by omega) (by omega) (by omega), ← hc, mst_ne (by omega)]
      · rw [a1.1 51 (by omega) (by omega) (by omega), ← hc, mst_ne (by omega)]
      · rw [a1.1 a (by omega) (by omega) (by omega), ← hc, mst_ne (by omega)]
    have fM : FQM d d' ∧ EqC d d' := by
      refine ⟨FQM_trans (FQM_trans hq.1 hf.1) ⟨fun a b0 b1 b2 b3 => ?_, ?_, ?_⟩, EqC_trans (EqC_trans hq.2 hf.2) (fun a ha => ?_)⟩
      · rw [a2.1 a (by omega) (by omega) (by omega), ← hd0, mst_ne (by omega)]
      · rw [a2.2 1 (by omega), ← hd0, mst_miss (by omega)]
      · rw [a2.2 58 (by omega), ← hd0, mst_miss (by omega)]
      · rw [a2.1 a (by omega) (by omega) (by omega), ← hd0, mst_ne (by omega)]
    have eC : fn_Clock_deputies p m = if c' 0 17 = -1 then some (-2, c') else if p = -1 then some (c' 0 17, c') else some (c' 110 p.toNat, c') := by
      unfold fn_Clock_deputies fn_Clock_chooseDeputies
      rw [if_neg (by omega), if_pos hc0.1, e2, if_pos (by omega), if_pos hc0.1, e1, bd_some, bn_eq, hc, q1, bd_some]
      by_cases y1 : c' 0 17 = -1
      · rw [if_pos y1, if_pos y1]
      · rw [if_neg y1, if_neg y1]
        by_cases y2 : p = -1
        · rw [if_pos y2, if_pos y2]
        · rw [if_neg y2, if_neg y2, if_pos (by omega)]
    have eM21 : bo_Model_deputies_21 p (mst d 203 0 0) = if d' 203 68 < 0 then some (-2, d') else if p = -1 then some (d' 203 68, d') else some (d' 257 p.toNat, d') := by
      unfold bo_Model_deputies_21 fn_Model_stands
      rw [u1, bd_some, bn_eq, hd0, q2, bd_some]
      by_cases y1 : d' 203 68 < 0
      · rw [if_pos y1, if_pos y1]
      · rw [if_neg y1, if_neg y1]
        by_cases y2 : p = -1
        · rw [if_pos y2, if_pos y2]
        · rw [if_neg y2, if_neg y2, if_pos (by omega)]
    have eM : fn_Model_deputies p d = bo_Model_deputies_21 p (mst d 203 0 0) := by
      unfold fn_Model_deputies
      rw [bn_eq]
      by_cases y2 : p = -1
      · rw [if_pos y2]
      · rw [if_neg y2, m_isHour, bd_some, er 205 (by omega), if_neg (by rw [iR_0]; omega)]
    rw [eC, eM, eM21]
    by_cases y1 : c' 0 17 = -1
    · rw [if_pos y1, if_pos (by omega : d' 203 68 < 0)]
      exact ⟨-2, TT_some.mpr ⟨rfl, fC⟩, TT_some.mpr ⟨rfl, fM⟩⟩
    · rw [if_neg y1, if_neg (by omega : ¬ d' 203 68 < 0)]
      by_cases y2 : p = -1
      · rw [if_pos y2, if_pos y2]
        exact ⟨_, TT_some.mpr ⟨rfl, fC⟩, TT_some.mpr ⟨a3.symm, fM⟩⟩
      · rw [if_neg y2, if_neg y2]
        exact ⟨_, TT_some.mpr ⟨rfl, fC⟩, TT_some.mpr ⟨(a5 (by omega) p (by omega) (by omega)).symm, fM⟩⟩
  · refine ⟨-2, ?_, ?_⟩
    · unfold fn_Clock_deputies
      refine TT_if (fun _ => TT_some.mpr ⟨rfl, FQ_refl, fun _ _ => rfl⟩) (fun g => ?_)
      rw [if_pos hc0.1, e2, if_neg (by omega)]
      exact TT_some.mpr ⟨rfl, FQ_refl, fun _ _ => rfl⟩
    · unfold fn_Model_deputies
      rw [bn_eq, if_neg (by omega), m_isHour, bd_some, er 205 (by omega), if_pos (by rw [iR_0]; omega)]
      exact TT_some.mpr ⟨rfl, hq⟩
end De
