/-! What is read off the reference's day; meetings. -/
section Mr
/-- the day is laid -/
def MO (H : Mm) (S : Nat → Int) (m : Mm) : Prop := FM2 H m ∧ ∀ w u : Int, 0 ≤ w → w < H 205 1 → 0 ≤ u → u < 240 → m 251 (240 * w + u).toNat = atS H S u w
theorem idf {x : Int} : (if x = -1 then -1 else x) = x := by split <;> simp_all
theorem m_firstAt {H : Mm} {S : Nat → Int} {m : Mm} (hH : HD H) (hm : MO H S m) {w p : Int} (h0 : 0 ≤ w) (h1 : w < H 205 1) : fn_Model_firstAt w p m = some (faS H S w p, m) := by
  have hn := hH.1
  unfold fn_Model_firstAt
  rw [lp_fst (lp := lp_Model_firstAt_2 w p) (bo := bo_Model_firstAt_2 w p) (fun _ => rfl) (N := 240) (P := fun t => decide (atS H S t w = p)) (g := fun v => v) (y := -1) (fun k v v0 v1 => ?_) (fun k => ?_) 240 FU 0 (by omega) (by omega) (by decide), idf]
  · rfl
  · have e := hm.2 w v h0 h1 v0 v1
    unfold bo_Model_firstAt_2
    simp (disch := omega) only [g_pos, w32_in, e, decide_eq_true_eq]
  · unfold bo_Model_firstAt_2
    rw [if_neg (by omega)]
theorem m_firstMeeting {H : Mm} {S : Nat → Int} {m : Mm} (hH : HD H) (hm : MO H S m) {a b : Int} (a0 : 0 ≤ a) (a1 : a < H 205 1) (b0 : 0 ≤ b) (b1 : b < H 205 1) : fn_Model_firstMeeting a b m = some (fmS H S a b, m) := by
  have hn := hH.1
  unfold fn_Model_firstMeeting
  rw [lp_fst (lp := lp_Model_firstMeeting_2 a b) (bo := bo_Model_firstMeeting_2 a b) (fun _ => rfl) (N := 240) (P := fun t => decide (0 ≤ atS H S t a) && decide (atS H S t a = atS H S t b)) (g := fun v => v) (y := -1) (fun k v v0 v1 => ?_) (fun k => ?_) 240 FU 0 (by omega) (by omega) (by decide), idf]
  · rfl
  · have e := hm.2 a v a0 a1 v0 v1
    have e2 := hm.2 b v b0 b1 v0 v1
    unfold bo_Model_firstMeeting_2 bo_Model_firstMeeting_53
    simp (disch := omega) only [g_pos, w32_in, e, e2, Bool.and_eq_true, decide_eq_true_eq]
    by_cases c : atS H S v a < 0
    · rw [if_pos c, if_neg (by omega)]
    · rw [if_neg c]
      by_cases d : atS H S v a = atS H S v b
      · rw [if_pos d, if_pos ⟨by omega, d⟩]
      · rw [if_neg d, if_neg (fun z => d z.2)]
  · unfold bo_Model_firstMeeting_2
    rw [if_neg (by omega)]
theorem m_firstMeetingAt {H : Mm} {S : Nat → Int} {m : Mm} (hH : HD H) (hm : MO H S m) {a b p : Int} (a0 : 0 ≤ a) (a1 : a < H 205 1) (b0 : 0 ≤ b) (b1 : b < H 205 1) : fn_Model_firstMeetingAt a b p m = some (fmaS H S a b p, m) := by
  have hn := hH.1
  unfold fn_Model_firstMeetingAt
  rw [lp_fst (lp := lp_Model_firstMeetingAt_3 a b p) (bo := bo_Model_firstMeetingAt_3 a b p) (fun _ => rfl) (N := 240) (P := fun t => decide (atS H S t a = p) && decide (atS H S t b = p)) (g := fun v => v) (y := -1) (fun k v v0 v1 => ?_) (fun k => ?_) 240 FU 0 (by omega) (by omega) (by decide), idf]
  · rfl
  · have e := hm.2 a v a0 a1 v0 v1
    have e2 := hm.2 b v b0 b1 v0 v1
    unfold bo_Model_firstMeetingAt_3 bo_Model_firstMeetingAt_48
    simp (disch := omega) only [g_pos, w32_in, e, e2, Bool.and_eq_true, decide_eq_true_eq]
    by_cases c : atS H S v a = p
    · rw [if_pos c]
      by_cases d : atS H S v b = p
      · rw [if_pos d, if_pos ⟨c, d⟩]
      · rw [if_neg d, if_neg (fun z => d z.2)]
    · rw [if_neg c, if_neg (fun z => c z.1)]
  · unfold bo_Model_firstMeetingAt_3
    rw [if_neg (by omega)]
theorem m_thereAt {H : Mm} {S : Nat → Int} {m : Mm} (hH : HD H) (hm : MO H S m) {p u : Int} (u0 : 0 ≤ u) (u1 : u < 240) : fn_Model_thereAt p u m = some (setS H S u p, m) := by
  have hn := hH.1
  have e205 : m 205 = H 205 := hm.1 205 (by omega) (by omega)
  unfold fn_Model_thereAt
  rw [lp_fld (lp := lp_Model_thereAt_5 p u) (bo := bo_Model_thereAt_5 p u) (fun _ => rfl) (N := H 205 1) (f := fun w a => ior a (if atS H S u w = p then ishl 1 w else 0)) (o := fun a => some (a, m)) (fun k v a v0 v1 => ?_) (fun k a => ?_) (H 205 1).toNat FU 0 0 (by omega) (by omega) (by show (H 205 1).toNat < 2000; omega)]
  · rfl
  · have e := hm.2 v u v0 v1 u0 u1
    unfold bo_Model_thereAt_5 bo_Model_thereAt_42
    rw [e205, tn1, if_pos v1]
    simp (disch := omega) only [g_pos, w32_in, e, bn_eq]
    split <;> rfl
  · unfold bo_Model_thereAt_5
    rw [e205, tn1, if_neg (by omega)]
/-- two are at one place -/
def MeetP (H : Mm) (S : Nat → Int) (u : Int) : Prop := ∃ a b : Int, 0 ≤ b ∧ b < a ∧ a < H 205 1 ∧ 0 ≤ atS H S u a ∧ atS H S u a = atS H S u b
theorem m_isMeeting {H : Mm} {S : Nat → Int} {m : Mm} (hH : HD H) (hm : MO H S m) {u : Int} (u0 : 0 ≤ u) (u1 : u < 240) : fn_Model_isMeeting u m = some (zi (db (MeetP H S u)), m) := by
  have hn := hH.1
  have e205 : m 205 = H 205 := hm.1 205 (by omega) (by omega)
  refine TT_eq ?_
  unfold fn_Model_isMeeting
  refine lp_inv1 (bo := bo_Model_isMeeting_2 u) (fun _ => rfl) (fun a m' => m' = m ∧ 0 ≤ a ∧ a ≤ H 205 1 ∧ ∀ a' b : Int, 0 ≤ b → b < a' → a' < a → ¬ (0 ≤ atS H S u a' ∧ atS H S u a' = atS H S u b)) (fun a _ => (6 - a).toNat) ?_ FU 0 m ⟨rfl, by omega, by omega, fun a' b h1 h2 h3 => by omega⟩ (by decide)
  intro k a m' hI hk
  obtain ⟨rfl, a0, a1, hno⟩ := hI
  unfold bo_Model_isMeeting_2
  rw [e205, tn1]
  refine TT_if (fun c => ?_) (fun c => ?_)
  · refine lp_inv2 (bo := bo_Model_isMeeting_14 u k) (fun _ => rfl) (fun v b m2 => m2 = m' ∧ v = a ∧ 0 ≤ b ∧ b ≤ a ∧ ∀ b' : Int, 0 ≤ b' → b' < b → ¬ (0 ≤ atS H S u a ∧ atS H S u a = atS H S u b')) (fun _ b _ => (6 - b).toNat) ?_ FU a 0 m' ⟨rfl, rfl, by omega, by omega, fun b' h1 h2 => by omega⟩ (by decide)
    intro k14 v b m2 hI hk14
    obtain ⟨rfl, rfl, b0, b1, hb⟩ := hI
    unfold bo_Model_isMeeting_14
    refine TT_if (fun d => ?_) (fun d => ?_)
    · have e := hm.2 v u a0 c u0 u1
      have e2 := hm.2 b u b0 (by omega) u0 u1
      have next : ¬ (0 ≤ atS H S u v ∧ atS H S u v = atS H S u b) → TT (bo_Model_isMeeting_63 u k k14 v b m2) (fun r m' => r = zi (db (MeetP H S u)) ∧ m' = m2) := by
        intro z
        unfold bo_Model_isMeeting_63
        simp (disch := omega) only [w32_in]
        refine hk14 _ _ _ ⟨rfl, rfl, by omega, by omega, fun b' h1 h2 => ?_⟩ (by omega)
        by_cases f : b' = b
        · subst f; exact z
        · exact hb b' h1 (by omega)
      simp (disch := omega) only [g_pos, w32_in, e, e2]
      refine TT_if (fun f => next (fun z => by omega)) (fun f => ?_)
      refine TT_if (fun g => ?_) (fun g => next (fun z => g z.2))
      exact TT_some.mpr ⟨(db_1 ⟨v, b, b0, d, c, by omega, g⟩).symm, rfl⟩
    · unfold bo_Model_isMeeting_69
      simp (disch := omega) only [w32_in]
      refine hk _ _ ⟨rfl, by omega, by omega, fun a' b' h1 h2 h3 => ?_⟩ (by omega)
      by_cases f : a' = v
      · subst f; exact hb b' h1 (by omega)
      · exact hno a' b' h1 h2 (by omega)
  · refine TT_some.mpr ⟨(db_0 ?_).symm, rfl⟩
    intro z
    obtain ⟨a', b, h1, h2, h3, h4⟩ := z
    exact hno a' b h1 h2 (by omega) h4
def bcS (x : Int) : Int := bt x 0 + bt x 1 + bt x 2 + bt x 3 + bt x 4 + bt x 5
theorem bc_all : ∀ x : Nat, x < 64 → (iand (w32 ((w32 ((iand (w32 ((w32 ((iand (w32 ((x : Int) - (iand (iushr (x : Int) 1) 1431655765))) 858993459) + (iand (iushr (w32 ((x : Int) - (iand (iushr (x : Int) 1) 1431655765))) 2) 858993459))) + (iushr (w32 ((iand (w32 ((x : Int) - (iand (iushr (x : Int) 1) 1431655765))) 858993459) + (iand (iushr (w32 ((x : Int) - (iand (iushr (x : Int) 1) 1431655765))) 2) 858993459))) 4))) 252645135) + (iushr (iand (w32 ((w32 ((iand (w32 ((x : Int) - (iand (iushr (x : Int) 1) 1431655765))) 858993459) + (iand (iushr (w32 ((x : Int) - (iand (iushr (x : Int) 1) 1431655765))) 2) 858993459))) + (iushr (w32 ((iand (w32 ((x : Int) - (iand (iushr (x : Int) 1) 1431655765))) 858993459) + (iand (iushr (w32 ((x : Int) - (iand (iushr (x : Int) 1) 1431655765))) 2) 858993459))) 4))) 252645135) 8))) + (iushr (w32 ((iand (w32 ((w32 ((iand (w32 ((x : Int) - (iand (iushr (x : Int) 1) 1431655765))) 858993459) + (iand (iushr (w32 ((x : Int) - (iand (iushr (x : Int) 1) 1431655765))) 2) 858993459))) + (iushr (w32 ((iand (w32 ((x : Int) - (iand (iushr (x : Int) 1) 1431655765))) 858993459) + (iand (iushr (w32 ((x : Int) - (iand (iushr (x : Int) 1) 1431655765))) 2) 858993459))) 4))) 252645135) + (iushr (iand (w32 ((w32 ((iand (w32 ((x : Int) - (iand (iushr (x : Int) 1) 1431655765))) 858993459) + (iand (iushr (w32 ((x : Int) - (iand (iushr (x : Int) 1) 1431655765))) 2) 858993459))) + (iushr (w32 ((iand (w32 ((x : Int) - (iand (iushr (x : Int) 1) 1431655765))) 858993459) + (iand (iushr (w32 ((x : Int) - (iand (iushr (x : Int) 1) 1431655765))) 2) 858993459))) 4))) 252645135) 8))) 16))) 63) = bcS x := by decide +kernel
theorem bitCount_eq {x : Int} {m : Mm} (h0 : 0 ≤ x) (h1 : x < 64) : fn_Integer_bitCount x m = some (bcS x, m) := by
  obtain ⟨y, hy, rfl⟩ := nn h0 (n := 64) h1
  rw [← bc_all y hy]
  rfl
theorem bc_two_all : ∀ x : Nat, x < 64 → (1 < bcS (x : Int) ↔ ∃ a : Nat, a < 6 ∧ ∃ b : Nat, b < a ∧ bt (x : Int) (a : Int) = 1 ∧ bt (x : Int) (b : Int) = 1) := by decide +kernel
theorem bc_two {x : Int} (h0 : 0 ≤ x) (h1 : x < 64) : 1 < bcS x ↔ ∃ a b : Int, 0 ≤ b ∧ b < a ∧ a < 6 ∧ bt x a = 1 ∧ bt x b = 1 := by
  obtain ⟨y, hy, rfl⟩ := nn h0 (n := 64) h1
  rw [bc_two_all y hy]
  constructor
  · intro h
    obtain ⟨a, x1, b, x2, x3, x4⟩ := h
    exact ⟨a, b, by omega, by omega, by omega, x3, x4⟩
  · intro h
    obtain ⟨a, b, x1, x2, x3, x4, x5⟩ := h
    obtain ⟨a', ha, rfl⟩ := nn (by omega : 0 ≤ a) (n := 6) x3
    obtain ⟨b', hb, rfl⟩ := nn x1 (n := 6) (by omega)
    exact ⟨a', ha, b', by omega, x4, x5⟩
theorem sightAt_eq {H : Mm} {S : Nat → Int} {m : Mm} (hs : SgO H S m) {p u : Int} (p0 : 0 ≤ p) (p1 : p < 6) (u0 : 0 ≤ u) (u1 : u < 240) : fn_Sight_at p u m = some (setS H S u p, m) := by
  have e : p * 240 + u = 240 * p + u := by omega
  unfold fn_Sight_at
  simp (disch := omega) only [w32_in, g_pos, e]
  rw [hs p u p0 p1 u0 u1]
theorem isMeeting_eq {H : Mm} {S : Nat → Int} {m : Mm} (hH : HD H) (hS : SD H S) (hs : SgO H S m) {u : Int} (u0 : 0 ≤ u) (u1 : u < 240) : fn_Sight_isMeeting u m = some (zi (db (MeetP H S u)), m) := by
  have hn := hH.1
  refine TT_eq ?_
  unfold fn_Sight_isMeeting
  refine lp_inv1 (bo := bo_Sight_isMeeting_2 u) (fun _ => rfl) (fun p m' => m' = m ∧ 0 ≤ p ∧ p ≤ 6 ∧ ∀ a b : Int, 0 ≤ b → b < a → a < H 205 1 → 0 ≤ atS H S u a → atS H S u a < p → ¬ (atS H S u a = atS H S u b)) (fun p _ => (6 - p).toNat) ?_ FU 0 m ⟨rfl, by omega, by omega, fun a b h1 h2 h3 h4 h5 => by omega⟩ (by decide)
  intro k p m' hI hk
  obtain ⟨rfl, p0, p1, hno⟩ := hI
  unfold bo_Sight_isMeeting_2
  refine TT_if (fun c => ?_) (fun c => ?_)
  · obtain ⟨y1, y2, y3⟩ := setS_b (S := S) hH u p
    rw [sightAt_eq hs p0 c u0 u1, bd_some, bitCount_eq y1 y2, bd_some]
    refine TT_if (fun d => ?_) (fun d => ?_)
    · obtain ⟨a, b, b0, b1, a1, x1, x2⟩ := (bc_two y1 y2).mp d
      have z1 := (y3 a (by omega) a1).mp x1
      have z2 := (y3 b b0 (by omega)).mp x2
      exact TT_some.mpr ⟨(db_1 ⟨a, b, b0, b1, z1.1, by omega, by omega⟩).symm, rfl⟩
    · simp (disch := omega) only [w32_in]
      refine hk _ _ ⟨rfl, by omega, by omega, fun a b h1 h2 h3 h4 h5 => ?_⟩ (by omega)
      by_cases e : atS H S u a = p
      · intro z
        refine d ((bc_two y1 y2).mpr ⟨a, b, h1, h2, by omega, (y3 a (by omega) (by omega)).mpr ⟨h3, e⟩, (y3 b h1 (by omega)).mpr ⟨by omega, by omega⟩⟩)
      · exact hno a b h1 h2 h3 h4 (by omega)
  · refine TT_some.mpr ⟨(db_0 ?_).symm, rfl⟩
    intro z
    obtain ⟨a, b, h1, h2, h3, h4, h5⟩ := z
    rcases atS_r hH hS u0 u1 (by omega : 0 ≤ a) h3 with y | y
    · omega
    · exact hno a b h1 h2 h3 h4 (by omega) h5
end Mr
