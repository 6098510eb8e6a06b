/-! Calls that ask: times, look, lonely. -/
section Ec
variable {f : Int → Int → Int → Int} {c H : Mm}
theorem c_look (h : RR f c H) : TT (fn_Clock_lookRound c) (fun _ m' => SgO H (H 245) m' ∧ FQ c m' ∧ EqM c m') := by
  have hc0 := RR_hc h
  unfold fn_Clock_lookRound
  rw [if_pos hc0.1]
  refine TT_call (c_go h) (fun r m q => ?_)
  obtain ⟨q1, q2⟩ := q
  have hfq := FW_FQ q2
  have e0 : m 0 2 = c 0 2 := hfq.1.2.1 2 (by omega)
  rw [e0, if_pos hc0.1]
  have en : m (c 0 2).toNat 1 = H 205 1 := q1.2.2.2.1.2.2.1
  rw [en]
  refine TT_call (take_ok q1.1 q1.2.2.1) (fun r2 m2 q3 => TT_some.mpr ⟨q3.2, ?_, ?_⟩)
  · refine FQ_trans hfq.1 ⟨fun a _ _ a1 _ _ _ _ => q3.1 a (by omega), fun j _ => by rw [q3.1 0 (by omega)], fun j _ => by rw [q3.1 14 (by omega)], fun j _ => by rw [q3.1 51 (by omega)]⟩
  · exact EqM_trans hfq.2 (fun a ha => q3.1 a (by omega))
theorem bt_01w {x k : Int} : bt x k = 0 ∨ bt x k = 1 := by
  have h : ∀ y : Int32, (y &&& 1).toInt = 0 ∨ (y &&& 1).toInt = 1 := by
    intro y
    have e : (y &&& 1) = 0 ∨ (y &&& 1) = 1 := by
      have : y.toBitVec &&& 1#32 = 0#32 ∨ y.toBitVec &&& 1#32 = 1#32 := by
        rcases hb : y.toBitVec.getLsbD 0 with _ | _
        · left
          ext i hi
          cases i with
          | zero => simp_all
          | succ i => simp
        · right
          ext i hi
          cases i with
          | zero => simp_all
          | succ i => simp
      rcases this with h | h
      · left; exact Int32.toBitVec_inj.mp h
      · right; exact Int32.toBitVec_inj.mp h
    rcases e with e | e <;> rw [e]
    · left; rfl
    · right; rfl
  exact h (Int32.ofInt (ishr x k))
/-- what is seen can be so: both say the same -/
theorem canBe_rel (hH : HD H) (hn : SnR H 82 H 0) {mC mM : Mm} (e82 : mC 82 = H 82) (e90 : mC 90 = H 90) (e91 : mC 91 = H 91) {S : Nat → Int} (hs : SgO H S mC) (hm : MO H S mM) {u : Int} (u0 : 0 ≤ u) (u1 : u < 240) : ∃ x : Int, fn_Standing_canBe 82 u mC = some (x, mC) ∧ fn_Model_isAsSeen u mM = some (x, mM) := by
  have hn' := hH.1
  obtain ⟨h1, h2, h3, h4, h5, h6⟩ := hn
  have e0 : (0 : Int).toNat = 0 := rfl
  rw [e0] at h1 h2 h3 h6
  have m240 : mM 240 = H 240 := hm.1 240 (by omega) (by omega)
  have m241 : mM 241 = H 241 := hm.1 241 (by omega) (by omega)
  have m242 : mM 242 = H 242 := hm.1 242 (by omega) (by omega)
  have m243 : mM 243 = H 243 := hm.1 243 (by omega) (by omega)
  unfold fn_Standing_canBe fn_Model_isAsSeen
  refine rel1 (boC := bo_Standing_canBe_2 82 u) (boM := bo_Model_isAsSeen_2 u) (fun _ => rfl) (fun _ => rfl) (N := H 240 0) (fun kC kM i i0 i1 => ?_) (fun kC kM => ?_) (H 240 0).toNat FU FU 0 (by omega) (by omega) (by show (H 240 0).toNat < 2000; omega) (by show (H 240 0).toNat < 2000; omega)
  · obtain ⟨y1, y2, y3, y4, y5, y6, y7⟩ := h6 i i0 i1
    have ei : (8 * 0 + i).toNat = i.toNat := by omega
    rw [ei] at y1 y2 y3 y4 y5 y6 y7
    have hset := setS_b (S := S) hH u (H 242 i.toNat)
    have hbit := hset.2.2 (H 241 i.toNat) y4 (by omega)
    have h01 := bt_01 hset.1 hset.2.1 y4 (by omega : H 241 i.toNat < 6)
    have hat := hm.2 (H 241 i.toNat) u y4 y5 u0 u1
    have eC : bo_Standing_canBe_2 82 u kC i mC = if bt (setS H S u (H 242 i.toNat)) (H 241 i.toNat) = H 243 i.toNat then kC (i + 1) mC else some (0, mC) := by
      unfold bo_Standing_canBe_2
      rw [e82, h1, if_pos i1, if_pos (by omega), e91, y2, sightAt_eq hs y6 (by omega) u0 u1, bd_some, if_pos (by omega), bn_eq, e82, e90, y1, bt_fold, bt_fold, y3, w32_in (by omega) (by omega)]
    have eM : bo_Model_isAsSeen_2 u kM i mM = if (if atS H S u (H 241 i.toNat) = H 242 i.toNat then (1 : Int) else 0) = H 243 i.toNat then kM (i + 1) mM else some (0, mM) := by
      unfold bo_Model_isAsSeen_2 bo_Model_isAsSeen_43
      rw [m240, tn0, if_pos i1, if_pos (by omega), m241, w32_in (x := 240 * H 241 i.toNat) (by omega) (by omega), w32_in (x := 240 * H 241 i.toNat + u) (by omega) (by omega), if_pos (by omega), if_pos (by omega), hat, m242, m243, w32_in (x := i + 1) (by omega) (by omega)]
      by_cases g : atS H S u (H 241 i.toNat) = H 242 i.toNat
      · rw [if_pos g, if_pos g, if_pos (by omega)]
      · rw [if_neg g, if_neg g, if_pos (by omega)]
    have ebt : bt (setS H S u (H 242 i.toNat)) (H 241 i.toNat) = (if atS H S u (H 241 i.toNat) = H 242 i.toNat then (1 : Int) else 0) := by
      by_cases g : atS H S u (H 241 i.toNat) = H 242 i.toNat
      · rw [if_pos g]; exact hbit.mpr ⟨y5, g⟩
      · rw [if_neg g]
        have : ¬ bt (setS H S u (H 242 i.toNat)) (H 241 i.toNat) = 1 := fun z => g (hbit.mp z).2
        omega
    rw [eC, eM, ebt]
    by_cases g : (if atS H S u (H 241 i.toNat) = H 242 i.toNat then (1 : Int) else 0) = H 243 i.toNat
    · rw [if_pos g, if_pos g]
      exact Or.inr ⟨rfl, rfl⟩
    · rw [if_neg g, if_neg g]
      exact Or.inl ⟨0, rfl, rfl⟩
  · refine ⟨1, ?_, ?_⟩
    · unfold bo_Standing_canBe_2
      rw [e82, h1, if_neg (by omega)]
    · unfold bo_Model_isAsSeen_2
      rw [m240, tn0, if_neg (by omega)]
end Ec
