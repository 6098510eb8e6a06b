/-! Bits of long sets. -/
section Bl
def BB (x : Int) : BitVec 64 := (Int64.ofInt x).toBitVec
theorem BB_inj {x y : Int} (hx : okL x) (hy : okL y) (h : BB x = BB y) : x = y := by
  have e : Int64.ofInt x = Int64.ofInt y := Int64.toBitVec_inj.mp h
  rw [← toL hx, ← toL hy, e]
theorem and1 (Y : Int64) : (Y &&& 1).toInt = if Y.toBitVec.getLsbD 0 = true then 1 else 0 := by
  cases h : Y.toBitVec.getLsbD 0 with
  | false =>
    have e : Y &&& 1 = 0 := by
      rw [← Int64.toBitVec_inj, Int64.toBitVec_and]
      show Y.toBitVec &&& 1#64 = 0#64
      apply BitVec.eq_of_getLsbD_eq
      intro i hi
      cases i with
      | zero => rw [BitVec.getLsbD_and, h]; rfl
      | succ i => simp
    rw [e]
    rfl
  | true =>
    have e : Y &&& 1 = 1 := by
      rw [← Int64.toBitVec_inj, Int64.toBitVec_and]
      show Y.toBitVec &&& 1#64 = 1#64
      apply BitVec.eq_of_getLsbD_eq
      intro i hi
      cases i with
      | zero => rw [BitVec.getLsbD_and, h]; rfl
      | succ i => simp
    rw [e]
    rfl
theorem su_all : ∀ j : Nat, j < 64 → ((Int32.ofInt (j : Int)).toInt64.toUInt64 &&& Int64.toUInt64 63).toNat = j := by decide +kernel
theorem ss_all : ∀ j : Nat, j < 64 → (((Int32.ofInt (j : Int)).toInt64 &&& 63).toBitVec.smod 64).toNat = j := by decide +kernel
theorem sl_all : ∀ j : Nat, j < 64 → (Int64.ofInt (lshl 1 (j : Int))).toBitVec = BitVec.twoPow 64 j := by decide +kernel
def lb (x k : Int) : Bool := (BB x).getLsbD k.toNat
theorem lb_u {x k : Int} (k0 : 0 ≤ k) (k1 : k < 64) : land (lushr x k) 1 = if lb x k = true then 1 else 0 := by
  obtain ⟨j, hj, rfl⟩ := nn k0 (n := 64) k1
  have e1 : Int64.ofInt (lushr x (j : Int)) = ((Int64.ofInt x).toUInt64 >>> ((Int32.ofInt (j : Int)).toInt64.toUInt64 &&& Int64.toUInt64 63)).toInt64 := Int64.ofInt_toInt _
  show (Int64.ofInt (lushr x (j : Int)) &&& 1).toInt = _
  rw [e1, and1]
  have e : ((Int64.ofInt x).toUInt64 >>> ((Int32.ofInt (j : Int)).toInt64.toUInt64 &&& Int64.toUInt64 63)).toInt64.toBitVec = BB x >>> j := by
    apply BitVec.eq_of_toNat_eq
    show ((Int64.ofInt x).toUInt64 >>> _).toNat = _
    rw [UInt64.toNat_shiftRight, su_all j hj, Nat.mod_eq_of_lt hj, BitVec.toNat_ushiftRight]
    rfl
  rw [e, BitVec.getLsbD_ushiftRight]
  rfl
theorem lb_s {x k : Int} (k0 : 0 ≤ k) (k1 : k < 64) : land (lshr x k) 1 = if lb x k = true then 1 else 0 := by
  obtain ⟨j, hj, rfl⟩ := nn k0 (n := 64) k1
  have e1 : Int64.ofInt (lshr x (j : Int)) = Int64.ofInt x >>> ((Int32.ofInt (j : Int)).toInt64 &&& 63) := Int64.ofInt_toInt _
  show (Int64.ofInt (lshr x (j : Int)) &&& 1).toInt = _
  rw [e1, and1, Int64.toBitVec_shiftRight]
  have e : ((Int64.ofInt x).toBitVec.sshiftRight (((Int32.ofInt (j : Int)).toInt64 &&& 63).toBitVec.smod 64).toNat).getLsbD 0 = (BB x).getLsbD j := by
    rw [ss_all j hj, BitVec.getLsbD_sshiftRight]
    simp [hj]
    rfl
  show (if ((Int64.ofInt x).toBitVec.sshiftRight (((Int32.ofInt (j : Int)).toInt64 &&& 63).toBitVec.smod 64).toNat).getLsbD 0 = true then (1 : Int) else 0) = _
  rw [e]
  rfl
theorem BB_or (a b : Int) : BB (lor a b) = BB a ||| BB b := by
  unfold BB
  have e : Int64.ofInt (lor a b) = Int64.ofInt a ||| Int64.ofInt b := Int64.ofInt_toInt _
  rw [e, Int64.toBitVec_or]
theorem okL_lor (a b : Int) : okL (lor a b) := okL_64 _
theorem BB_shl {k : Int} (k0 : 0 ≤ k) (k1 : k < 64) : BB (lshl 1 k) = BitVec.twoPow 64 k.toNat := by
  obtain ⟨j, hj, rfl⟩ := nn k0 (n := 64) k1
  exact sl_all j hj
/-- the same walkers join each of the sets -/
def grw (x by_ : Int) : Int := fld (fun k a => if lb x k = true then lor a (lshl 1 (ior k by_)) else a) 64 0 0
theorem grw_okL (x b : Int) : okL (grw x b) := by
  have := fld_inv (f := fun k a => if lb x k = true then lor a (lshl 1 (ior k b)) else a) (fun _ a => okL a) (j := 64) (v := 0) (a := 0) okL_0 (fun t c _ _ h => by
    show okL (if lb x t = true then lor c (lshl 1 (ior t b)) else c)
    split
    · exact okL_lor _ _
    · exact h)
  exact this
theorem BB_0 : BB 0 = 0#64 := by decide
theorem grw_0 (b : Int) : grw 0 b = 0 := by
  have := fld_inv (f := fun k a => if lb 0 k = true then lor a (lshl 1 (ior k b)) else a) (fun _ a => a = 0) (j := 64) (v := 0) (a := 0) rfl (fun t c _ _ h => by
    show (if lb 0 t = true then lor c (lshl 1 (ior t b)) else c) = 0
    have e : lb 0 t = false := by unfold lb; rw [BB_0]; simp
    rw [e, if_neg (by decide)]
    exact h)
  exact this
theorem grw_self {x : Int} (hx : okL x) : grw x 0 = x := by
  have := fld_inv (f := fun k a => if lb x k = true then lor a (lshl 1 (ior k 0)) else a) (fun v a => okL a ∧ ∀ i : Nat, i < 64 → (BB a).getLsbD i = (decide ((i : Int) < v) && (BB x).getLsbD i)) (j := 64) (v := 0) (a := 0) ⟨okL_0, fun i hi => by rw [BB_0]; simp; omega⟩ (fun t c t0 t1 h => by
    obtain ⟨h1, h2⟩ := h
    show okL (if lb x t = true then lor c (lshl 1 (ior t 0)) else c) ∧ ∀ i : Nat, i < 64 → (BB (if lb x t = true then lor c (lshl 1 (ior t 0)) else c)).getLsbD i = _
    have et : ior t 0 = t := bt_or0 t0 (by omega)
    rw [et]
    by_cases g : lb x t = true
    · rw [if_pos g]
      refine ⟨okL_lor _ _, fun i hi => ?_⟩
      rw [BB_or, BitVec.getLsbD_or, h2 i hi, BB_shl t0 (by omega), BitVec.getLsbD_twoPow]
      by_cases e : i = t.toNat
      · subst e
        have g' : (BB x).getLsbD t.toNat = true := g
        have e1 : decide (((t.toNat : Nat) : Int) < t + 1) = true := by rw [decide_eq_true_eq]; omega
        rw [g', e1]
        simp
        omega
      · have e1 : decide (t.toNat = i) = false := by rw [decide_eq_false_iff_not]; exact fun z => e z.symm
        have e2 : decide ((i : Int) < t + 1) = decide ((i : Int) < t) := by
          by_cases q : (i : Int) < t
          · rw [decide_eq_true q, decide_eq_true (by omega)]
          · rw [decide_eq_false q, decide_eq_false (by omega)]
        rw [e1, e2]
        simp
    · rw [if_neg g]
      refine ⟨h1, fun i hi => ?_⟩
      rw [h2 i hi]
      by_cases e : i = t.toNat
      · subst e
        have g' : (BB x).getLsbD t.toNat = false := by
          cases z : (BB x).getLsbD t.toNat with
          | false => rfl
          | true => exact absurd z g
        rw [g', Bool.and_false, Bool.and_false]
      · have e2 : decide ((i : Int) < t + 1) = decide ((i : Int) < t) := by
          by_cases q : (i : Int) < t
          · rw [decide_eq_true q, decide_eq_true (by omega)]
          · rw [decide_eq_false q, decide_eq_false (by omega)]
        rw [e2])
  obtain ⟨h1, h2⟩ := this
  refine BB_inj h1 hx ?_
  apply BitVec.eq_of_getLsbD_eq
  intro i hi
  unfold grw
  rw [h2 i hi, decide_eq_true (by omega)]
  rfl
theorem lb_if0 {x k : Int} (k0 : 0 ≤ k) (k1 : k < 64) : lcm (land (lushr x k) 1) 0 = 0 ↔ lb x k = false := by
  rw [lcm_0, lb_u k0 k1]
  cases lb x k <;> simp
theorem lb_if1 {x k : Int} (k0 : 0 ≤ k) (k1 : k < 64) : lcm (land (lshr x k) 1) 1 = 0 ↔ lb x k = true := by
  rw [lcm_0, lb_s k0 k1]
  cases lb x k <;> simp
theorem m_grown {x b : Int} {d : Mm} : fn_Model_grown x b d = some (grw x b, d) := by
  unfold fn_Model_grown
  rw [lp_fld (lp := lp_Model_grown_5 x b) (bo := bo_Model_grown_5 x b) (fun _ => rfl) (N := 64) (f := fun k a => if lb x k = true then lor a (lshl 1 (ior k b)) else a) (o := fun a => some (a, d)) (fun k v a v0 v1 => ?_) (fun k a => ?_) 64 FU 0 0 (by omega) (by omega) (by decide)]
  · rfl
  · unfold bo_Model_grown_5 bo_Model_grown_32
    rw [if_pos v1, w32_in (x := v + 1) (by omega) (by omega)]
    by_cases g : lb x v = true
    · rw [if_pos ((lb_if1 v0 v1).mpr g), if_pos g, bn_eq]
    · rw [if_neg (fun z => g ((lb_if1 v0 v1).mp z)), if_neg g]
  · unfold bo_Model_grown_5
    rw [if_neg (by omega)]
theorem c_join {x b : Int} {c : Mm} (hx : okL x) : fn_Sight_join x b c = some (grw x b, c) := by
  unfold fn_Sight_join
  by_cases g1 : x = 0
  · subst g1
    rw [if_pos (lcm_0.mpr rfl), grw_0]
  · rw [if_neg (fun z => g1 (lcm_0.mp z))]
    by_cases g2 : b = 0
    · subst g2
      rw [if_pos rfl, grw_self hx]
    · rw [if_neg g2]
      rw [lp_fld (lp := lp_Sight_join_17 x b) (bo := bo_Sight_join_17 x b) (fun _ => rfl) (N := 64) (f := fun k a => if lb x k = true then lor a (lshl 1 (ior k b)) else a) (o := fun a => some (a, c)) (fun k v a v0 v1 => ?_) (fun k a => ?_) 64 FU 0 0 (by omega) (by omega) (by decide)]
      · rfl
      · unfold bo_Sight_join_17 bo_Sight_join_44
        rw [if_pos v1, w32_in (x := v + 1) (by omega) (by omega)]
        by_cases g : lb x v = true
        · rw [if_neg (fun z => by rw [(lb_if0 v0 v1).mp z] at g; cases g), if_pos g, bn_eq]
        · rw [if_pos ((lb_if0 v0 v1).mpr (by cases z : lb x v with | false => rfl | true => exact absurd z g)), if_neg g]
      · unfold bo_Sight_join_17
        rw [if_neg (by omega)]
end Bl
