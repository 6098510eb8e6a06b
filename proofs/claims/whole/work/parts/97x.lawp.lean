/-! Reading a law: an operator and what stands behind it. -/
section Lp
def SemL (L D : Int) : (Nat → Int) → Int → Int → VL → Prop := if L = 4 then SemP D else if L = 3 then SemT D else if L = 2 then SemS D else if L = 1 then SemE D else SemA D
def hh (L dp : Int) : Int := 4 * (5 - dp) + 1 + (4 - L)
def rowM (d : Mm) : Nat → Int := fun t => d 223 (1000 + t)
def NoL (L : Int) (c d : Mm) (dp : Int) : Prop := (L ≤ 3 → opr 3 c = -1) ∧ (L ≤ 2 → opr 2 c = -1) ∧ (L ≤ 1 → opr 1 c = -1 ∨ d 225 dp.toNat = 1) ∧ (L ≤ 0 → opr 0 c = -1)
def cbL (L dp : Int) : Int := if L ≤ 1 then dp else dp + 1
def LSuc (th : Nat) (L dp b i x : Int) (k : Nat) (c d : Mm) (oc om : Res) : Prop := ∃ (c' d' : Mm) (k' : Nat) (i' x' : Int) (v : VL), oc = some (1, c') ∧ om = lp_Model_reads_11 k' b 0 d' ∧ FXc (PL th i) c c' ∧ FXm (QL x dp (cbL L dp)) d d' ∧ TkR c' d' ∧ c' 1 1 = c 1 1 ∧ (c' th 2 = i' ∧ d' 203 29 = 1000 + x') ∧ (i' - i ≤ c' 1 7 - c 1 7 ∧ x' - x ≤ c' 1 7 - c 1 7 ∧ (k : Int) + c 1 7 ≤ k' + c' 1 7) ∧ SemC th (c' (th + 1)) i i' (hh L dp) v ∧ SemL L dp (rowM d') x x' v ∧ rngV v ∧ NoL L c' d' dp
def LFai (th : Nat) (c d : Mm) (oc om : Res) : Prop := ∃ c' d', oc = some (0, c') ∧ om = some (0, d') ∧ FXc (PL th 0) c c' ∧ FXm (QL 0 (-1) (-1)) d d' ∧ Wr c' d'
def LPre (th : Nat) (c d : Mm) (i x : Int) (k : Nat) (dp : Int) : Prop := TkR c d ∧ (c th 2 = i ∧ 0 ≤ i ∧ i ≤ c 1 7) ∧ (d 203 29 = 1000 + x ∧ 0 ≤ x ∧ x ≤ c 1 7) ∧ (1100 : Int) ≤ k + c 1 7 ∧ 0 ≤ dp ∧ dp ≤ 5
def HLv (kr0 : Nat → Int → Int → Mm → Res) (th : Nat) (L dp : Int) : Prop := ∀ (c d : Mm) (i x : Int) (k : Nat), LPre th c d i x k dp → (dp = 0 ∨ d 224 dp.toNat ≠ 1) → (L ≤ 1 → d 225 dp.toNat = 0) → LSuc th L dp dp i x k c d (kr0 th L dp c) (lp_Model_reads_11 k dp 1 d) ∨ LFai th c d (kr0 th L dp c) (lp_Model_reads_11 k dp 1 d)
theorem PL_mono {th : Nat} {i i' : Int} (h : i' ≤ i) : ∀ a j, PL th i a j → PL th i' a j := fun a j z => by unfold PL at z ⊢; omega
theorem QL_mono {x x' dp dp' cb cb' : Int} (h : x' ≤ x) (h1 : dp' ≤ dp) (h2 : cb' ≤ cb) : ∀ a j, QL x dp cb a j → QL x' dp' cb' a j := fun a j z => by unfold QL at z ⊢; omega
theorem LFai_tr {th : Nat} {c d c1 d1 : Mm} {oc om : Res} {i x dp cb : Int} (g : FXc (PL th i) c c1) (g' : FXm (QL x dp cb) d d1) (i0 : 0 ≤ i) (x0 : 0 ≤ x) (d0 : 0 ≤ dp) (c0 : 0 ≤ cb) (h : LFai th c1 d1 oc om) : LFai th c d oc om := by
  obtain ⟨c', d', e1, e2, f1, f2, w⟩ := h
  exact ⟨c', d', e1, e2, FXc_trans (FXc_mono g (PL_mono i0)) f1, FXm_trans (FXm_mono g' (QL_mono x0 (by omega) (by omega))) f2, w⟩
theorem opr_congr {c c' : Mm} {L : Int} (e1 : c' 1 = c 1) (e2 : c' 2 = c 2) : opr L c' = opr L c := by
  unfold opr sb
  rw [e1, e2]
theorem NoL_congr {L dp : Int} {c c' d d' : Mm} (h : NoL L c d dp) (e1 : c' 1 = c 1) (e2 : c' 2 = c 2) (e3 : d' 225 dp.toNat = d 225 dp.toNat) : NoL L c' d' dp := by
  unfold NoL at h ⊢
  rw [opr_congr e1 e2, opr_congr e1 e2, opr_congr e1 e2, opr_congr e1 e2, e3]
  exact h
theorem opr_r {L : Int} {c : Mm} (l0 : 0 ≤ L) (l3 : L ≤ 3) (h : opr L c ≠ -1) : (L = 0 ∧ (opr L c = -6 ∨ opr L c = -7)) ∨ (L = 1 ∧ (opr L c = -8 ∨ opr L c = -9)) ∨ (L = 2 ∧ (opr L c = -10 ∨ opr L c = -11)) ∨ (L = 3 ∧ opr L c = -12) := by
  have hL : L = 0 ∨ L = 1 ∨ L = 2 ∨ L = 3 := by omega
  rcases hL with rfl | rfl | rfl | rfl
  · left
    refine ⟨rfl, ?_⟩
    unfold opr at h ⊢
    rw [if_pos rfl] at h ⊢
    by_cases y : c 1 2 = -26
    · rw [if_pos y]; exact Or.inl rfl
    · rw [if_neg y] at h ⊢
      by_cases z : c 1 2 = -27
      · rw [if_pos z]; exact Or.inr rfl
      · rw [if_neg z] at h; exact absurd rfl h
  · right; left
    refine ⟨rfl, ?_⟩
    unfold opr at h ⊢
    rw [if_neg (by decide), if_pos rfl] at h ⊢
    by_cases y : sb 60 c = 0
    · rw [if_pos y] at h ⊢
      by_cases z : sb 61 c = 0
      · rw [if_pos z] at h; exact absurd rfl h
      · rw [if_neg z]; exact Or.inr rfl
    · rw [if_neg y]; exact Or.inl rfl
  · right; right; left
    refine ⟨rfl, ?_⟩
    unfold opr at h ⊢
    rw [if_neg (by decide), if_neg (by decide), if_pos rfl] at h ⊢
    by_cases y : sb 43 c = 0
    · rw [if_pos y] at h ⊢
      by_cases z : sb 45 c = 0
      · rw [if_pos z] at h; exact absurd rfl h
      · rw [if_neg z]; exact Or.inr rfl
    · rw [if_neg y]; exact Or.inl rfl
  · right; right; right
    refine ⟨rfl, ?_⟩
    unfold opr at h ⊢
    rw [if_neg (by decide), if_neg (by decide), if_neg (by decide)] at h ⊢
    by_cases y : sb 42 c = 0
    · rw [if_pos y] at h; exact absurd rfl h
    · rw [if_neg y]
theorem SemL_lt {L D a b : Int} {r : Nat → Int} {v : VL} (h : SemL L D r a b v) : a < b := by
  unfold SemL at h
  split at h
  · exact h.1
  · split at h
    · exact h.1
    · split at h
      · exact h.1
      · split at h
        · exact h.1
        · exact h.1
theorem SemL_congr {L D a b : Int} {r r' : Nat → Int} {v : VL} (h : SemL L D r a b v) (e : ∀ t : Int, a ≤ t → t < b → r' t.toNat = r t.toNat) : SemL L D r' a b v := by
  unfold SemL at h ⊢
  by_cases z4 : L = 4
  · rw [if_pos z4] at h ⊢; exact SemP_congr h e
  · rw [if_neg z4] at h ⊢
    by_cases z3 : L = 3
    · rw [if_pos z3] at h ⊢; exact SemX_congr h e
    · rw [if_neg z3] at h ⊢
      by_cases z2 : L = 2
      · rw [if_pos z2] at h ⊢; exact SemX_congr h e
      · rw [if_neg z2] at h ⊢
        by_cases z1 : L = 1
        · rw [if_pos z1] at h ⊢; exact SemX_congr h e
        · rw [if_neg z1] at h ⊢; exact SemX_congr h e
theorem SemL_4 {D : Int} : SemL 4 D = SemP D := rfl
theorem SemL_3 {D : Int} : SemL 3 D = SemT D := rfl
theorem SemL_2 {D : Int} : SemL 2 D = SemS D := rfl
theorem SemL_1 {D : Int} : SemL 1 D = SemE D := rfl
theorem SemL_0 {D : Int} : SemL 0 D = SemA D := rfl
theorem rng_wor {co : Int} {v w : VL} : rngV (fun o s y => wor co (v o s y) (w o s y)) := by
  intro o s y _
  have r01 : ∀ z : Int, z = 0 ∨ z = 1 → w32 z = z := fun z hz => w32_in (by omega) (by omega)
  show w32 (wor co (v o s y) (w o s y)) = wor co (v o s y) (w o s y)
  generalize v o s y = a
  generalize w o s y = b
  unfold wor
  split
  · apply r01
    split
    · omega
    · split <;> omega
  · split
    · apply r01
      split
      · split <;> omega
      · omega
    · split
      · apply r01
        split <;> omega
      · split
        · apply r01
          split <;> omega
        · split
          · exact w32_id (okI_w _)
          · split
            · exact w32_id (okI_w _)
            · exact w32_id (okI_w _)
theorem one_op {kr0 : Nat → Int → Int → Mm → Res} {kr1 : Nat → Int → Mm → Res} {th : Nat} {L dp i x : Int} {k : Nat} {c d : Mm} (hth : th = 14 ∨ th = 51) (l0 : 0 ≤ L) (l3 : L ≤ 3) (HL : HLv kr0 th (L + 1) dp) (P : LPre th c d i x k dp) (hB : dp = 0 ∨ d 224 dp.toNat ≠ 1) (hop : opr L c ≠ -1) (hcmp : L = 1 → d 225 dp.toNat = 0) (k29 : Int → Mm → Res) (v4 : Int) :
    (∃ (c' d' : Mm) (k' : Nat) (i' x' : Int) (v : VL), bo_Law_readLevel_62 kr0 kr1 th L dp k29 v4 (opr L c) c = k29 (w32 (v4 + 1)) c' ∧ lp_Model_reads_11 k dp 0 d = lp_Model_reads_11 k' dp 0 d' ∧ FXc (PL th i) c c' ∧ FXm (QL x dp (cbL L dp)) d d' ∧ TkR c' d' ∧ c' 1 1 = c 1 1 ∧ (c' th 2 = i' + 1 ∧ d' 203 29 = 1000 + x') ∧ (i' + 1 - i ≤ c' 1 7 - c 1 7 ∧ x' - x ≤ c' 1 7 - c 1 7 ∧ (k : Int) + c 1 7 ≤ k' + c' 1 7 ∧ c 1 7 < c' 1 7) ∧ SemC th (c' (th + 1)) i i' (hh (L + 1) dp) v ∧ c' (th + 1) i'.toNat = opr L c ∧ SemL (L + 1) dp (rowM d') (x + 1) x' v ∧ rowM d' x.toNat = mop (opr L c) ∧ NoL (L + 1) c' d' dp ∧ (L = 1 → d' 225 dp.toNat = 1))
    ∨ LFai th c d (bo_Law_readLevel_62 kr0 kr1 th L dp k29 v4 (opr L c) c) (lp_Model_reads_11 k dp 0 d) := by
  obtain ⟨hT, ⟨i2, i0, i7⟩, ⟨x29, x0, x7⟩, hk, dp0, dp5⟩ := P
  have h1000 : c 1 7 ≤ 1000 := by
    have := hT.1.2.2.1
    have := hT.2.2.2.2
    omega
  obtain ⟨kk, rfl⟩ : ∃ t, k = t + 1 := ⟨k - 1, by omega⟩
  obtain ⟨c2, d2, u1, u2, u3, u4, u5, u6, u7, u8, u9, u10, u11⟩ := op_step (k := kk) hT l0 l3 hop dp0 (by omega) hcmp x29 x0 x7
  unfold bo_Law_readLevel_62
  rw [u1, bd_some, u2, w32_in (x := L + 1) (by omega) (by omega)]
  have eth : ∀ a, a ≠ 1 → c2 a = c a := u4.1
  have cb0 : 0 ≤ (if L ≤ 1 then dp else dp + 1) := by split <;> omega
  have e224 : ∀ j : Nat, (j : Int) ≤ dp → d2 224 j = d 224 j := fun j hj => gm u8 (by omega) (by unfold QL; omega)
  have P2 : LPre th c2 d2 i (x + 1) kk dp := ⟨u3, ⟨by rw [eth _ (by omega)]; exact i2, i0, by omega⟩, ⟨u9, by omega, by omega⟩, by omega, dp0, dp5⟩
  rcases HL c2 d2 i (x + 1) kk P2 (hB.imp id (fun z => by rw [e224 _ (by omega)]; exact z)) (fun hl => by rw [u11, if_pos (by omega)]) with ⟨c3, d3, k3, i3, x3, v, w1, w2, w3, w4, w5, w6, ⟨w7, w8⟩, ⟨w9, w10, w11⟩, w12, w13, w14, w15⟩ | hf
  · left
    have hi3 := w12.1
    have c3r : c3 1 7 ≤ 1000 := by
      have := w5.1.2.2.1
      have := w5.2.2.2.2
      omega
    rw [w1, w2, bd_some, if_neg (by decide : ¬ (1 : Int) = 0), put_eq (z := opr L c) w7 (by omega) (by omega), bd_some]
    have e1 : mst (mst c3 (th + 1) i3.toNat (opr L c)) th 2 (i3 + 1) 1 = c3 1 := by rw [mst_ne (by omega), mst_ne (by omega)]
    have e2 : mst (mst c3 (th + 1) i3.toNat (opr L c)) th 2 (i3 + 1) 2 = c3 2 := by rw [mst_ne (by omega), mst_ne (by omega)]
    have ecb : cbL (L + 1) dp = dp + 1 ∨ (L = 0 ∧ cbL (L + 1) dp = dp) := by
      unfold cbL
      by_cases z : L = 0
      · right; rw [if_pos (by omega)]; exact ⟨z, rfl⟩
      · left; rw [if_neg (by omega)]
    have ecl : cbL L dp = (if L ≤ 1 then dp else dp + 1) := rfl
    refine ⟨_, d3, k3, i3, x3, v, rfl, rfl, ?_, ?_, Tk_congr w5 e1 e2 rfl rfl, ?_, ⟨mst_hit, w8⟩, ⟨?_, ?_, ?_, ?_⟩, ?_, ?_, w13, ?_, NoL_congr w15 e1 e2 rfl, fun hl => ?_⟩
    · exact FXc_trans (FXc_trans (FXc_trans (FXc_p u4) w3) (FXc_m (Or.inr ⟨rfl, by omega⟩))) (FXc_m (Or.inl ⟨rfl, rfl⟩))
    · refine FXm_trans u8 (FXm_mono w4 (QL_mono (by omega) (Int.le_refl _) ?_))
      split at ecl
      · omega
      · omega
    · rw [e1, w6, u5]
    · rw [e1]; omega
    · rw [e1]; omega
    · rw [e1]; omega
    · rw [e1]; omega
    · refine SemC_congr w12 i0 (fun t t0 t1 => ?_)
      rw [mst_ne (by omega), mst_miss (by omega)]
    · rw [mst_ne (by omega), mst_hit]
    · show d3 223 (1000 + x.toNat) = _
      have ex : 1000 + x.toNat = (1000 + x).toNat := by omega
      rw [ex, gm w4 (by omega) (by unfold QL; omega)]
      exact u10
    · have : d3 225 dp.toNat = d2 225 dp.toNat := gm w4 (by omega) (by unfold QL; omega)
      rw [this, u11, if_neg (by omega), if_pos hl]
  · right
    refine LFai_tr (i := i) (x := x) (dp := dp) (cb := if L ≤ 1 then dp else dp + 1) (FXc_p u4) u8 i0 x0 dp0 cb0 ?_
    obtain ⟨c', d', w1, w2, w3⟩ := hf
    rw [w1, w2, bd_some, if_pos rfl]
    exact ⟨c', d', rfl, rfl, w3⟩
end Lp
