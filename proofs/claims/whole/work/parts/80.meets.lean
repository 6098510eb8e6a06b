/-! Meetings of a day. -/
section Me
variable {f : Int → Int → Int → Int} {H : Mm} {S : Nat → Int} {hc sc : Nat} {m : Mm}
theorem fmS_r (a b : Int) : fmS H S a b = -1 ∨ (0 ≤ fmS H S a b ∧ fmS H S a b < 240) := by
  have := fst_rng (P := fun t => decide (0 ≤ atS H S t a) && decide (atS H S t a = atS H S t b)) (j := 240) (v := 0) (by omega)
  unfold fmS
  omega
theorem up_snoc (n a acc : Int) {b : Int} (h0 : a + 1 ≤ b) (h1 : b < n) : fld (fun b acc' => acc' + gfS H S a b) (b + 1 - (a + 1)).toNat (a + 1) acc = fld (fun b acc' => acc' + gfS H S a b) (b - (a + 1)).toNat (a + 1) acc + gfS H S a b := by
  have e : (b + 1 - (a + 1)).toNat = (b - (a + 1)).toNat + 1 := by omega
  rw [e, fld_snoc]
  have e2 : a + 1 + ((b - (a + 1)).toNat : Int) = b := by omega
  rw [e2]
theorem acc_r (n : Int) (h0 : 0 ≤ n) (h1 : n ≤ 6) (F : Int → Int → Int) (hF : ∀ a acc, 0 ≤ a → a < 6 → acc ≤ F a acc ∧ F a acc ≤ acc + 6) : 0 ≤ fld F n.toNat 0 0 ∧ fld F n.toNat 0 0 ≤ 6 * n := by
  have := fld_inv (f := F) (fun v a => 0 ≤ a ∧ a ≤ 6 * v) (j := n.toNat) (v := 0) (a := 0) (by omega) (fun t b t0 t1 hb => by
    have := hF t b t0 (by omega)
    omega)
  have e : (0 : Int) + (n.toNat : Int) = n := by omega
  rw [e] at this
  exact this
theorem meetings_eq (hb : WB f H S hc sc m) : fn_Walk_meetings m = some (mtC H S, m) := by
  have hn := hb.1.1
  obtain ⟨k0, k6, e0, e1⟩ := WB_k hb
  have hp : m hc 1 = H 205 1 := hb.2.2.2.1.2.2.1
  have hr : ∀ v : Int, 0 ≤ v → v ≤ 6 → 0 ≤ fld (fun a acc => fld (fun b acc' => acc' + gfS H S a b) (H 205 1 - (a + 1)).toNat (a + 1) acc) v.toNat 0 0 ∧ fld (fun a acc => fld (fun b acc' => acc' + gfS H S a b) (H 205 1 - (a + 1)).toNat (a + 1) acc) v.toNat 0 0 ≤ 6 * v := fun v v0 v1 => acc_r v v0 v1 _ (fun a acc a0 a1 => by
    have := fld_add (g := gfS H S a) (gfS_r a) (H 205 1 - (a + 1)).toNat (a + 1) acc
    omega)
  refine TT_eq ?_
  unfold fn_Walk_meetings
  refine lp_inv2 (bo := bo_Walk_meetings_4) (fun _ => rfl) (fun x i m' => m' = m ∧ 0 ≤ i ∧ i ≤ H 205 1 ∧ x = fld (fun a acc => fld (fun b acc' => acc' + gfS H S a b) (H 205 1 - (a + 1)).toNat (a + 1) acc) i.toNat 0 0) (fun _ i _ => (6 - i).toNat) ?_ FU 0 0 m ⟨rfl, by omega, by omega, rfl⟩ (by decide)
  intro k x i m' hI hk
  obtain ⟨rfl, i0, i1, ex⟩ := hI
  unfold bo_Walk_meetings_4
  rw [e0]
  simp only [Int.toNat_natCast]
  rw [if_pos k0]
  simp only [hp]
  refine TT_if (fun c => ?_) (fun c => ?_)
  · simp (disch := omega) only [bn_eq, w32_in]
    have hx := hr i i0 (by omega)
    rw [← ex] at hx
    refine lp_inv3 (bo := bo_Walk_meetings_19 k) (fun _ => rfl) (fun y v b m2 => m2 = m' ∧ v = i ∧ i + 1 ≤ b ∧ b ≤ H 205 1 ∧ y = fld (fun b acc' => acc' + gfS H S i b) (b - (i + 1)).toNat (i + 1) x) (fun _ _ b _ => (6 - b).toNat) ?_ FU x i (i + 1) m' ⟨rfl, rfl, by omega, by omega, by rw [Int.sub_self]; rfl⟩ (by show (6 - (i + 1)).toNat < 2000; omega)
    intro k19 y v b m2 hI hk19
    obtain ⟨rfl, rfl, b0, b1, ey⟩ := hI
    have hy := fld_add (g := gfS H S v) (gfS_r v) (b - (v + 1)).toNat (v + 1) x
    rw [← ey] at hy
    unfold bo_Walk_meetings_19
    rw [e0]
    simp only [Int.toNat_natCast]
    rw [if_pos k0]
    simp only [hp]
    refine TT_if (fun d => ?_) (fun d => ?_)
    · rw [firstMeeting_eq hb.1 hb.2.1 hb.2.2.2.1 hb.2.2.1 i0 c (by omega) d, bd_some]
      have hr2 := fmS_r (H := H) (S := S) v b
      unfold bo_Walk_meetings_43
      refine TT_if (fun g => ?_) (fun g => ?_)
      · simp (disch := omega) only [w32_in]
        refine hk19 _ _ _ _ ⟨rfl, rfl, by omega, by omega, ?_⟩ (by omega)
        rw [up_snoc (H 205 1) v x b0 d, ← ey]
        unfold gfS
        rw [if_pos (by omega)]
        omega
      · simp (disch := omega) only [w32_in]
        refine hk19 _ _ _ _ ⟨rfl, rfl, by omega, by omega, ?_⟩ (by omega)
        rw [up_snoc (H 205 1) v x b0 d, ← ey]
        unfold gfS
        rw [if_neg (by omega)]
    · have e : b = H 205 1 := by omega
      unfold bo_Walk_meetings_49
      simp (disch := omega) only [w32_in]
      refine hk _ _ _ ⟨rfl, by omega, by omega, ?_⟩ (by omega)
      rw [fld_up i0, ← ex, ey, e]
  · have e : i = H 205 1 := by omega
    exact TT_some.mpr ⟨by rw [ex, e]; rfl, rfl⟩
theorem m_meetings (hH : HD H) (hm : MO H S m) : fn_Model_meetings m = some (mtS' H S, m) := by
  have hn := hH.1
  have e205 : m 205 = H 205 := hm.1 205 (by omega) (by omega)
  have hr : ∀ v : Int, 0 ≤ v → v ≤ 6 → 0 ≤ fld (fun a acc => fld (fun b acc' => acc' + gfS H S a b) a.toNat 0 acc) v.toNat 0 0 ∧ fld (fun a acc => fld (fun b acc' => acc' + gfS H S a b) a.toNat 0 acc) v.toNat 0 0 ≤ 6 * v := fun v v0 v1 => acc_r v v0 v1 _ (fun a acc a0 a1 => by
    have := fld_add (g := gfS H S a) (gfS_r a) a.toNat 0 acc
    omega)
  refine TT_eq ?_
  unfold fn_Model_meetings
  refine lp_inv2 (bo := bo_Model_meetings_4) (fun _ => rfl) (fun x i m' => m' = m ∧ 0 ≤ i ∧ i ≤ H 205 1 ∧ x = fld (fun a acc => fld (fun b acc' => acc' + gfS H S a b) a.toNat 0 acc) i.toNat 0 0) (fun _ i _ => (6 - i).toNat) ?_ FU 0 0 m ⟨rfl, by omega, by omega, rfl⟩ (by decide)
  intro k x i m' hI hk
  obtain ⟨rfl, i0, i1, ex⟩ := hI
  unfold bo_Model_meetings_4
  rw [e205, tn1]
  refine TT_if (fun c => ?_) (fun c => ?_)
  · have hx := hr i i0 (by omega)
    rw [← ex] at hx
    refine lp_inv3 (bo := bo_Model_meetings_16 k) (fun _ => rfl) (fun y v b m2 => m2 = m' ∧ v = i ∧ 0 ≤ b ∧ b ≤ i ∧ y = fld (fun b acc' => acc' + gfS H S i b) b.toNat 0 x) (fun _ _ b _ => (6 - b).toNat) ?_ FU x i 0 m' ⟨rfl, rfl, by omega, by omega, rfl⟩ (by decide)
    intro k16 y v b m2 hI hk16
    obtain ⟨rfl, rfl, b0, b1, ey⟩ := hI
    have hy := fld_add (g := gfS H S v) (gfS_r v) b.toNat 0 x
    rw [← ey] at hy
    unfold bo_Model_meetings_16
    refine TT_if (fun d => ?_) (fun d => ?_)
    · rw [m_firstMeeting hH hm i0 c b0 (by omega), bd_some]
      have es : fld (fun b acc' => acc' + gfS H S v b) (b + 1).toNat 0 x = y + gfS H S v b := by
        have e : (b + 1).toNat = b.toNat + 1 := by omega
        have e2 : (0 : Int) + (b.toNat : Int) = b := by omega
        rw [e, fld_snoc, e2, ← ey]
      unfold bo_Model_meetings_36
      refine TT_if (fun g => ?_) (fun g => ?_)
      · simp (disch := omega) only [bn_eq, w32_in]
        refine hk16 _ _ _ _ ⟨rfl, rfl, by omega, by omega, ?_⟩ (by omega)
        rw [es]
        unfold gfS
        rw [if_pos g]
      · simp (disch := omega) only [bn_eq, w32_in]
        refine hk16 _ _ _ _ ⟨rfl, rfl, by omega, by omega, ?_⟩ (by omega)
        rw [es]
        unfold gfS
        rw [if_neg g]
    · have e : b = v := by omega
      subst e
      unfold bo_Model_meetings_44
      simp (disch := omega) only [w32_in]
      refine hk _ _ _ ⟨rfl, by omega, by omega, ?_⟩ (by omega)
      rw [fld_up i0, ← ex, ey]
  · have e : i = H 205 1 := by omega
    exact TT_some.mpr ⟨by rw [ex, e]; rfl, rfl⟩
theorem mt_r (hH : HD H) : 0 ≤ mtS' H S ∧ mtS' H S ≤ 36 := by
  have hn := hH.1
  have := acc_r (H 205 1) hn.2.2.1 hn.2.2.2.1 (fun a acc => fld (fun b acc' => acc' + gfS H S a b) a.toNat 0 acc) (fun a acc a0 a1 => by
    have := fld_add (g := gfS H S a) (gfS_r a) a.toNat 0 acc
    omega)
  unfold mtS'
  omega
end Me
