/-! Places and paths are told. -/
section Pl
variable {P Q : Nat → Nat → Prop} {hc : Nat}
theorem HR_wk {c c' d d' : Mm} {n : Int} (h : ∀ w : Int, 0 ≤ w → w < n → WkR c hc d w) (g : FXc P c c') (g' : FXm Q d d') (h1 : hc = 4 ∨ hc = 41) (hP : ∀ a j : Nat, hc + 13 ≤ a → (a : Int) < hc + 13 + 4 * n → ¬ P a j) (hQ1 : ∀ a j : Nat, (210 ≤ a ∧ a ≤ 213) ∨ a = 215 → (j : Int) < 6 + n → ¬ Q a j) (hQ2 : ∀ j : Nat, (j : Int) < 24 + 4 * n → ¬ Q 214 j) (hQ3 : ∀ a j : Nat, a = 216 ∨ a = 217 → (j : Int) < 36 + 6 * n → ¬ Q a j) (f4 : d 205 5 ≤ d' 205 5) (f5 : d 205 6 ≤ d' 205 6) : ∀ w : Int, 0 ≤ w → w < n → WkR c' hc d' w := fun w w0 w1 => by
  refine WkR_congr (h w w0 w1) (fun j _ => ?_) (fun i i0 i1 j => ?_) (fun a a0 a1 => ?_) (fun i i0 i1 => ?_) (fun p p0 p1 => ⟨?_, ?_⟩) f4 f5
  · exact gc g (by omega) (hP _ _ (by omega) (by omega))
  · exact gc g (by omega) (hP _ _ (by omega) (by omega))
  · exact gm g' (by omega) (hQ1 _ _ (by omega) (by omega))
  · exact gm g' (by omega) (hQ2 _ (by omega))
  · exact gm g' (by omega) (hQ3 _ _ (by omega) (by omega))
  · exact gm g' (by omega) (hQ3 _ _ (by omega) (by omega))
theorem HR_ho {c c' d d' : Mm} {n : Int} (h : ∀ w : Int, 0 ≤ w → w < n → HoR c hc d w) (g : FXc P c c') (g' : FXm Q d d') (h1 : hc = 4 ∨ hc = 41) (hP : ∀ a j : Nat, hc + 7 ≤ a → a ≤ hc + 9 → (j : Int) < n → ¬ P a j) (hQ1 : ∀ a j : Nat, 218 ≤ a → a ≤ 220 → (j : Int) < 6 + n → ¬ Q a j) (f4 : d 205 5 ≤ d' 205 5) (f5 : d 205 6 ≤ d' 205 6) : ∀ w : Int, 0 ≤ w → w < n → HoR c' hc d' w := fun w w0 w1 => by
  refine HoR_congr (h w w0 w1) (fun i i0 i1 => ?_) (fun a a0 a1 => ?_) f4 f5
  · exact gc g (by omega) (hP _ _ (by omega) (by omega) (by omega))
  · exact gm g' (by omega) (hQ1 _ _ (by omega) (by omega) (by omega))
theorem HR_lw {c c' d d' : Mm} (h : LwR c hc d) (g : FXc P c c') (g' : FXm Q d d') (h1 : hc = 4 ∨ hc = 41) (hP : ∀ a j, (a = 3 ∨ a = hc + 10 ∨ a = hc + 11) → ¬ P a j) (hQ : ∀ a j, (a = 203 ∧ j = 29) ∨ (221 ≤ a ∧ a ≤ 223) → ¬ Q a j) : LwR c' hc d' :=
  LwR_congr h (gc g (by omega) (hP _ _ (by omega))) (gc g (by omega) (hP _ _ (by omega))) (gcr g (by omega) (fun j => hP _ _ (by omega))) (gm g' (by omega) (hQ _ _ (by omega))) (gm g' (by omega) (hQ _ _ (by omega))) (gm g' (by omega) (hQ _ _ (by omega))) (fun j _ => gm g' (by omega) (hQ _ _ (by omega)))
theorem beg_no {c d : Mm} (h : TkR c d) (hH : HR hc c d) : ∃ c' d', fn_Tape_wrong 5 c = some (0, c') ∧ fn_Model_fails 5 d = some (0, d') ∧ LR hc c d (some (0, c')) (some (0, d')) := by
  obtain ⟨c', d', w1, w2, w3, w4, w5⟩ := wrong_ok (p := 5) h (by omega) (by omega)
  exact ⟨c', d', w1, w2, 0, c', d', rfl, rfl, FXc_p w3, FXm_p w4, Or.inr ⟨rfl, w5⟩⟩
theorem wrong_no {c0 d0 c d : Mm} {p : Int} (h : SX P Q c0 d0 c d) (hP : ∀ a j, P a j → PH hc a j) (hQ : ∀ a j, Q a j → QH a j) (p0 : 1 ≤ p) (p1 : p ≤ 5) : ∃ c' d', fn_Tape_wrong p c = some (0, c') ∧ fn_Model_fails p d = some (0, d') ∧ LR hc c0 d0 (some (0, c')) (some (0, d')) := by
  obtain ⟨c', d', w1, w2, w3, w4, w5⟩ := wrong_ok (p := p) h.2.2.1 p0 p1
  exact ⟨c', d', w1, w2, LR_fail h hP hQ w3 w4 w5⟩
/-- the same, where the number of places may change -/
def PH0 (hc : Nat) (a j : Nat) : Prop := (a = 3 ∧ j = 2) ∨ (hc ≤ a ∧ a ≤ hc + 36)
def LR0 (hc : Nat) (c0 d0 : Mm) (oc om : Res) : Prop := ∃ r c' d', oc = some (r, c') ∧ om = some (r, d') ∧ FXc (PH0 hc) c0 c' ∧ FXm QH d0 d' ∧ (0 ≤ c' hc 0 ∧ c' hc 0 ≤ 6) ∧ ((r = 1 ∧ TkR c' d' ∧ c' 1 1 = c0 1 1 ∧ HR hc c' d' ∧ c0 1 7 < c' 1 7) ∨ (r = 0 ∧ Wr c' d'))
theorem PH_0 : ∀ a j, PH hc a j → PH0 hc a j := fun a j z => by unfold PH at z; unfold PH0; omega
theorem LR0_of {c0 d0 : Mm} {oc om : Res} (hH : HR hc c0 d0) (h : LR hc c0 d0 oc om) : LR0 hc c0 d0 oc om := by
  obtain ⟨r, c', d', e1, e2, e3, e4, e5⟩ := h
  have h1 := hH.1
  have n := hH.2.2.1.2.2.2.1
  refine ⟨r, c', d', e1, e2, FXc_mono e3 PH_0, e4, ?_, e5⟩
  rw [gc e3 (by omega) (by unfold PH; omega)]
  exact n
/-- the class's line: its number, then the rest -/
def clN (n : Int) (rest : Mm → Res) (c : Mm) : Res := bd (fn_HillsReader_canBegin n c) fun r m => if r = 0 then some (0, m) else bd (rest m) fun r m => if r = 0 then some (0, m) else some (1, m)
theorem LR_wrap {c0 d0 : Mm} {oc om : Res} (h : LR hc c0 d0 oc om) : LR hc c0 d0 (bd oc fun r m => if r = 0 then some (0, m) else some (1, m)) om := by
  obtain ⟨r, c', d', e1, e2, e3, e4, e5⟩ := h
  rw [e1, e2, bd_some]
  rcases e5 with ⟨y, e5⟩ | ⟨y, e5⟩
  · subst y
    rw [if_neg (by decide : ¬ (1 : Int) = 0)]
    exact ⟨1, c', d', rfl, rfl, e3, e4, Or.inl ⟨rfl, e5⟩⟩
  · subst y
    rw [if_pos rfl]
    exact ⟨0, c', d', rfl, rfl, e3, e4, Or.inr ⟨rfl, e5⟩⟩
theorem LR0_wrap {c0 d0 : Mm} {oc om : Res} (h : LR0 hc c0 d0 oc om) : LR0 hc c0 d0 (bd oc fun r m => if r = 0 then some (0, m) else some (1, m)) om := by
  obtain ⟨r, c', d', e1, e2, e3, e4, e6, e5⟩ := h
  rw [e1, e2, bd_some]
  rcases e5 with ⟨y, e5⟩ | ⟨y, e5⟩
  · subst y
    rw [if_neg (by decide : ¬ (1 : Int) = 0)]
    exact ⟨1, c', d', rfl, rfl, e3, e4, e6, Or.inl ⟨rfl, e5⟩⟩
  · subst y
    rw [if_pos rfl]
    exact ⟨0, c', d', rfl, rfl, e3, e4, e6, Or.inr ⟨rfl, e5⟩⟩
theorem LR0_fin {c0 d0 c d : Mm} (h : SX (PH0 hc) QH c0 d0 c d) (hH : HR hc c d) : LR0 hc c0 d0 (bd (fn_Tape_takeSign 59 c) fun r m => if r = 0 ∨ r = 1 then some (r, m) else none) (bd (fn_Model_closes d) fun r m => if r = 0 ∨ r = 1 then some (r, m) else none) := by
  obtain ⟨r, c', d', w1, w2, w3, w4, w5⟩ := sign_ok h.2.2.1
  have r01 : r = 0 ∨ r = 1 := by omega
  have h1 := hH.1
  have n := hH.2.2.1.2.2.2.1
  rw [w1, w2, bd_some, bd_some, if_pos r01, if_pos r01]
  refine ⟨r, c', d', rfl, rfl, FXc_trans h.1 (FXc_p w3), FXm_trans h.2.1 (FXm_p w4), by rw [w3.1 _ (by omega)]; exact n, ?_⟩
  rcases w5 with ⟨y, w5, w6⟩ | ⟨y, w5⟩
  · exact Or.inl ⟨y, w5, w6.trans h.2.2.2.1, HR_p hH w3 w4, by have := h.2.2.2.2; have := w3.2.2; omega⟩
  · exact Or.inr ⟨y, w5⟩
theorem place_line {c d : Mm} (h : TkR c d) (hk : ¬ c 1 6 = 1) (hH : HR hc c d) : LR0 hc c d (clN (c hc 0) fn_HillsReader_readPlace c) (fn_Model_readsPlace d) := by
  have hH0 := hH
  obtain ⟨h1, h2, h3, h4, h5, h6, h7, h8⟩ := hH
  have n1 : c hc 0 = d 205 5 := h3.1
  have n2 := h3.2.2.2.1
  unfold clN fn_HillsReader_canBegin fn_Model_readsPlace
  have t5 : (5 : Int).toNat = 5 := rfl
  rw [t5, bn_eq, w32_in (x := 6 + d 205 5) (by omega) (by omega)]
  by_cases y : c hc 0 < 6
  · rw [if_pos y, if_neg (by omega : ¬ 6 + d 205 5 = 12)]
    obtain ⟨c1, d1, v1, v2, S1, g1, g1'⟩ := SX_first (P := fun a j => a = hc + 1 ∧ j = (c hc 0).toNat) (Q := fun a j => (a = 205 ∧ j = 5) ∨ (a = 206 ∧ j = (6 + c hc 0).toNat)) h hk FXc_refl FXm_refl rfl (Int.le_refl _)
    have hP : ∀ a j, (a = hc + 1 ∧ j = (c hc 0).toNat) → PH hc a j := fun a j z => by unfold PH; omega
    have hP0 : ∀ a j, ((a = hc ∧ j = 0) ∨ (a = hc + 1 ∧ j = (c hc 0).toNat)) → PH0 hc a j := fun a j z => by unfold PH0; omega
    have hQ : ∀ a j, ((a = 205 ∧ j = 5) ∨ (a = 206 ∧ j = (6 + c hc 0).toNat)) → QH a j := fun a j z => by
      rcases z with ⟨rfl, rfl⟩ | ⟨rfl, rfl⟩
      · exact Or.inr ⟨by omega, by omega, by show 5 ≤ 5; omega⟩
      · exact Or.inr ⟨by omega, by omega, by show 6 ≤ _; omega⟩
    have H1 := HR_p hH0 g1 g1'
    rw [v1, v2, bd_some, bd_some, bd_some, if_neg (by decide : ¬ (1 : Int) = 0)]
    refine LR0_wrap ?_
    unfold fn_HillsReader_readPlace
    have e31 : c1 3 1 = (hc : Int) := H1.2.1
    have en : c1 hc 0 = c hc 0 := by rw [g1.1 hc (by omega)]
    have hK : isK 0 (c1 3 1) = true := isK0 (by omega)
    have e3 : (c1 3 1).toNat = hc := by omega
    rw [if_pos hK, if_pos hK, e3, en, ← n1]
    obtain ⟨r, c2, d2, u1, u2, u3, u4⟩ := new_ok (p := hc + 1) (n := c hc 0) S1.2.2.1 e31 h1 H1.2.2.1 (by omega) (by omega) y
    rw [u1, u2, bd_some, bd_some]
    rcases u4 with ⟨z, u4, u5, u6, u7, u8⟩ | ⟨z, u4, u5⟩
    · have e31' : c2 3 1 = (hc : Int) := by rw [u6.1 3 (by omega), mst_ne (by omega)]; exact e31
      have hK' : isK 0 (c2 3 1) = true := isK0 (by omega)
      have e3' : (c2 3 1).toNat = hc := by omega
      have en2 : c2 hc 0 = c hc 0 := by rw [u6.1 hc (by omega), mst_ne (by omega)]; exact en
      have en3 : mst d2 206 (6 + c hc 0).toNat (d2 203 43) 205 5 = c hc 0 := by rw [mst_ne (by omega), u3.1 _ (by omega), g1'.1 _ (by omega)]; exact n1.symm
      rw [if_neg (by omega : ¬ r = 0), if_neg (by omega : ¬ r = 0), if_pos hK', bn_eq, e3', en2, if_pos (by omega), bn_eq, bn_eq, en3, w32_in (x := c hc 0 + 1) (by omega) (by omega)]
      have S2 : SX (fun a j => (a = hc ∧ j = 0) ∨ (a = hc + 1 ∧ j = (c hc 0).toNat)) (fun a j => (a = 205 ∧ j = 5) ∨ (a = 206 ∧ j = (6 + c hc 0).toNat)) c d c2 d2 := SX_mono (SX_p (SX_mc (x := c1 1 3) (k := hc + 1) (j := (c hc 0).toNat) S1 ⟨rfl, rfl⟩ (by omega) (by omega)) u6 u3 u4 (by rw [u5, mst_ne (by omega)])) (fun _ _ z => Or.inr z) (fun _ _ z => z)
      have S3 := SX_md (x := c hc 0 + 1) (k := 205) (j := 5) (SX_md (x := d2 203 43) (k := 206) (j := (6 + c hc 0).toNat) (SX_mc (x := c hc 0 + 1) (k := hc) (j := 0) S2 (Or.inl ⟨rfl, rfl⟩) (by omega) (by omega)) (Or.inr ⟨rfl, rfl⟩) (by omega) (by omega)) (Or.inl ⟨rfl, rfl⟩) (by omega) (by omega)
      refine LR0_fin (SX_mono S3 hP0 hQ) ?_
      have q1 : mst c2 hc 0 (c hc 0 + 1) hc 0 = c hc 0 + 1 := mst_hit
      have q2 : mst (mst d2 206 (6 + c hc 0).toNat (d2 203 43)) 205 5 (c hc 0 + 1) 205 5 = c hc 0 + 1 := mst_hit
      have q3 : mst c2 hc 0 (c hc 0 + 1) (hc + 1) (c hc 0).toNat = c1 1 3 := by rw [mst_ne (by omega), u6.1 _ (by omega), mst_hit]
      have q4 : mst (mst d2 206 (6 + c hc 0).toNat (d2 203 43)) 205 5 (c hc 0 + 1) 206 (6 + c hc 0).toNat = d1 203 7 := by rw [mst_ne (by omega), mst_hit, u7]
      have G := S3.1
      have G' := S3.2.1
      revert G G' q1 q2 q3 q4
      generalize mst c2 hc 0 (c hc 0 + 1) = cf
      generalize mst (mst d2 206 (6 + c hc 0).toNat (d2 203 43)) 205 5 (c hc 0 + 1) = df
      intro q1 q2 q3 q4 G G'
      have f6 : df 205 6 = d 205 6 := gm G' (by omega) (by omega)
      have f7 : df 205 7 = d 205 7 := gm G' (by omega) (by omega)
      have k1 : cf hc 1 = c hc 1 := gc G (by omega) (by omega)
      have k2 : cf hc 2 = c hc 2 := gc G (by omega) (by omega)
      refine ⟨h1, ?_, ?_, ?_, ?_, ?_, ?_, ?_⟩
      · rw [gc G (by omega) (by omega)]; exact h2
      · unfold NmX NsO at h3 ⊢
        have t0 : (5 * 1 + 0 : Int).toNat = 5 := rfl
        have t1 : (5 * 1 + 1 : Int).toNat = 6 := rfl
        have t2 : (5 * 1 + 2 : Int).toNat = 7 := rfl
        rw [t0, t1, t2] at h3 ⊢
        rw [q1, q2, f6, f7, k1, k2]
        obtain ⟨l1, l2, l3, l4, l5, l6, l7, l8, l9⟩ := h3
        refine ⟨rfl, l2, l3, by omega, l5, l6, fun i i0 i1 => ?_, fun i i0 i1 => ?_, fun i i0 i1 => ?_⟩
        · by_cases z2 : i = c hc 0
          · have e6 : 6 * 1 + i = 6 + c hc 0 := by omega
            rw [e6, z2, q3, q4]
            exact u8
          · rw [gc G (by omega) (by omega), gm G' (by omega) (by omega)]
            exact l7 i i0 (by omega)
        · rw [gc G (by omega) (by omega), gm G' (by omega) (by omega)]
          exact l8 i i0 (by omega)
        · rw [gc G (by omega) (by omega), gm G' (by omega) (by omega)]
          exact l9 i i0 (by omega)
      · rw [gc G (by omega) (by omega), gc G (by omega) (by omega), gm G' (by omega) (by omega), gm G' (by omega) (by omega)]; exact h4
      · exact PaR_congr h5 (gcr G (by omega) (fun j => by omega)) (gmr G' (by omega) (fun j => by omega)) (by omega)
      · rw [f6]
        exact HR_wk h6 G G' h1 (fun a j a0 a1 => by omega) (fun a j a0 a1 => by omega) (fun j a1 => by omega) (fun a j a0 a1 => by omega) (by omega) (by omega)
      · rw [f7]
        exact HR_ho h7 G G' h1 (fun a j a0 a1 a2 => by omega) (fun a j a0 a1 a2 => by omega) (by omega) (by omega)
      · exact HR_lw h8 G G' h1 (fun a j a0 => by omega) (fun a j a0 => by omega)
    · rw [if_pos z, if_pos z]
      exact LR0_of hH0 (LR_fail S1 hP hQ u4 u3 u5)
  · obtain ⟨c', d', w1, w2, w3⟩ := beg_no h hH0
    rw [if_neg y, if_pos (by omega : 6 + d 205 5 = 12), w1, w2, bd_some, bd_some, if_pos (Or.inl rfl), if_pos (Or.inl rfl), bd_some, if_pos rfl]
    exact LR0_of hH0 w3
end Pl
