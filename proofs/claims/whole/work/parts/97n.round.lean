/-! What is not yet counted may change; a round is told. -/
section Rd
variable {hc : Nat}
def PW (hc : Nat) (n0 n1 n2 : Int) (a j : Nat) : Prop := (a = hc + 1 ∧ n0 ≤ (j : Int)) ∨ (a = hc + 2 ∧ n1 ≤ (j : Int)) ∨ (a = hc + 3 ∧ n2 ≤ (j : Int)) ∨ (hc + 7 ≤ a ∧ a ≤ hc + 9 ∧ n2 ≤ (j : Int)) ∨ ((hc : Int) + 13 + 4 * n1 ≤ (a : Int) ∧ a ≤ hc + 36)
def QW (n0 n1 n2 : Int) (a j : Nat) : Prop := (a = 206 ∧ 6 + n0 ≤ (j : Int)) ∨ (a = 207 ∧ 6 + n1 ≤ (j : Int)) ∨ (a = 208 ∧ 6 + n2 ≤ (j : Int)) ∨ (((210 ≤ a ∧ a ≤ 213) ∨ a = 215) ∧ 6 + n1 ≤ (j : Int)) ∨ (a = 214 ∧ 24 + 4 * n1 ≤ (j : Int)) ∨ ((a = 216 ∨ a = 217) ∧ 36 + 6 * n1 ≤ (j : Int)) ∨ (218 ≤ a ∧ a ≤ 220 ∧ 6 + n2 ≤ (j : Int))
theorem HR_pend {c d c' d' : Mm} {n0 n1 n2 : Int} (h : HR hc c d) (k0 : c hc 0 = n0) (k1 : c hc 1 = n1) (k2 : c hc 2 = n2) (g : FXc (PW hc n0 n1 n2) c c') (g' : FXm (QW n0 n1 n2) d d') : HR hc c' d' := by
  obtain ⟨c1, c2, c3, c4, c5, c6⟩ := HR_cnt h
  obtain ⟨h1, h2, h3, h4, h5, h6, h7, h8⟩ := h
  have f5 : d' 205 5 = d 205 5 := gm g' (by omega) (by unfold QW; omega)
  have f6 : d' 205 6 = d 205 6 := gm g' (by omega) (by unfold QW; omega)
  have f7 : d' 205 7 = d 205 7 := gm g' (by omega) (by unfold QW; omega)
  refine ⟨h1, ?_, ?_, ?_, ?_, ?_, ?_, ?_⟩
  · rw [gc g (by omega) (by unfold PW; omega)]; exact h2
  · exact NmX_fx h3 g g' h1 (fun a j z => by unfold PW; omega) (fun j z => by unfold PW; omega) (fun j z => by unfold PW; omega) (fun j z => by unfold PW; omega) (fun j z => by unfold QW; omega) (fun j z => by unfold QW; omega) (fun j z => by unfold QW; omega) (fun j z => by unfold QW; omega)
  · rw [gc g (by omega) (by unfold PW; omega), gc g (by omega) (by unfold PW; omega), gm g' (by omega) (by unfold QW; omega), gm g' (by omega) (by unfold QW; omega)]; exact h4
  · exact PaR_congr h5 (gcr g (by omega) (fun j => by unfold PW; omega)) (gmr g' (by omega) (fun j => by unfold QW; omega)) (by omega)
  · rw [f6]
    exact HR_wk h6 g g' h1 (fun a j a0 a1 => by unfold PW; omega) (fun a j a0 a1 => by unfold QW; omega) (fun j a1 => by unfold QW; omega) (fun a j a0 a1 => by unfold QW; omega) (by omega) (by omega)
  · rw [f7]
    exact HR_ho h7 g g' h1 (fun a j a0 a1 a2 => by unfold PW; omega) (fun a j a0 a1 a2 => by unfold QW; omega) (by omega) (by omega)
  · exact HR_lw h8 g g' h1 (fun a j a0 => by unfold PW; omega) (fun a j a0 => by unfold QW; omega)
theorem PW_PH {n0 n1 n2 : Int} (h0 : 0 ≤ n1) : ∀ a j, PW hc n0 n1 n2 a j → PH hc a j := fun a j z => by unfold PW at z; unfold PH; omega
theorem QW_QH {n0 n1 n2 : Int} (h0 : 0 ≤ n0) (h1 : 0 ≤ n1) (h2 : 0 ≤ n2) : ∀ a j, QW n0 n1 n2 a j → QH a j := fun a j z => by
  unfold QW at z
  have hb : ∀ m, half a ≤ m → m ≤ j → 205 ≤ a → a ≤ 223 → QH a j := fun m x y z1 z2 => Or.inr ⟨z1, z2, by omega⟩
  rcases z with ⟨rfl, z⟩ | ⟨rfl, z⟩ | ⟨rfl, z⟩ | ⟨z1, z⟩ | ⟨rfl, z⟩ | ⟨z1, z⟩ | ⟨z1, z2, z⟩
  · exact hb 6 (by decide) (by omega) (by omega) (by omega)
  · exact hb 6 (by decide) (by omega) (by omega) (by omega)
  · exact hb 6 (by decide) (by omega) (by omega) (by omega)
  · have : a = 210 ∨ a = 211 ∨ a = 212 ∨ a = 213 ∨ a = 215 := by omega
    rcases this with rfl | rfl | rfl | rfl | rfl <;> exact hb 6 (by decide) (by omega) (by omega) (by omega)
  · exact hb 24 (by decide) (by omega) (by omega) (by omega)
  · rcases z1 with rfl | rfl <;> exact hb 36 (by decide) (by omega) (by omega) (by omega)
  · have : a = 218 ∨ a = 219 ∨ a = 220 := by omega
    rcases this with rfl | rfl | rfl <;> exact hb 6 (by decide) (by omega) (by omega) (by omega)
/-- the round so far -/
def RdI (X : Nat) (n i : Int) (c d : Mm) : Prop := c X 4 = i ∧ d 215 (6 + n).toNat = i ∧ (∀ t : Int, 0 ≤ t → t < i → c (X + 1) t.toNat = d 214 (24 + 4 * n + t).toNat ∧ 0 ≤ d 214 (24 + 4 * n + t).toNat ∧ d 214 (24 + 4 * n + t).toNat < d 205 5) ∧ ∀ t : Int, 0 ≤ t → t + 1 < i → d 214 (24 + 4 * n + t).toNat ≠ d 214 (24 + 4 * n + t + 1).toNat
def RdW (n i was : Int) (d : Mm) : Prop := (i = 0 → was = -1) ∧ (0 < i → was = d 214 (24 + 4 * n + i - 1).toNat)
def PRd (X : Nat) (a j : Nat) : Prop := (a = X ∧ j = 4) ∨ a = X + 1
def QRd (n : Int) (a j : Nat) : Prop := (a = 215 ∧ j = (6 + n).toNat) ∨ (a = 214 ∧ 24 + 4 * n ≤ (j : Int))
theorem RdI_congr {X : Nat} {n i : Int} {c c' d d' : Mm} (h : RdI X n i c d) (e1 : c' X 4 = c X 4) (e2 : c' (X + 1) = c (X + 1)) (f1 : d' 215 = d 215) (f2 : d' 214 = d 214) (f3 : d' 205 = d 205) : RdI X n i c' d' := by
  unfold RdI at h ⊢
  rw [e1, e2, f1, f2, f3]
  exact h
theorem round_step {c0 d0 : Mm} {n n0 n2 : Int} {X : Nat} (hX : X = hc + 4 * n.toNat + 13) (m0 : 0 ≤ n) (m1 : n < 6) (m2 : 0 ≤ n0) (m3 : 0 ≤ n2) (kc : Int → Mm → Res) (km : Int → Mm → Res) (c d : Mm) (i was : Int) (i0 : 0 ≤ i) (i4 : i ≤ 4) (S : SX (PH hc) QH c0 d0 c d) (hH : HR hc c d) (k0 : c hc 0 = n0) (k1 : c hc 1 = n) (k2 : c hc 2 = n2) (hI : RdI X n i c d) (hW : RdW n i was d) :
    (∃ c' d' v, i < 4 ∧ bo_HillsReader_readRound_26 X kc i c = kc (i + 1) c' ∧ bo_Model_readsRound_28 (6 + n) km was d = km v d' ∧ SX (PH hc) QH c0 d0 c' d' ∧ HR hc c' d' ∧ FXc (PRd X) c c' ∧ FXm (QRd n) d d' ∧ RdI X n (i + 1) c' d' ∧ RdW n (i + 1) v d')
    ∨ (∃ c' d', bo_HillsReader_readRound_26 X kc i c = some (0, c') ∧ bo_Model_readsRound_28 (6 + n) km was d = some (0, d') ∧ LR hc c0 d0 (some (0, c')) (some (0, d'))) := by
  have pid : ∀ a j, PH hc a j → PH hc a j := fun _ _ z => z
  have qid : ∀ a j, QH a j → QH a j := fun _ _ z => z
  have h1 := hH.1
  unfold bo_HillsReader_readRound_26 bo_Model_readsRound_28
  obtain ⟨v, rv, c1, d1, w1, w2, w3, w4, w5⟩ := SX_place S h1 hH.2.1 hH.2.2.1
  rw [w1, w2, bd_some, bd_some]
  rcases w5 with ⟨y, v0, v1, w6, w7, w8⟩ | ⟨y, w5, w6⟩
  · rw [if_neg (by omega : ¬ v = -1), if_neg (by omega : ¬ rv = 0), w7]
    have S1 := SX_p S w3 w4 w8 (by rw [w6])
    have H1 := HR_p hH w3 w4
    have I1 : RdI X n i c1 d1 := RdI_congr hI (by rw [w6]) (by rw [w6]) (w4.1 _ (by omega)) (w4.1 _ (by omega)) (w4.1 _ (by omega))
    have e5 : d1 205 5 = d 205 5 := by rw [w4.1 _ (by omega)]
    have e14 : d1 214 = d 214 := w4.1 _ (by omega)
    obtain ⟨ca, da, a1, a2, a3⟩ := wrong_no (p := 3) S1 pid qid (by omega) (by omega)
    obtain ⟨cb, db, b1, b2, b3⟩ := wrong_no (p := 5) S1 pid qid (by omega) (by omega)
    unfold bo_HillsReader_readRound_54 bo_Model_readsRound_46 bo_HillsReader_readRound_63 bo_HillsReader_readRound_68 bo_Model_readsRound_62
    rw [a1, a2, b1, b2, bd_some, bd_some, bd_some, bd_some, if_pos (Or.inl rfl), if_pos (Or.inl rfl), if_pos (Or.inl rfl), if_pos (Or.inl rfl)]
    obtain ⟨i1, i2, i3, i5⟩ := I1
    have eq : 0 < i → c1 (X + 1) (i - 1).toNat = was := fun z => by
      rw [hW.2 z, (i3 (i - 1) (by omega) (by omega)).1, e14]
      congr 2
      omega
    by_cases z : v = was
    · have ip : 0 < i := by
        by_cases q : i = 0
        · have := hW.1 q; omega
        · omega
      right
      refine ⟨ca, da, ?_, ?_, a3⟩
      · rw [if_pos ip, w32_in (x := i - 1) (by omega) (by omega), if_pos (by omega : 0 ≤ i - 1 ∧ i - 1 < 4), eq ip, if_pos z.symm]
      · rw [if_pos z]
    · have eC : (if 0 < i then if 0 ≤ w32 (i - 1) ∧ w32 (i - 1) < 4 then if c1 (X + 1) (w32 (i - 1)).toNat = v then some (0, ca) else (if i < 4 then (if 0 ≤ i ∧ i < 4 then bn (mst c1 (X + 1) i.toNat v) fun m2 => bn (mst m2 X 4 (w32 ((m2 X 4) + 1))) fun m3 => bd (fn_Tape_step m3) fun r4 m5 => kc (w32 (i + 1)) m5 else none) else some (0, cb)) else none else (if i < 4 then (if 0 ≤ i ∧ i < 4 then bn (mst c1 (X + 1) i.toNat v) fun m2 => bn (mst m2 X 4 (w32 ((m2 X 4) + 1))) fun m3 => bd (fn_Tape_step m3) fun r4 m5 => kc (w32 (i + 1)) m5 else none) else some (0, cb))) = (if i < 4 then (if 0 ≤ i ∧ i < 4 then bn (mst c1 (X + 1) i.toNat v) fun m2 => bn (mst m2 X 4 (w32 ((m2 X 4) + 1))) fun m3 => bd (fn_Tape_step m3) fun r4 m5 => kc (w32 (i + 1)) m5 else none) else some (0, cb)) := by
        by_cases q : 0 < i
        · rw [if_pos q, w32_in (x := i - 1) (by omega) (by omega), if_pos (by omega : 0 ≤ i - 1 ∧ i - 1 < 4), eq q, if_neg (fun e => z e.symm)]
        · rw [if_neg q]
      rw [eC, if_neg z, if_pos (by omega : 0 ≤ 6 + n ∧ 6 + n < 12), i2]
      by_cases q : i < 4
      · left
        have ec4 : ∀ j x, mst c1 (X + 1) j x X 4 = i := fun j x => by rw [mst_ne (by omega)]; exact i1
        have ed : ∀ j x, mst d1 214 j x 215 (6 + n).toNat = i := fun j x => by rw [mst_ne (by omega)]; exact i2
        have ew : 4 * (6 + n) + i = 24 + 4 * n + i := by omega
        rw [if_pos q, if_pos (by omega : 0 ≤ i ∧ i < 4), bn_eq, bn_eq, ec4, if_neg (by omega : ¬ i = 4), bn_eq, if_pos (by omega : 0 ≤ 6 + n ∧ 6 + n < 12), w32_in (x := 4 * (6 + n)) (by omega) (by omega), w32_in (x := 4 * (6 + n) + i) (by omega) (by omega), ew, if_pos (by omega : 0 ≤ 24 + 4 * n + i ∧ 24 + 4 * n + i < 48), bn_eq, if_pos (by omega : 0 ≤ 6 + n ∧ 6 + n < 12), if_pos (by omega : 0 ≤ 6 + n ∧ 6 + n < 12), ed, bn_eq, w32_in (x := i + 1) (by omega) (by omega)]
        have G : FXc (PRd X) c1 (mst (mst c1 (X + 1) i.toNat v) X 4 (i + 1)) := FXc_trans (FXc_m (Or.inr rfl)) (FXc_m (Or.inl ⟨rfl, rfl⟩))
        have G' : FXm (QRd n) d1 (mst (mst d1 214 (24 + 4 * n + i).toNat v) 215 (6 + n).toNat (i + 1)) := FXm_trans (FXm_m (Or.inr ⟨rfl, by omega⟩)) (FXm_m (Or.inl ⟨rfl, rfl⟩))
        have S2 : SX (PH hc) QH c0 d0 (mst (mst c1 (X + 1) i.toNat v) X 4 (i + 1)) (mst (mst d1 214 (24 + 4 * n + i).toNat v) 215 (6 + n).toNat (i + 1)) := SX_md (SX_md (SX_mc (SX_mc S1 (Or.inr (by omega)) (by omega) (by omega)) (Or.inr (by omega)) (by omega) (by omega)) (Or.inr ⟨by omega, by omega, by show 24 ≤ _; omega⟩) (by omega) (by omega)) (Or.inr ⟨by omega, by omega, by show 6 ≤ _; omega⟩) (by omega) (by omega)
        have H2 : HR hc (mst (mst c1 (X + 1) i.toNat v) X 4 (i + 1)) (mst (mst d1 214 (24 + 4 * n + i).toNat v) 215 (6 + n).toNat (i + 1)) := HR_pend H1 (n0 := n0) (n1 := n) (n2 := n2) (by rw [w6]; exact k0) (by rw [w6]; exact k1) (by rw [w6]; exact k2) (FXc_mono G (fun a j z => by unfold PRd at z; unfold PW; omega)) (FXm_mono G' (fun a j z => by unfold QRd at z; unfold QW; omega))
        have I2 : RdI X n (i + 1) (mst (mst c1 (X + 1) i.toNat v) X 4 (i + 1)) (mst (mst d1 214 (24 + 4 * n + i).toNat v) 215 (6 + n).toNat (i + 1)) := by
          have a5 : mst (mst d1 214 (24 + 4 * n + i).toNat v) 215 (6 + n).toNat (i + 1) 205 = d1 205 := by rw [mst_ne (by omega), mst_ne (by omega)]
          have a1 : ∀ j, mst (mst c1 (X + 1) i.toNat v) X 4 (i + 1) (X + 1) j = if j = i.toNat then v else c1 (X + 1) j := fun j => by rw [mst_ne (by omega), mst_self]
          have a2 : ∀ j, mst (mst d1 214 (24 + 4 * n + i).toNat v) 215 (6 + n).toNat (i + 1) 214 j = if j = (24 + 4 * n + i).toNat then v else d1 214 j := fun j => by rw [mst_ne (by omega), mst_self]
          refine ⟨mst_hit, mst_hit, fun t t0 t1 => ?_, fun t t0 t1 => ?_⟩
          · rw [a1, a2, a5]
            by_cases e : t = i
            · rw [if_pos (by omega : t.toNat = i.toNat), if_pos (by omega : (24 + 4 * n + t).toNat = (24 + 4 * n + i).toNat)]
              exact ⟨rfl, v0, by omega⟩
            · rw [if_neg (by omega : ¬ t.toNat = i.toNat), if_neg (by omega : ¬ (24 + 4 * n + t).toNat = (24 + 4 * n + i).toNat)]
              exact i3 t t0 (by omega)
          · rw [a2, a2, if_neg (by omega : ¬ (24 + 4 * n + t).toNat = (24 + 4 * n + i).toNat)]
            by_cases e : t + 1 = i
            · rw [if_pos (by omega : (24 + 4 * n + t + 1).toNat = (24 + 4 * n + i).toNat)]
              have hw := hW.2 (by omega)
              have e3 : (24 + 4 * n + t).toNat = (24 + 4 * n + i - 1).toNat := by omega
              rw [e14, e3, ← hw]
              exact fun q => z q.symm
            · rw [if_neg (by omega : ¬ (24 + 4 * n + t + 1).toNat = (24 + 4 * n + i).toNat)]
              exact i5 t t0 (by omega)
        obtain ⟨c2, d2, u1, u2, S3, u3, u4⟩ := SX_next S2
        rw [u1, u2, bd_some, bd_some]
        refine ⟨c2, d2, v, q, rfl, rfl, S3, HR_p H2 u3 u4, FXc_trans (FXc_trans (FXc_p w3) G) (FXc_p u3), FXm_trans (FXm_trans (FXm_p w4) G') (FXm_p u4), RdI_congr I2 (by rw [u3.1 _ (by omega)]) (u3.1 _ (by omega)) (u4.1 _ (by omega)) (u4.1 _ (by omega)) (u4.1 _ (by omega)), fun q => by omega, fun _ => ?_⟩
        have e3 : (24 + 4 * n + (i + 1) - 1).toNat = (24 + 4 * n + i).toNat := by omega
        rw [u4.1 _ (by omega), mst_ne (by omega), e3, mst_hit]
      · right
        rw [if_neg q, if_pos (by omega : i = 4)]
        exact ⟨cb, db, rfl, rfl, b3⟩
  · right
    rw [if_pos w5, if_pos y]
    exact ⟨c1, d1, rfl, rfl, LR_fail S pid qid w3 w4 w6⟩
theorem round_loop {c0 d0 : Mm} {n n0 n2 : Int} {X : Nat} (hX : X = hc + 4 * n.toNat + 13) (m0 : 0 ≤ n) (m1 : n < 6) (m2 : 0 ≤ n0) (m3 : 0 ≤ n2) : ∀ (j k k' : Nat) (c d : Mm) (i was : Int), i + j = 4 → 0 ≤ i → j < k → j < k' → SX (PH hc) QH c0 d0 c d → HR hc c d → c hc 0 = n0 → c hc 1 = n → c hc 2 = n2 → RdI X n i c d → RdW n i was d →
    (∃ c' d' i', lp_HillsReader_readRound_2 X k i c = some (1, c') ∧ lp_Model_readsRound_9 (6 + n) k' was d = some (1, d') ∧ SX (PH hc) QH c0 d0 c' d' ∧ HR hc c' d' ∧ FXc (PRd X) c c' ∧ FXm (QRd n) d d' ∧ RdI X n i' c' d' ∧ 2 ≤ i' ∧ i' ≤ 4)
    ∨ (∃ c' d', lp_HillsReader_readRound_2 X k i c = some (0, c') ∧ lp_Model_readsRound_9 (6 + n) k' was d = some (0, d') ∧ LR hc c0 d0 (some (0, c')) (some (0, d'))) := by
  intro j
  induction j with
  | zero =>
    intro k k' c d i was e1 e2 e3 e4 S hH k0 k1 k2 hI hW
    obtain ⟨k, rfl⟩ : ∃ t, k = t + 1 := ⟨k - 1, by omega⟩
    obtain ⟨k', rfl⟩ : ∃ t, k' = t + 1 := ⟨k' - 1, by omega⟩
    have eC : lp_HillsReader_readRound_2 X (k + 1) i c = (bd (fn_Tape_isSign 59 c) fun r1 m2 => if r1 = 0 then (bo_HillsReader_readRound_26 X (lp_HillsReader_readRound_2 X k) i m2) else (some (1, m2))) := by
      show bo_HillsReader_readRound_2 X _ i c = _
      unfold bo_HillsReader_readRound_2
      rw [if_neg (by omega : ¬ 4 < i), if_neg (by omega : ¬ i < 2)]
    have eM : lp_Model_readsRound_9 (6 + n) (k' + 1) was d = (bd (fn_Model_isSign 59 d) fun r2 m3 => if r2 = 0 then (bo_Model_readsRound_28 (6 + n) (lp_Model_readsRound_9 (6 + n) k') was m3) else (some (1, m3))) := by
      show bo_Model_readsRound_9 (6 + n) _ was d = _
      unfold bo_Model_readsRound_9
      rw [if_pos (by omega : 0 ≤ 6 + n ∧ 6 + n < 12), hI.2.1, if_neg (by omega : ¬ i < 2)]
    obtain ⟨b, s1, s2, s3⟩ := sign_eq (p := 59) S.2.2.1
    rw [eC, eM, s1, s2, bd_some, bd_some]
    by_cases y : b = 0
    · rw [if_pos y, if_pos y]
      rcases round_step hX m0 m1 m2 m3 (lp_HillsReader_readRound_2 X k) (lp_Model_readsRound_9 (6 + n) k') c d i was (by omega) (by omega) S hH k0 k1 k2 hI hW with ⟨c', d', v, w, -⟩ | w
      · omega
      · exact Or.inr w
    · rw [if_neg y, if_neg y]
      exact Or.inl ⟨c, d, i, rfl, rfl, S, hH, FXc_refl, FXm_refl, hI, by omega, by omega⟩
  | succ j ih =>
    intro k k' c d i was e1 e2 e3 e4 S hH k0 k1 k2 hI hW
    obtain ⟨k, rfl⟩ : ∃ t, k = t + 1 := ⟨k - 1, by omega⟩
    obtain ⟨k', rfl⟩ : ∃ t, k' = t + 1 := ⟨k' - 1, by omega⟩
    have go : ∀ oc om, oc = bo_HillsReader_readRound_26 X (lp_HillsReader_readRound_2 X k) i c → om = bo_Model_readsRound_28 (6 + n) (lp_Model_readsRound_9 (6 + n) k') was d →
        (∃ c' d' i', oc = some (1, c') ∧ om = some (1, d') ∧ SX (PH hc) QH c0 d0 c' d' ∧ HR hc c' d' ∧ FXc (PRd X) c c' ∧ FXm (QRd n) d d' ∧ RdI X n i' c' d' ∧ 2 ≤ i' ∧ i' ≤ 4)
        ∨ (∃ c' d', oc = some (0, c') ∧ om = some (0, d') ∧ LR hc c0 d0 (some (0, c')) (some (0, d'))) := by
      intro oc om ec em
      rw [ec, em]
      rcases round_step hX m0 m1 m2 m3 (lp_HillsReader_readRound_2 X k) (lp_Model_readsRound_9 (6 + n) k') c d i was (by omega) (by omega) S hH k0 k1 k2 hI hW with ⟨c', d', v, w0, w1, w2, w3, w4, w5, w6, w7, w8⟩ | w
      · rw [w1, w2]
        have h1 := hH.1
        have q0 : ∀ j, c' hc j = c hc j := fun j => gc w5 (by omega) (by unfold PRd; omega)
        rcases ih k k' c' d' (i + 1) v (by omega) (by omega) (by omega) (by omega) w3 w4 (by rw [q0]; exact k0) (by rw [q0]; exact k1) (by rw [q0]; exact k2) w7 w8 with ⟨c2, d2, i2, x1, x2, x3, x4, x5, x6, x7⟩ | x
        · exact Or.inl ⟨c2, d2, i2, x1, x2, x3, x4, FXc_trans w5 x5, FXm_trans w6 x6, x7⟩
        · exact Or.inr x
      · exact Or.inr w
    have eM : lp_Model_readsRound_9 (6 + n) (k' + 1) was d = if i < 2 then (bo_Model_readsRound_28 (6 + n) (lp_Model_readsRound_9 (6 + n) k') was d) else (bd (fn_Model_isSign 59 d) fun r2 m3 => if r2 = 0 then (bo_Model_readsRound_28 (6 + n) (lp_Model_readsRound_9 (6 + n) k') was m3) else (some (1, m3))) := by
      show bo_Model_readsRound_9 (6 + n) _ was d = _
      unfold bo_Model_readsRound_9
      rw [if_pos (by omega : 0 ≤ 6 + n ∧ 6 + n < 12), hI.2.1]
    have eC : lp_HillsReader_readRound_2 X (k + 1) i c = if i < 2 then (bo_HillsReader_readRound_26 X (lp_HillsReader_readRound_2 X k) i c) else (bd (fn_Tape_isSign 59 c) fun r1 m2 => if r1 = 0 then (bo_HillsReader_readRound_26 X (lp_HillsReader_readRound_2 X k) i m2) else (some (1, m2))) := by
      show bo_HillsReader_readRound_2 X _ i c = _
      unfold bo_HillsReader_readRound_2
      rw [if_neg (by omega : ¬ 4 < i)]
    by_cases y2 : i < 2
    · rw [if_pos y2] at eC eM
      exact go _ _ eC eM
    · rw [if_neg y2] at eC eM
      obtain ⟨b, s1, s2, s3⟩ := sign_eq (p := 59) S.2.2.1
      rw [s1, bd_some] at eC
      rw [s2, bd_some] at eM
      by_cases y : b = 0
      · rw [if_pos y] at eC eM
        exact go _ _ eC eM
      · rw [if_neg y] at eC eM
        rw [eC, eM]
        exact Or.inl ⟨c, d, i, rfl, rfl, S, hH, FXc_refl, FXm_refl, hI, by omega, by omega⟩
end Rd
