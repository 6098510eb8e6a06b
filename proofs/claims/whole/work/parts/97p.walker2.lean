/-! A walker's line, whole. -/
section Wm
variable {hc : Nat}
def WkV (X : Nat) (n nm : Int) (hc : Nat) (c d : Mm) : Prop := NmR (c (hc + 2) n.toNat) nm ∧ (c X 0 = d 210 (6 + n).toNat ∧ 0 ≤ d 210 (6 + n).toNat ∧ d 210 (6 + n).toNat ≤ 3) ∧ (c X 1 = d 211 (6 + n).toNat ∧ 0 ≤ d 211 (6 + n).toNat ∧ d 211 (6 + n).toNat ≤ 239) ∧ (c X 2 = d 212 (6 + n).toNat ∧ 1 ≤ d 212 (6 + n).toNat ∧ d 212 (6 + n).toNat ≤ 5) ∧ (c X 3 = d 213 (6 + n).toNat ∧ 0 ≤ d 213 (6 + n).toNat ∧ d 213 (6 + n).toNat ≤ 30) ∧ c X 4 = 0 ∧ ∀ p : Int, 0 ≤ p → p < 6 → c (X + 2) p.toNat = -1
theorem walker_tail {c0 d0 c d : Mm} {n n0 n2 nm : Int} {X : Nat} (hX : X = hc + 4 * n.toNat + 13) (m0 : 0 ≤ n) (m1 : n < 6) (S : SX (PH hc) QH c0 d0 c d) (hH : HR hc c d) (k0 : c hc 0 = n0) (k1 : c hc 1 = n) (k2 : c hc 2 = n2) (V : WkV X n nm hc c d) :
    LR hc c0 d0 (bd (fn_Tape_take (-8) c) fun r30 m31 => if r30 = 0 then (some (0, m31)) else (bd (fn_HillsReader_readRound X m31) fun r32 m33 => if r32 = 0 then (some (0, m33)) else (if isK 0 (m33 3 1) = true then bn (mst m33 (m33 3 1).toNat 1 (w32 ((m33 (m33 3 1).toNat 1) + 1))) fun m35 => bd (fn_Tape_takeSign 59 m35) fun r36 m37 => if r36 = 0 ∨ r36 = 1 then some (r36, m37) else none else none))) (bd (fn_Model_needsWord 9876874 d) fun r21 m22 => if r21 = 0 then (some (0, m22)) else (bd (fn_Model_readsRound (6 + n) m22) fun r23 m24 => if r23 = 0 then (some (0, m24)) else (lp_Model_readsWalker_221 FU (6 + n) nm 0 m24))) := by
  have h1 := hH.1
  obtain ⟨cc1, cc2, cc3, cc4, cc5, cc6⟩ := HR_cnt hH
  obtain ⟨r, c1, d1, w1, w2, w3, w4, w5⟩ := word_ok (k := 6) (x := 9876874) (w := -8) S.2.2.1 (by decide) rfl (by decide)
  rw [w1, w2, bd_some, bd_some]
  rcases w5 with ⟨y, w5, w6⟩ | ⟨y, w5⟩
  · have S1 := SX_p S w3 w4 w5 w6
    have H1 := HR_p hH w3 w4
    rw [if_neg (by omega : ¬ r = 0), if_neg (by omega : ¬ r = 0)]
    unfold fn_HillsReader_readRound fn_Model_readsRound
    rw [if_pos (by omega : 0 ≤ 6 + n ∧ 6 + n < 12), bn_eq]
    have qc : ∀ j, c1 hc j = c hc j := fun j => by rw [w3.1 _ (by omega)]
    have S2 : SX (PH hc) QH c0 d0 c1 (mst d1 215 (6 + n).toNat 0) := SX_md S1 (Or.inr ⟨by omega, by omega, by show 6 ≤ _; omega⟩) (by omega) (by omega)
    have H2 : HR hc c1 (mst d1 215 (6 + n).toNat 0) := HR_pend H1 (n0 := n0) (n1 := n) (n2 := n2) (by rw [qc]; exact k0) (by rw [qc]; exact k1) (by rw [qc]; exact k2) FXc_refl (FXm_m (by unfold QW; omega))
    have I0 : RdI X n 0 c1 (mst d1 215 (6 + n).toNat 0) := by
      refine ⟨?_, mst_hit, fun t t0 t1 => by omega, fun t t0 t1 => by omega⟩
      rw [w3.1 _ (by omega)]; exact V.2.2.2.2.2.1
    rcases round_loop (n0 := n0) (n2 := n2) hX m0 m1 (by omega) (by omega) 4 FU FU c1 (mst d1 215 (6 + n).toNat 0) 0 (-1) (by omega) (by omega) (by decide) (by decide) S2 H2 (by rw [qc]; exact k0) (by rw [qc]; exact k1) (by rw [qc]; exact k2) I0 ⟨fun _ => rfl, fun z => by omega⟩ with ⟨c2, d2, i, u1, u2, S3, H3, g, g', I3, i0, i1⟩ | ⟨c2, d2, u1, u2, u3⟩
    · rw [u1, u2, bd_some, bd_some, if_neg (by omega : ¬ (1 : Int) = 0), if_neg (by omega : ¬ (1 : Int) = 0)]
      obtain ⟨d3, z1, z2, z3⟩ := zero_loop (v1 := 6 + n) (v2 := nm) (by omega) (by omega) 6 FU 0 d2 (by omega) (by omega) (by decide)
      have qc2 : ∀ j, c2 hc j = c hc j := fun j => by rw [gc g (by omega) (by unfold PRd; omega), qc]
      have hK : isK 0 (c2 3 1) = true := isK0 (by have := H3.2.1; omega)
      have e3 : (c2 3 1).toNat = hc := by have := H3.2.1; omega
      have kk : c2 hc 1 = n := by rw [qc2]; exact k1
      have kd : d2 205 6 = n := by rw [← (HR_cnt H3).2.1]; exact kk
      rw [z1, if_pos hK, e3, kk, bn_eq]
      unfold bo_Model_readsWalker_247
      have t6 : (6 : Int).toNat = 6 := rfl
      have kd3 : mst d3 207 (6 + n).toNat nm 205 6 = n := by rw [mst_ne (by omega), z2 _ (by omega)]; exact kd
      rw [if_pos (by omega : 0 ≤ 6 + n ∧ 6 + n < 12), bn_eq, bn_eq, t6, kd3, w32_in (x := n + 1) (by omega) (by omega)]
      have G3 : ∀ Q : Nat → Nat → Prop, (∀ j : Nat, 36 + 6 * n ≤ (j : Int) → Q 216 j) → FXm Q d2 d3 := fun Q hQ a j => by
        right
        by_cases za : a = 216
        · subst za
          by_cases zj : 36 + 6 * n ≤ (j : Int)
          · exact Or.inl (hQ j zj)
          · right; rw [z3, if_neg (by omega)]
        · right; rw [z2 a za]
      have S4 : SX (PH hc) QH c0 d0 c2 d3 := ⟨S3.1, FXm_trans S3.2.1 (G3 QH (fun j hj => Or.inr ⟨by omega, by omega, by show 36 ≤ _; omega⟩)), Tk_congr S3.2.2.1 rfl rfl (z2 _ (by omega)) (z2 _ (by omega)), S3.2.2.2⟩
      have H4 : HR hc c2 d3 := HR_pend H3 (n0 := n0) (n1 := n) (n2 := n2) (by rw [qc2]; exact k0) kk (by rw [qc2]; exact k2) FXc_refl (G3 _ (fun j hj => by unfold QW; omega))
      have hX1 : X + 1 = hc + 4 * n.toNat + 14 := by omega
      have hX2 : X + 2 = hc + 4 * n.toNat + 15 := by omega
      have qX : ∀ j, j ≠ 4 → c2 X j = c X j := fun j hj => by rw [gc g (by omega) (by unfold PRd; omega), w3.1 _ (by omega)]
      have qX2 : ∀ j, c2 (X + 2) j = c (X + 2) j := fun j => by rw [gc g (by omega) (by unfold PRd; omega), w3.1 _ (by omega)]
      have qn : c2 (hc + 2) n.toNat = c (hc + 2) n.toNat := by rw [gc g (by omega) (by unfold PRd; omega), w3.1 _ (by omega)]
      have qd : ∀ a, 210 ≤ a → a ≤ 213 → d3 a (6 + n).toNat = d a (6 + n).toNat := fun a a0 a1 => by
        rw [z2 _ (by omega), gm g' (by omega) (by unfold QRd; omega), mst_ne (by omega), w4.1 _ (by omega)]
      have q5 : d3 205 = d2 205 := z2 _ (by omega)
      have q14 : d3 214 = d2 214 := z2 _ (by omega)
      have q15 : d3 215 = d2 215 := z2 _ (by omega)
      obtain ⟨V1, V2, V3, V4, V5, V6, V7⟩ := V
      obtain ⟨I1, I2, I5, I6⟩ := I3
      have W : WkR c2 hc d3 n := by
        unfold WkR
        rw [← hX1, ← hX2, ← hX, qX 0 (by omega), qX 1 (by omega), qX 2 (by omega), qX 3 (by omega), qd 210 (by omega) (by omega), qd 211 (by omega) (by omega), qd 212 (by omega) (by omega), qd 213 (by omega) (by omega), q5, q14, q15, I1, I2]
        refine ⟨V2, V3, V4, V5, ⟨rfl, i0, i1⟩, I5, I6, fun p p0 p1 => ?_⟩
        have ez : d3 216 (36 + 6 * n + p).toNat = 0 := by rw [z3, if_pos (by omega)]
        rw [ez, qX2, V7 p p0 p1]
        exact ⟨by omega, by omega, by rw [kd]; omega, fun z => by omega⟩
      refine LR_fin ?_ (HR_walker H4 kk m1 W (by rw [qn]; exact V1))
      exact SX_md (SX_md (SX_mc S4 (Or.inr (by omega)) (by omega) (by omega)) (Or.inr ⟨by omega, by omega, by show 6 ≤ _; omega⟩) (by omega) (by omega)) (Or.inr ⟨by omega, by omega, by show 5 ≤ 6; omega⟩) (by omega) (by omega)
    · rw [u1, u2, bd_some, bd_some, if_pos rfl, if_pos rfl]
      exact u3
  · rw [if_pos y, if_pos y]
    exact LR_fail2 S (FXc_p w3) (FXm_p w4) w5
theorem walker_line {c d : Mm} (h : TkR c d) (hk : ¬ c 1 6 = 1) (hH : HR hc c d) : LR hc c d (clN (c hc 1) fn_HillsReader_readWalker c) (fn_Model_readsWalker d) := by
  obtain ⟨n0', n1', n2', n0r, n1r, n2r⟩ := HR_cnt hH
  have h1 := hH.1
  unfold clN fn_HillsReader_canBegin fn_Model_readsWalker
  have t6 : (6 : Int).toNat = 6 := rfl
  rw [t6, ← n1', bn_eq, w32_in (x := 6 + c hc 1) (by omega) (by omega)]
  by_cases y : c hc 1 < 6
  · rw [if_pos y, if_neg (by omega : ¬ 6 + c hc 1 = 12)]
    obtain ⟨c1, d1, v1, v2, S1, g1, g1'⟩ := SX_first (P := PH hc) (Q := QH) h hk FXc_refl FXm_refl rfl (Int.le_refl _)
    have H1 := HR_p hH g1 g1'
    rw [v1, v2, bd_some, bd_some, bd_some, if_neg (by decide : ¬ (1 : Int) = 0)]
    refine LR_wrap ?_
    unfold fn_HillsReader_readWalker
    have e31 : c1 3 1 = (hc : Int) := H1.2.1
    have qc1 : ∀ j, c1 hc j = c hc j := fun j => by rw [g1.1 hc (by omega)]
    have hK : isK 0 (c1 3 1) = true := isK0 (by omega)
    have e3 : (c1 3 1).toNat = hc := by omega
    rw [if_pos hK, if_pos hK, e3, qc1]
    generalize hn0 : c hc 0 = n0 at *
    generalize hn : c hc 1 = n at *
    generalize hn2 : c hc 2 = n2 at *
    obtain ⟨r, c2, d2, u1, u2, u3, u4⟩ := new_ok (p := hc + 2) (n := n) S1.2.2.1 e31 h1 H1.2.2.1 (by omega) (by omega) y
    rw [u1, u2, bd_some, bd_some]
    rcases u4 with ⟨z, u4, u5, u6, u7, u8⟩ | ⟨z, u4, u5⟩
    · have S2 : SX (PH hc) QH c d c2 d2 := SX_p (SX_mc (x := c1 1 3) (k := hc + 2) (j := n.toNat) S1 (Or.inr (by omega)) (by omega) (by omega)) u6 u3 u4 (by rw [u5, mst_ne (by omega)])
      have H2 : HR hc c2 d2 := HR_p (HR_pend H1 (n0 := n0) (n1 := n) (n2 := n2) (by rw [qc1]; exact hn0) (by rw [qc1]; exact hn) (by rw [qc1]; exact hn2) (FXc_m (k := hc + 2) (j := n.toNat) (x := c1 1 3) (by unfold PW; omega)) FXm_refl) u6 u3
      have qc2 : ∀ j, c2 hc j = c hc j := fun j => by rw [u6.1 hc (by omega), mst_ne (by omega), qc1]
      have e31' : c2 3 1 = (hc : Int) := H2.2.1
      have hK' : isK 0 (c2 3 1) = true := isK0 (by omega)
      have e3' : (c2 3 1).toNat = hc := by omega
      have en2 : c2 hc 1 = n := by rw [qc2]; exact hn
      have Nn : NmR (c2 (hc + 2) n.toNat) (d2 203 43) := by
        rw [u6.1 _ (by omega), mst_hit, u7]; exact u8
      rw [if_neg (by omega : ¬ r = 0), if_neg (by omega : ¬ r = 0), if_pos hK', if_pos hK', e3', en2, if_pos (by omega : 0 ≤ n ∧ n < 6), bn_eq]
      generalize d2 203 43 = nm at *
      generalize hX : hc + 4 * n.toNat + 13 = X
      unfold fn_Walker_begin
      rw [bn_eq]
      obtain ⟨rf, c3, f1, f2, f3, f4⟩ := fillI_ok (n := 6) (a := X + 2) (x := -1) (m := mst c2 X 4 0) (by omega)
      rw [f1, bd_some, bd_some]
      have G3 : ∀ P : Nat → Nat → Prop, (∀ a j, a = X ∨ a = X + 2 → P a j) → FXc P c2 c3 := fun P hP a j => by
        right
        by_cases za : a = X ∨ a = X + 2
        · exact Or.inl (hP a j za)
        · right; rw [f2 a (by omega), mst_ne (by omega)]
      have S3 : SX (PH hc) QH c d c3 d2 := ⟨FXc_trans S2.1 (G3 _ (fun a j za => Or.inr (by omega))), S2.2.1, Tk_congr S2.2.2.1 (by rw [f2 _ (by omega), mst_ne (by omega)]) (by rw [f2 _ (by omega), mst_ne (by omega)]) rfl rfl, by rw [f2 _ (by omega), mst_ne (by omega)]; exact S2.2.2.2.1, by rw [f2 _ (by omega), mst_ne (by omega)]; exact S2.2.2.2.2⟩
      have H3 : HR hc c3 d2 := HR_pend H2 (n0 := n0) (n1 := n) (n2 := n2) (by rw [qc2]; exact hn0) en2 (by rw [qc2]; exact hn2) (G3 _ (fun a j za => by unfold PW; omega)) FXm_refl
      have qc3 : ∀ j, c3 hc j = c hc j := fun j => by rw [f2 _ (by omega), mst_ne (by omega), qc2]
      have Nn3 : NmR (c3 (hc + 2) n.toNat) nm := by rw [f2 _ (by omega), mst_ne (by omega)]; exact Nn
      have a4 : c3 X 4 = 0 := by rw [f2 _ (by omega), mst_hit]
      have a2 : ∀ p : Int, 0 ≤ p → p < 6 → c3 (X + 2) p.toNat = -1 := fun p p0 p1 => f3 _ (by omega)
      obtain ⟨k, q1, q2, q3⟩ := kind_ok S3.2.2.1 (6 + n) nm
      rw [q1, q2]
      unfold bo_HillsReader_takeKind_53 bo_Model_readsWalker_103
      rw [if_pos (by omega : 0 ≤ 6 + n ∧ 6 + n < 12), bn_eq, if_pos (by omega : 0 ≤ 6 + n ∧ 6 + n < 12), mst_hit]
      have hT : TkR c3 (mst d2 210 (6 + n).toNat k) := Tk_congr S3.2.2.1 rfl rfl (mst_ne (by omega)) (mst_ne (by omega))
      have S4 : SX (PH hc) QH c d c3 (mst d2 210 (6 + n).toNat k) := SX_md S3 (Or.inr ⟨by omega, by omega, by show 6 ≤ _; omega⟩) (by omega) (by omega)
      have H4 : HR hc c3 (mst d2 210 (6 + n).toNat k) := HR_pend H3 (n0 := n0) (n1 := n) (n2 := n2) (by rw [qc3]; exact hn0) (by rw [qc3]; exact hn) (by rw [qc3]; exact hn2) FXc_refl (FXm_m (by unfold QW; omega))
      by_cases yk : k = -1
      · obtain ⟨c4, d4, x1, x2, x3, x4, x5⟩ := wrong_ok (p := 1) hT (by omega) (by omega)
        rw [if_pos yk, if_pos (by omega : k < 0), x1, x2, bd_some, bd_some, bd_some, bn_eq, mst_hit, if_pos yk, if_pos (Or.inl rfl)]
        refine LR_fail2 S4 (FXc_trans (FXc_p x3) (FXc_m (Or.inr (by omega)))) (FXm_p x4) ?_
        unfold Wr at x5 ⊢
        rw [mst_ne (by omega)]
        exact x5
      · obtain ⟨c4, d4, x1, x2, S5, x3, x4⟩ := SX_next S4
        rw [if_neg yk, if_neg (by omega : ¬ k < 0), x1, x2, bd_some, bd_some, bd_some, bn_eq, mst_hit, if_neg yk]
        have H5 := HR_p H4 x3 x4
        have qc4 : ∀ j, mst c4 X 0 k hc j = c hc j := fun j => by rw [mst_ne (by omega), x3.1 _ (by omega), qc3]
        have S6 : SX (PH hc) QH c d (mst c4 X 0 k) d4 := SX_mc S5 (Or.inr (by omega)) (by omega) (by omega)
        have H6 : HR hc (mst c4 X 0 k) d4 := HR_pend H5 (n0 := n0) (n1 := n) (n2 := n2) (by rw [x3.1 _ (by omega), qc3]; exact hn0) (by rw [x3.1 _ (by omega), qc3]; exact hn) (by rw [x3.1 _ (by omega), qc3]; exact hn2) (FXc_m (by unfold PW; omega)) FXm_refl
        have b0 : mst c4 X 0 k X 0 = k := mst_hit
        have b0' : d4 210 (6 + n).toNat = k := by rw [x4.1 _ (by omega), mst_hit]
        have b4 : mst c4 X 0 k X 4 = 0 := by rw [mst_miss (by omega), x3.1 _ (by omega)]; exact a4
        have b2 : ∀ p : Int, 0 ≤ p → p < 6 → mst c4 X 0 k (X + 2) p.toNat = -1 := fun p p0 p1 => by rw [mst_ne (by omega), x3.1 _ (by omega)]; exact a2 p p0 p1
        have bn2 : NmR (mst c4 X 0 k (hc + 2) n.toNat) nm := by rw [mst_ne (by omega), x3.1 _ (by omega)]; exact Nn3
        revert S6 H6 qc4 b0 b4 b2 bn2
        generalize mst c4 X 0 k = cs
        intro qc4 S6 H6 b0 b4 b2 bn2
        refine wk_both (n := n) (n0 := n0) (n2 := n2) (s := 1) (A := 211) (kw := 3) hX.symm (by omega) y (by omega) S6 H6 (by rw [qc4]; exact hn0) (by rw [qc4]; exact hn) (by rw [qc4]; exact hn2) (by decide) rfl (by decide) (by omega) ?_
        intro ca da va va0 va1 Sa Ha ea1 ea2 ea3 ea4 ea5
        have qca : ∀ j, ca hc j = c hc j := fun j => by rw [ea1 _ (by omega) (by omega), qc4]
        refine wk_both (n := n) (n0 := n0) (n2 := n2) (s := 2) (A := 212) (kw := 4) hX.symm (by omega) y (by omega) Sa Ha (by rw [qca]; exact hn0) (by rw [qca]; exact hn) (by rw [qca]; exact hn2) (by decide) rfl (by decide) (by omega) ?_
        intro cb db vb vb0 vb1 Sb Hb eb1 eb2 eb3 eb4 eb5
        have qcb : ∀ j, cb hc j = c hc j := fun j => by rw [eb1 _ (by omega) (by omega), qca]
        refine wk_both (n := n) (n0 := n0) (n2 := n2) (s := 3) (A := 213) (kw := 5) hX.symm (by omega) y (by omega) Sb Hb (by rw [qcb]; exact hn0) (by rw [qcb]; exact hn) (by rw [qcb]; exact hn2) (by decide) rfl (by decide) (by omega) ?_
        intro cd dd vd vd0 vd1 Sd Hd ed1 ed2 ed3 ed4 ed5
        have qcd : ∀ j, cd hc j = c hc j := fun j => by rw [ed1 _ (by omega) (by omega), qcb]
        refine walker_tail (n0 := n0) (n2 := n2) hX.symm (by omega) y Sd Hd (by rw [qcd]; exact hn0) (by rw [qcd]; exact hn) (by rw [qcd]; exact hn2) ?_
        unfold WkV
        have p0 : cd X 0 = k := by rw [ed2 _ (by omega), eb2 _ (by omega), ea2 _ (by omega)]; exact b0
        have p1 : cd X 1 = va := by rw [ed2 _ (by omega), eb2 _ (by omega)]; exact ea3
        have p2 : cd X 2 = vb := by rw [ed2 _ (by omega)]; exact eb3
        have p4 : cd X 4 = 0 := by rw [ed2 _ (by omega), eb2 _ (by omega), ea2 _ (by omega)]; exact b4
        have d0' : dd 210 (6 + n).toNat = k := by rw [ed4 _ (by omega) (by omega), eb4 _ (by omega) (by omega), ea4 _ (by omega) (by omega)]; exact b0'
        have d1' : dd 211 (6 + n).toNat = va := by rw [ed4 _ (by omega) (by omega), eb4 _ (by omega) (by omega)]; exact ea5
        have d2' : dd 212 (6 + n).toNat = vb := by rw [ed4 _ (by omega) (by omega)]; exact eb5
        rw [p0, p1, p2, ed3, p4, d0', d1', d2', ed5]
        refine ⟨?_, ⟨rfl, by omega, by omega⟩, ⟨rfl, by omega, by omega⟩, ⟨rfl, by omega, by omega⟩, ⟨rfl, by omega, by omega⟩, rfl, fun p p0 p1 => ?_⟩
        · rw [ed1 _ (by omega) (by omega), eb1 _ (by omega) (by omega), ea1 _ (by omega) (by omega)]; exact bn2
        · rw [ed1 _ (by omega) (by omega), eb1 _ (by omega) (by omega), ea1 _ (by omega) (by omega)]; exact b2 p p0 p1
    · rw [if_pos z, if_pos z]
      exact LR_fail2 S1 (FXc_p u4) (FXm_p u3) u5
  · obtain ⟨c', d', w1, w2, w3⟩ := beg_no h hH
    rw [if_neg y, if_pos (by omega : 6 + c hc 1 = 12), w1, w2, bd_some, bd_some, if_pos (Or.inl rfl), if_pos (Or.inl rfl), bd_some, if_pos rfl]
    exact w3
end Wm
