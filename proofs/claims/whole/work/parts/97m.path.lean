/-! A path is told. -/
section Pt
variable {hc : Nat}
theorem HR_cnt {c d : Mm} (h : HR hc c d) : c hc 0 = d 205 5 ∧ c hc 1 = d 205 6 ∧ c hc 2 = d 205 7 ∧ (0 ≤ c hc 0 ∧ c hc 0 ≤ 6) ∧ (0 ≤ c hc 1 ∧ c hc 1 ≤ 6) ∧ (0 ≤ c hc 2 ∧ c hc 2 ≤ 6) := by
  obtain ⟨l1, l2, l3, l4, l5, l6, -⟩ := h.2.2.1
  exact ⟨l1, l2, l3, l4, l5, l6⟩
/-- what hills in reading ask of a name -/
theorem SX_place {P Q : Nat → Nat → Prop} {c0 d0 c d : Mm} (S : SX P Q c0 d0 c d) (h1 : hc = 4 ∨ hc = 41) (e31 : c 3 1 = (hc : Int)) (hN : NmX c hc d 1) : WhR (fn_HillsReader_whichPlace c) (fn_Model_needsPlace 1 d) (d 205 5) c d := by
  obtain ⟨l1, l2, l3, l4, l5, l6, l7, l8, l9⟩ := hN
  have hK : isK 0 (c 3 1) = true := isK0 (by omega)
  have e3 : (c 3 1).toNat = hc := by omega
  have t0 : (5 * 1 + 0 : Int).toNat = 5 := rfl
  obtain ⟨v, r', c', d', w⟩ := which_ok (a := hc + 1) (n := c hc 0) (NX := fn_Model_placeNamed 1) S.2.2.1 (fun hN => place_find (Or.inr rfl) l7 l1.symm l4.1 l4.2 hN)
  unfold fn_HillsReader_whichPlace
  rw [if_pos hK, if_pos hK, e3, ndX_place, w.1, bd_some]
  rw [t0] at l1
  exact ⟨v, r', c', d', rfl, w.2.1, w.2.2.1, w.2.2.2.1, by rw [← l1]; exact w.2.2.2.2⟩
theorem SX_walker {P Q : Nat → Nat → Prop} {c0 d0 c d : Mm} (S : SX P Q c0 d0 c d) (h1 : hc = 4 ∨ hc = 41) (e31 : c 3 1 = (hc : Int)) (hN : NmX c hc d 1) : WhR (fn_HillsReader_whichWalker c) (fn_Model_needsWalker 1 d) (d 205 6) c d := by
  obtain ⟨l1, l2, l3, l4, l5, l6, l7, l8, l9⟩ := hN
  have hK : isK 0 (c 3 1) = true := isK0 (by omega)
  have e3 : (c 3 1).toNat = hc := by omega
  have t0 : (5 * 1 + 1 : Int).toNat = 6 := rfl
  obtain ⟨v, r', c', d', w⟩ := which_ok (a := hc + 2) (n := c hc 1) (NX := fn_Model_walkerNamed 1) S.2.2.1 (fun hN => walker_find (Or.inr rfl) l8 l2.symm l5.1 l5.2 hN)
  unfold fn_HillsReader_whichWalker
  rw [if_pos hK, if_pos hK, e3, ndX_walker, w.1, bd_some]
  rw [t0] at l2
  exact ⟨v, r', c', d', rfl, w.2.1, w.2.2.1, w.2.2.2.1, by rw [← l2]; exact w.2.2.2.2⟩
/-- names stay as they are under a frame that leaves them -/
theorem NmX_fx {P Q : Nat → Nat → Prop} {c d c' d' : Mm} (h : NmX c hc d 1) (g : FXc P c c') (g' : FXm Q d d') (h1 : hc = 4 ∨ hc = 41) (hP : ∀ a j, (a = hc ∧ j < 3) → ¬ P a j) (hP1 : ∀ j : Nat, (j : Int) < c hc 0 → ¬ P (hc + 1) j) (hP2 : ∀ j : Nat, (j : Int) < c hc 1 → ¬ P (hc + 2) j) (hP3 : ∀ j : Nat, (j : Int) < c hc 2 → ¬ P (hc + 3) j) (hQ : ∀ j : Nat, j < 8 → ¬ Q 205 j) (hQ1 : ∀ j : Nat, (j : Int) < 6 + c hc 0 → ¬ Q 206 j) (hQ2 : ∀ j : Nat, (j : Int) < 6 + c hc 1 → ¬ Q 207 j) (hQ3 : ∀ j : Nat, (j : Int) < 6 + c hc 2 → ¬ Q 208 j) : NmX c' hc d' 1 :=
  NmX_pt h (fun j hj => gc g (by omega) (hP _ _ (by omega))) (fun j _ hj => gm g' (by omega) (hQ _ (by omega)))
    (fun i i0 i1 => ⟨gc g (by omega) (hP1 _ (by omega)), gm g' (by omega) (hQ1 _ (by omega))⟩)
    (fun i i0 i1 => ⟨gc g (by omega) (hP2 _ (by omega)), gm g' (by omega) (hQ2 _ (by omega))⟩)
    (fun i i0 i1 => ⟨gc g (by omega) (hP3 _ (by omega)), gm g' (by omega) (hQ3 _ (by omega))⟩)
theorem path_tail {P Q : Nat → Nat → Prop} {c0 d0 c d : Mm} {a b v : Int} (S : SX (PH hc) QH c0 d0 c d) (hH : HR hc c d) (a0 : 0 ≤ a) (a1 : a < 6) (b0 : 0 ≤ b) (b1 : b < 6) (hab : a ≠ b) (v0 : 1 ≤ v) (v1 : v ≤ 30) (a2 : a < d 205 5) (b2 : b < d 205 5) : HR hc (mst (mst (mst c (hc + 4) (6 * a + b).toNat v) (hc + 4) (6 * b + a).toNat v) hc 3 (w32 (c hc 3 + 1))) (mst (mst (mst d 209 (36 + 6 * a + b).toNat v) 209 (36 + 6 * b + a).toNat v) 205 8 (w32 (d 205 8 + 1))) := by
  obtain ⟨h1, h2, h3, h4, h5, h6, h7, h8⟩ := hH
  have G : FXc (fun k j => (k = hc ∧ j = 3) ∨ k = hc + 4) c (mst (mst (mst c (hc + 4) (6 * a + b).toNat v) (hc + 4) (6 * b + a).toNat v) hc 3 (w32 (c hc 3 + 1))) := FXc_trans (FXc_trans (FXc_m (Or.inr rfl)) (FXc_m (Or.inr rfl))) (FXc_m (Or.inl ⟨rfl, rfl⟩))
  have G' : FXm (fun k j => (k = 205 ∧ j = 8) ∨ (k = 209 ∧ 36 ≤ j)) d (mst (mst (mst d 209 (36 + 6 * a + b).toNat v) 209 (36 + 6 * b + a).toNat v) 205 8 (w32 (d 205 8 + 1))) := FXm_trans (FXm_trans (FXm_m (Or.inr ⟨rfl, by omega⟩)) (FXm_m (Or.inr ⟨rfl, by omega⟩))) (FXm_m (Or.inl ⟨rfl, rfl⟩))
  have q1 : mst (mst (mst c (hc + 4) (6 * a + b).toNat v) (hc + 4) (6 * b + a).toNat v) hc 3 (w32 (c hc 3 + 1)) hc 3 = w32 (c hc 3 + 1) := mst_hit
  have q2 : mst (mst (mst d 209 (36 + 6 * a + b).toNat v) 209 (36 + 6 * b + a).toNat v) 205 8 (w32 (d 205 8 + 1)) 205 8 = w32 (d 205 8 + 1) := mst_hit
  have q3 : ∀ j, mst (mst (mst c (hc + 4) (6 * a + b).toNat v) (hc + 4) (6 * b + a).toNat v) hc 3 (w32 (c hc 3 + 1)) (hc + 4) j = if j = (6 * b + a).toNat then v else if j = (6 * a + b).toNat then v else c (hc + 4) j := fun j => by
    rw [mst_ne (by omega), mst_self, mst_self]
  have q4 : ∀ j, mst (mst (mst d 209 (36 + 6 * a + b).toNat v) 209 (36 + 6 * b + a).toNat v) 205 8 (w32 (d 205 8 + 1)) 209 j = if j = (36 + 6 * b + a).toNat then v else if j = (36 + 6 * a + b).toNat then v else d 209 j := fun j => by
    rw [mst_ne (by omega), mst_self, mst_self]
  revert G G' q1 q2 q3 q4
  generalize mst (mst (mst c (hc + 4) (6 * a + b).toNat v) (hc + 4) (6 * b + a).toNat v) hc 3 (w32 (c hc 3 + 1)) = cf
  generalize mst (mst (mst d 209 (36 + 6 * a + b).toNat v) 209 (36 + 6 * b + a).toNat v) 205 8 (w32 (d 205 8 + 1)) = df
  intro G G' q1 q2 q3 q4
  have f5 : df 205 5 = d 205 5 := gm G' (by omega) (by omega)
  have f6 : df 205 6 = d 205 6 := gm G' (by omega) (by omega)
  have f7 : df 205 7 = d 205 7 := gm G' (by omega) (by omega)
  refine ⟨h1, ?_, ?_, ?_, ?_, ?_, ?_, ?_⟩
  · rw [gc G (by omega) (by omega)]; exact h2
  · exact NmX_fx h3 G G' h1 (fun k j z => by omega) (fun j z => by omega) (fun j z => by omega) (fun j z => by omega) (fun j z => by omega) (fun j z => by omega) (fun j z => by omega) (fun j z => by omega)
  · rw [q1, q2, gc G (by omega) (by omega), gm G' (by omega) (by omega), h4.1]
    exact ⟨rfl, h4.2⟩
  · intro p q p0 p1 q0 q1'
    rw [q3, q4, f5]
    obtain ⟨z1, z2, z3, z4, z5⟩ := h5 p q p0 p1 q0 q1'
    by_cases y1 : 6 * p + q = 6 * b + a
    · rw [if_pos (by omega : (6 * p + q).toNat = (6 * b + a).toNat), if_pos (by omega : (36 + 6 * p + q).toNat = (36 + 6 * b + a).toNat)]
      exact ⟨rfl, by omega, v1, fun z => by omega, fun z => by omega⟩
    · rw [if_neg (by omega : ¬ (6 * p + q).toNat = (6 * b + a).toNat), if_neg (by omega : ¬ (36 + 6 * p + q).toNat = (36 + 6 * b + a).toNat)]
      by_cases y2 : 6 * p + q = 6 * a + b
      · rw [if_pos (by omega : (6 * p + q).toNat = (6 * a + b).toNat), if_pos (by omega : (36 + 6 * p + q).toNat = (36 + 6 * a + b).toNat)]
        exact ⟨rfl, by omega, v1, fun z => by omega, fun z => by omega⟩
      · rw [if_neg (by omega : ¬ (6 * p + q).toNat = (6 * a + b).toNat), if_neg (by omega : ¬ (36 + 6 * p + q).toNat = (36 + 6 * a + b).toNat)]
        exact ⟨z1, z2, z3, z4, z5⟩
  · rw [f6]
    exact HR_wk h6 G G' h1 (fun a j a0 a1 => by omega) (fun a j a0 a1 => by omega) (fun j a1 => by omega) (fun a j a0 a1 => by omega) (by omega) (by omega)
  · rw [f7]
    exact HR_ho h7 G G' h1 (fun a j a0 a1 a2 => by omega) (fun a j a0 a1 a2 => by omega) (by omega) (by omega)
  · exact HR_lw h8 G G' h1 (fun a j a0 => by omega) (fun a j a0 => by omega)
/-- the class's line of a path -/
def clP (c : Mm) : Res := bd (fn_Tape_take (c 1 2) c) fun r m => if r = 0 then some (0, m) else bd (fn_HillsReader_readPath m) fun r m => if r = 0 then some (0, m) else some (1, m)
theorem path_line {c d : Mm} (h : TkR c d) (hk : ¬ c 1 6 = 1) (hH : HR hc c d) : LR hc c d (clP c) (fn_Model_readsPath d) := by
  have h1 := hH.1
  obtain ⟨c1, d1, v1, v2, S1, g1, g1'⟩ := SX_first (P := PH hc) (Q := QH) h hk FXc_refl FXm_refl rfl (Int.le_refl _)
  have H1 := HR_p hH g1 g1'
  have pid : ∀ a j, PH hc a j → PH hc a j := fun _ _ z => z
  have qid : ∀ a j, QH a j → QH a j := fun _ _ z => z
  unfold clP fn_Tape_take fn_Model_readsPath
  rw [if_pos rfl, v1, v2, bd_some, bd_some, bd_some, if_neg (by decide : ¬ (1 : Int) = 0)]
  refine LR_wrap ?_
  unfold fn_HillsReader_readPath
  obtain ⟨a, ra, c2, d2, w1, w2, w3, w4, w5⟩ := SX_place S1 h1 H1.2.1 H1.2.2.1
  have n5 : d1 205 5 ≤ 6 := by have := HR_cnt H1; omega
  rw [w1, w2, bd_some, bd_some]
  rcases w5 with ⟨y, a0, a1, w6, w7, w8⟩ | ⟨y, w5, w6⟩
  · rw [if_neg (by omega : ¬ a = -1), if_neg (by omega : ¬ ra = 0), bn_eq, w7]
    have S2 := SX_p S1 w3 w4 w8 (by rw [w6])
    have H2 := HR_p H1 w3 w4
    obtain ⟨c3, d3, v1, v2, S3, g3, g3'⟩ := SX_next S2
    have H3 := HR_p H2 g3 g3'
    rw [v1, v2, bd_some, bd_some]
    obtain ⟨b, rb, c4, d4, x1, x2, x3, x4, x5⟩ := SX_place S3 h1 H3.2.1 H3.2.2.1
    have n5' : d3 205 5 ≤ 6 := by have := HR_cnt H3; omega
    rw [x1, x2, bd_some, bd_some]
    rcases x5 with ⟨y, b0, b1, x6, x7, x8⟩ | ⟨y, x5, x6⟩
    · rw [if_neg (by omega : ¬ b = -1), if_neg (by omega : ¬ rb = 0), bn_eq, x7]
      have S4 := SX_p S3 x3 x4 x8 (by rw [x6])
      have H4 := HR_p H3 x3 x4
      have hK : isK 0 (c4 3 1) = true := isK0 (by have := H4.2.1; omega)
      have e3 : (c4 3 1).toNat = hc := by have := H4.2.1; omega
      obtain ⟨c5, d5, u1, u2, u3⟩ := wrong_no (p := 3) S4 pid qid (by omega) (by omega)
      unfold bo_HillsReader_readPath_53 bo_Model_readsPath_60
      rw [u1, u2, bd_some, bd_some, if_pos (Or.inl rfl), if_pos (Or.inl rfl)]
      by_cases z : b = a
      · rw [if_pos z, if_pos z.symm]
        exact u3
      · rw [if_neg z, if_neg (fun q : a = b => z q.symm), if_pos hK, e3, w32_in (x := a * 6) (by omega) (by omega), w32_in (x := a * 6 + b) (by omega) (by omega), w32_in (x := 6 * a) (by omega) (by omega), w32_in (x := 36 + 6 * a) (by omega) (by omega), w32_in (x := 36 + 6 * a + b) (by omega) (by omega), if_pos (by omega : 0 ≤ a * 6 + b ∧ a * 6 + b < 36), if_pos (by omega : 0 ≤ 36 + 6 * a + b ∧ 36 + 6 * a + b < 72)]
        have ee : a * 6 + b = 6 * a + b := by omega
        obtain ⟨p1, p2, p3, p4⟩ := H4.2.2.2.2.1 a b (by omega) (by omega) (by omega) (by omega)
        rw [ee, p1]
        by_cases z2 : 0 < d4 209 (36 + 6 * a + b).toNat
        · rw [if_pos z2, if_pos z2]
          exact u3
        · rw [if_neg z2, if_neg z2]
          obtain ⟨c5, d5, v1, v2, S5, g5, g5'⟩ := SX_next S4
          have H5 := HR_p H4 g5 g5'
          rw [v1, v2, bd_some, bd_some]
          obtain ⟨v, rv, c6, d6, t1, t2, t3, t4, t5⟩ := number_ok (lo := 1) (hi := 30) S5.2.2.1 (by omega)
          rw [t1, t2, bd_some, bd_some]
          rcases t5 with ⟨y, t5, t6, t7, t8, t9⟩ | ⟨y, t5, t6⟩
          · have S6 := SX_p S5 t3 t4 t8 t9
            have H6 := HR_p H5 t3 t4
            have e205b : d6 205 = d3 205 := by rw [t4.1 _ (by omega), g5'.1 _ (by omega), x4.1 _ (by omega)]
            have e205a : d6 205 = d1 205 := by rw [e205b, g3'.1 _ (by omega), w4.1 _ (by omega)]
            have hK6 : isK 0 (c6 3 1) = true := isK0 (by have := H6.2.1; omega)
            have e36 : (c6 3 1).toNat = hc := by have := H6.2.1; omega
            have m31 : ∀ j x, mst c6 (hc + 4) j x 3 1 = c6 3 1 := fun j x => by rw [mst_ne (by omega)]
            have m32 : ∀ j x i z, mst (mst c6 (hc + 4) j x) (hc + 4) i z 3 1 = c6 3 1 := fun j x i z => by rw [mst_ne (by omega), mst_ne (by omega)]
            have m33 : ∀ j x i z, mst (mst c6 (hc + 4) j x) (hc + 4) i z hc 3 = c6 hc 3 := fun j x i z => by rw [mst_ne (by omega), mst_ne (by omega)]
            have k42 : ∀ j x, mst d6 209 j x 203 42 = v := fun j x => by rw [mst_ne (by omega)]; exact t7
            have k8 : ∀ j x i z, mst (mst d6 209 j x) 209 i z 205 8 = d6 205 8 := fun j x i z => by rw [mst_ne (by omega), mst_ne (by omega)]
            have e8 : (8 : Int).toNat = 8 := rfl
            have eb : b * 6 + a = 6 * b + a := by omega
            rw [if_neg (by omega : ¬ v = -1), if_neg (by omega : ¬ rv = 0), if_pos hK6, if_pos (by omega : 0 ≤ 6 * a + b ∧ 6 * a + b < 36), if_pos (by omega : 0 ≤ 36 + 6 * a + b ∧ 36 + 6 * a + b < 72), bn_eq, bn_eq, e36, m31, t7, if_pos hK6, e36, w32_in (x := b * 6) (by omega) (by omega), w32_in (x := b * 6 + a) (by omega) (by omega), w32_in (x := 6 * b) (by omega) (by omega), w32_in (x := 36 + 6 * b) (by omega) (by omega), w32_in (x := 36 + 6 * b + a) (by omega) (by omega), if_pos (by omega : 0 ≤ b * 6 + a ∧ b * 6 + a < 36), eb]
            show LR hc c d (if isK 0 (mst (mst c6 (hc + 4) (6 * a + b).toNat v) (hc + 4) (6 * b + a).toNat v 3 1) = true then _ else _) (if 0 ≤ 36 + 6 * b + a ∧ 36 + 6 * b + a < 72 then _ else _)
            rw [if_pos (by omega : 0 ≤ 36 + 6 * b + a ∧ 36 + 6 * b + a < 72), bn_eq, k42, m32, if_pos hK6, e36, m33, bn_eq, bn_eq, e8, k8]
            refine LR_fin ?_ (path_tail (P := PH hc) (Q := QH) S6 H6 (by omega) (by omega) (by omega) (by omega) (fun q => z q.symm) t5 t6 (by rw [e205a]; exact a1) (by rw [e205b]; exact b1))
            refine SX_md (SX_md (SX_md (SX_mc (SX_mc (SX_mc S6 (Or.inr (by omega)) (by omega) (by omega)) (Or.inr (by omega)) (by omega) (by omega)) (Or.inr (by omega)) (by omega) (by omega)) (Or.inr ⟨by omega, by omega, ?_⟩) (by omega) (by omega)) (Or.inr ⟨by omega, by omega, ?_⟩) (by omega) (by omega)) (Or.inr ⟨by omega, by omega, ?_⟩) (by omega) (by omega)
            · show 36 ≤ _; omega
            · show 36 ≤ _; omega
            · show 5 ≤ 8; omega
          · rw [if_pos t5, if_pos y]
            exact LR_fail S5 pid qid t3 t4 t6
    · rw [if_pos x5, if_pos y]
      exact LR_fail S3 pid qid x3 x4 x6
  · rw [if_pos w5, if_pos y]
    exact LR_fail S1 pid qid w3 w4 w6
end Pt
