/-! The next token, in both. -/
section Tn
theorem Tk_word {c d : Mm} (hS : Sz c d) (c7 : c 1 7 = d 203 5) (c8 : c 1 8 = d 203 4) (h0 : 0 ≤ c 1 7) (h1 : c 1 7 < c 1 8) (h2 : c 1 8 ≤ c 1 0) (w : c 1 2 = -1) (hW : WdI c d) : ∃ c' d', bo_Tape_stepOverWord_70 c = some (0, c') ∧ bo_Model_nextToken_188 d = some (0, d') ∧ TkR c' d' ∧ FKc c c' ∧ FKm d d' ∧ c' 1 7 = c 1 7 := by
  obtain ⟨s1, s2, s3, s4⟩ := hS
  unfold bo_Tape_stepOverWord_70 bo_Model_nextToken_188 bo_Tape_stepOverWord_90
  rw [← c7, ← c8, w32_in (x := c 1 8 - c 1 7) (by omega) (by omega)]
  by_cases y : 8 < c 1 8 - c 1 7
  · rw [if_pos y, if_pos y, bn_eq, bn_eq]
    have e : lp_Tape_stepOverWord_95 FU 0 (mst c 1 6 0) = some (0, mst c 1 6 0) := by
      have : lp_Tape_stepOverWord_95 FU = bo_Tape_stepOverWord_95 (lp_Tape_stepOverWord_95 1999) := rfl
      rw [this]
      unfold bo_Tape_stepOverWord_95
      rw [if_pos (by decide : (0 : Int) < 29), mst_hit, if_neg (by decide : ¬ (0 : Int) = 2)]
    have f1 : FKc c (mst c 1 6 0) := FKc_mst (by omega)
    have f2 : FKm d (mst d 203 6 4) := FKm_mst (by omega) (by omega)
    refine ⟨_, _, e, rfl, ⟨Sz_congr ⟨s1, s2, s3, s4⟩ f1 f2, ?_, ?_, ?_, ?_, ?_, Or.inr ⟨?_, Or.inr (Or.inr (Or.inr ⟨mst_hit, mst_hit, ?_⟩))⟩⟩, f1, f2, mst_miss (by omega)⟩
    · rw [mst_miss (by omega), mst_miss (by omega)]; exact c7
    · rw [mst_miss (by omega), mst_miss (by omega)]; exact c8
    · rw [mst_miss (by omega)]; exact h0
    · rw [mst_miss (by omega), mst_miss (by omega)]; omega
    · rw [mst_miss (by omega), mst_miss (by omega)]; exact h2
    · rw [mst_miss (by omega), mst_miss (by omega)]; exact h1
    · rw [mst_miss (by omega)]; exact w
  · rw [if_neg y, if_neg y, bn_eq, bn_eq]
    obtain ⟨l, l1, l2, l3, l4⟩ := hW (by omega)
    obtain ⟨r, c', e, rfl, q2, q3, q4⟩ := lookup_ok 29 FU 0 (mst c 1 6 2) (by omega) (by omega) (by show 29 < 2000; omega) mst_hit
    have q3' : ∀ i, i ≠ 2 → i ≠ 6 → c' 1 i = c 1 i := fun i h2 h6 => (q3 i h2).trans (mst_miss h6)
    have f1 : FKc c c' := ⟨fun a ha => (q2 a ha).trans (mst_ne ha), q3' 0 (by omega) (by omega), q3' 1 (by omega) (by omega)⟩
    have f2 : FKm d (mst d 203 6 1) := FKm_mst (by omega) (by omega)
    have m5 : mst d 203 6 1 203 5 = d 203 5 := mst_miss (by omega)
    have m4 : mst d 203 6 1 203 4 = d 203 4 := mst_miss (by omega)
    have m7 : mst d 203 6 1 203 7 = d 203 7 := mst_miss (by omega)
    have g0 := q3' 0 (by omega) (by omega)
    have g7 := q3' 7 (by omega) (by omega)
    have g8 := q3' 8 (by omega) (by omega)
    have g3 := q3' 3 (by omega) (by omega)
    have g6 : c' 1 6 = 2 := (q3 6 (by omega)).trans mst_hit
    have a3 : mst c 1 6 2 1 3 = c 1 3 := mst_miss (by omega)
    have a2 : mst c 1 6 2 1 2 = -1 := by rw [mst_miss (by omega)]; exact w
    rw [a3, a2] at q4
    refine ⟨c', _, e, rfl, ⟨Sz_congr ⟨s1, s2, s3, s4⟩ f1 f2, by rw [m5, g7]; exact c7, by rw [m4, g8]; exact c8, by omega, by omega, by omega, Or.inr ⟨by omega, Or.inl ⟨g6, mst_hit, ?_, ?_⟩⟩⟩, f1, f2, g7⟩
    · rw [m7, g3, l3, l4]
      exact ⟨l, by omega, l2, rfl, rfl⟩
    · rw [g3]; exact q4
theorem Tk_num {c d : Mm} (hS : Sz c d) (c7 : c 1 7 = d 203 5) (c8 : c 1 8 = d 203 4) (h0 : 0 ≤ c 1 7) (h1 : c 1 7 < c 1 8) (h2 : c 1 8 ≤ c 1 0) (w : c 1 2 = -1) (hW : NbI c d) : ∃ c' d', bo_Tape_stepOverNumber_68 c = some (0, c') ∧ bo_Model_nextToken_299 d = some (0, d') ∧ TkR c' d' ∧ FKc c c' ∧ FKm d d' ∧ c' 1 7 = c 1 7 := by
  have hS' := hS
  obtain ⟨s1, s2, s3, s4⟩ := hS
  unfold bo_Tape_stepOverNumber_68 bo_Model_nextToken_299
  rw [← c7, ← c8, w32_in (x := c 1 8 - c 1 7) (by omega) (by omega)]
  have gen : ∀ x y : Int, (x = 0 ∧ y = 4 ∨ x = 3 ∧ y = 2 ∧ c 1 4 = d 203 8 ∧ 0 ≤ c 1 4 ∧ c 1 4 ≤ 9999) → TkR (mst c 1 6 x) (mst d 203 6 y) ∧ FKc c (mst c 1 6 x) ∧ FKm d (mst d 203 6 y) ∧ mst c 1 6 x 1 7 = c 1 7 := by
    intro x y hxy
    have f1 : FKc c (mst c 1 6 x) := FKc_mst (by omega)
    have f2 : FKm d (mst d 203 6 y) := FKm_mst (by omega) (by omega)
    refine ⟨⟨Sz_congr hS' f1 f2, ?_, ?_, ?_, ?_, ?_, Or.inr ⟨?_, ?_⟩⟩, f1, f2, mst_miss (by omega)⟩
    · rw [mst_miss (by omega), mst_miss (by omega)]; exact c7
    · rw [mst_miss (by omega), mst_miss (by omega)]; exact c8
    · rw [mst_miss (by omega)]; exact h0
    · rw [mst_miss (by omega), mst_miss (by omega)]; omega
    · rw [mst_miss (by omega), mst_miss (by omega)]; exact h2
    · rw [mst_miss (by omega), mst_miss (by omega)]; exact h1
    · have m4 : mst c 1 6 x 1 4 = c 1 4 := mst_miss (by omega)
      have m2 : mst c 1 6 x 1 2 = c 1 2 := mst_miss (by omega)
      have m8 : mst d 203 6 y 203 8 = d 203 8 := mst_miss (by omega)
      rw [m4, m2, m8, mst_hit, mst_hit]
      rcases hxy with ⟨rfl, rfl⟩ | ⟨rfl, rfl, z1, z2, z3⟩
      · exact Or.inr (Or.inr (Or.inr ⟨rfl, rfl, w⟩))
      · exact Or.inr (Or.inl ⟨rfl, rfl, z1, z2, z3, w⟩)
  by_cases y : 4 < c 1 8 - c 1 7
  · rw [if_pos y, if_pos y, bn_eq, bn_eq]
    exact ⟨_, _, rfl, rfl, gen 0 4 (Or.inl ⟨rfl, rfl⟩)⟩
  · rw [if_neg y, if_neg y, bn_eq, bn_eq]
    obtain ⟨z1, z2, z3⟩ := hW (by omega)
    exact ⟨_, _, rfl, rfl, gen 3 2 (Or.inr ⟨rfl, rfl, z1, z2, by omega⟩)⟩
def stC (c2 : Mm) : Res := if c2 1 7 < c2 1 0 then (if 0 ≤ c2 1 7 ∧ c2 1 7 < 1000 then bd (fn_Tape_isLetter (c2 2 (c2 1 7).toNat) c2) fun r4 m5 => if r4 = 0 then (if 0 ≤ m5 1 7 ∧ m5 1 7 < 1000 then bd (fn_Tape_isDigit (m5 2 (m5 1 7).toNat) m5) fun r7 m8 => if r7 = 0 then (bn (mst m8 1 8 (w32 ((m8 1 7) + 1))) fun m9 => if 0 ≤ m9 1 7 ∧ m9 1 7 < 1000 then bd (fn_String_indexOf (m9 2 (m9 1 7).toNat) m9) fun r11 m12 => if r11 < 0 then (bn (mst m12 1 6 0) fun m13 => some (0, m13)) else (bn (mst m12 1 6 4) fun m14 => some (0, m14)) else none) else (bd (fn_Tape_stepOverNumber  m8) fun r15 m16 => some (0, m16)) else none) else (bd (fn_Tape_stepOverWord  m5) fun r17 m18 => some (0, m18)) else none) else (bn (mst c2 1 6 1) fun m19 => some (0, m19))
def stM (d2 : Mm) : Res := if (d2 203 4) = (d2 203 3) then (bn (mst d2 203 6 0) fun m4 => some (0, m4)) else (if 0 ≤ d2 203 4 ∧ d2 203 4 < 1000 then bn (d2 204 (d2 203 4).toNat) fun x6 => if x6 < 97 then (bo_Model_nextToken_212 x6 d2) else (if 122 < x6 then (bo_Model_nextToken_212 x6 d2) else (lp_Model_nextToken_109 FU d2)) else none)
theorem stC_eq {c1 : Mm} : bo_Tape_step_47 c1 = stC (mst (mst c1 1 8 (c1 1 7)) 1 2 (-1)) := rfl
theorem stM_eq {d1 : Mm} : bo_Model_nextToken_52 d1 = stM (mst (mst (mst d1 203 5 (d1 203 4)) 203 7 0) 203 8 0) := rfl
theorem next_ok {c d : Mm} (hS : Sz c d) (c8 : c 1 8 = d 203 4) (h0 : 0 ≤ c 1 8) (h1 : c 1 8 ≤ c 1 0) : ∃ c' d', fn_Tape_step c = some (0, c') ∧ fn_Model_nextToken d = some (0, d') ∧ TkR c' d' ∧ FKc c c' ∧ FKm d d' ∧ c 1 8 ≤ c' 1 7 := by
  have f0 : FKc c (mst c 1 7 (c 1 8)) := FKc_mst (by omega)
  have hS0 : Sz (mst c 1 7 (c 1 8)) d := Sz_congr hS f0 FKm_refl
  have hsz : c 1 0 ≤ 1000 := hS.2.2.1
  have v7 : mst c 1 7 (c 1 8) 1 7 = c 1 8 := mst_hit
  have v0 : mst c 1 7 (c 1 8) 1 0 = c 1 0 := mst_miss (by omega)
  obtain ⟨c1, d1, g1, g2, g3, g4, g5, g6, g7⟩ := skip_ok (c 1 0 - c 1 8).toNat FU FU (mst c 1 7 (c 1 8)) d hS0 (by rw [v7]; exact c8) (by rw [v7]; exact h0) (by rw [v7, v0]; omega) (by show (c 1 0 - c 1 8).toNat < 2000; omega) (by show (c 1 0 - c 1 8).toNat < 2000; omega)
  have hS1 := Sz_congr hS0 g3 g4
  rw [v7] at g6
  have eC : fn_Tape_step c = bo_Tape_step_47 c1 := by unfold fn_Tape_step; rw [bn_eq]; exact g1
  have eM : fn_Model_nextToken d = bo_Model_nextToken_52 d1 := g2
  rw [eC, eM]
  have z0 : c1 1 0 = c 1 0 := g3.2.1.trans v0
  suffices hh : ∃ c' d', bo_Tape_step_47 c1 = some (0, c') ∧ bo_Model_nextToken_52 d1 = some (0, d') ∧ TkR c' d' ∧ FKc c1 c' ∧ FKm d1 d' ∧ c' 1 7 = c1 1 7 by
    obtain ⟨c', d', x1, x2, x3, x4, x5, x6⟩ := hh
    exact ⟨c', d', x1, x2, x3, FKc_trans f0 (FKc_trans g3 x4), FKm_trans g4 x5, by omega⟩
  clear eC eM g1 g2
  rw [stC_eq, stM_eq]
  generalize hc2 : mst (mst c1 1 8 (c1 1 7)) 1 2 (-1) = c2
  generalize hd2 : mst (mst (mst d1 203 5 (d1 203 4)) 203 7 0) 203 8 0 = d2
  have f1 : FKc c1 c2 := by rw [← hc2]; exact FKc_trans (FKc_mst (by omega)) (FKc_mst (by omega))
  have f2 : FKm d1 d2 := by rw [← hd2]; exact FKm_trans (FKm_trans (FKm_mst (by omega) (by omega)) (FKm_mst (by omega) (by omega))) (FKm_mst (by omega) (by omega))
  have hS2 := Sz_congr hS1 f1 f2
  have k7 : c2 1 7 = c1 1 7 := by rw [← hc2, mst_miss (by omega), mst_miss (by omega)]
  have k8 : c2 1 8 = c1 1 7 := by rw [← hc2, mst_miss (by omega), mst_hit]
  have k2 : c2 1 2 = -1 := by rw [← hc2, mst_hit]
  have k0 : c2 1 0 = c1 1 0 := f1.2.1
  have m4 : d2 203 4 = c1 1 7 := by rw [← hd2, mst_miss (by omega), mst_miss (by omega), mst_miss (by omega)]; exact g5.symm
  have m5 : d2 203 5 = c1 1 7 := by rw [← hd2, mst_miss (by omega), mst_miss (by omega), mst_hit]; exact g5.symm
  have m7 : d2 203 7 = 0 := by rw [← hd2, mst_miss (by omega), mst_hit]
  have m8 : d2 203 8 = 0 := by rw [← hd2, mst_hit]
  have m3 : d2 203 3 = c1 1 0 := by rw [← hS2.1]; exact k0
  suffices hh : ∃ c' d', stC c2 = some (0, c') ∧ stM d2 = some (0, d') ∧ TkR c' d' ∧ FKc c2 c' ∧ FKm d2 d' ∧ c' 1 7 = c2 1 7 by
    obtain ⟨c', d', x1, x2, x3, x4, x5, x6⟩ := hh
    exact ⟨c', d', x1, x2, x3, FKc_trans f1 x4, FKm_trans f2 x5, x6.trans k7⟩
  unfold stC stM
  rw [m3, m4]
  rw [k7, k0]
  by_cases y0 : c1 1 7 = c1 1 0
  · rw [if_neg (by omega), if_pos y0, bn_eq, bn_eq]
    have f3 : FKc c2 (mst c2 1 6 1) := FKc_mst (by omega)
    have f4 : FKm d2 (mst d2 203 6 0) := FKm_mst (by omega) (by omega)
    refine ⟨_, _, rfl, rfl, ⟨Sz_congr hS2 f3 f4, ?_, ?_, ?_, ?_, ?_, Or.inl ⟨mst_hit, mst_hit, ?_⟩⟩, f3, f4, by rw [mst_miss (by omega), k7]⟩
    · rw [mst_miss (by omega), mst_miss (by omega), k7, m5]
    · rw [mst_miss (by omega), mst_miss (by omega), k8, m4]
    · rw [mst_miss (by omega), k7]; omega
    · rw [mst_miss (by omega), mst_miss (by omega), k7, k8]; omega
    · rw [mst_miss (by omega), mst_miss (by omega), k8, k0]; omega
    · rw [mst_miss (by omega)]; exact k2
  · have hlt : c1 1 7 < c1 1 0 := by omega
    have hr : 0 ≤ c1 1 7 ∧ c1 1 7 < 1000 := by omega
    obtain ⟨e1, e2⟩ := hS2.2.2.2 (c1 1 7) hr.1 (by omega)
    have r2 := isF_r e2
    rw [if_pos hlt, if_pos hr, if_neg y0, if_pos hr, bn_eq, ← e1]
    unfold fn_Tape_isLetter
    generalize hx : c2 2 (c1 1 7).toNat = x at *
    have letter_case : 97 ≤ x → x ≤ 122 → ∃ c' d', (bd (fn_Tape_stepOverWord c2) fun r17 m18 => some (0, m18) : Res) = some (0, c') ∧ lp_Model_nextToken_109 FU d2 = some (0, d') ∧ TkR c' d' ∧ FKc c2 c' ∧ FKm d2 d' ∧ c' 1 7 = c2 1 7 := by
      intro x0 x1
      have f3 : FKc c2 (mst c2 1 3 0) := FKc_mst (by omega)
      have a7 : mst c2 1 3 0 1 7 = c1 1 7 := by rw [mst_miss (by omega)]; exact k7
      have a8 : mst c2 1 3 0 1 8 = c1 1 7 := by rw [mst_miss (by omega)]; exact k8
      have a0 : mst c2 1 3 0 1 0 = c1 1 0 := by rw [mst_miss (by omega)]; exact k0
      obtain ⟨c3, d3, w1, w2, w3, w4, w5, w6, w7, w8, w9, w10, w11, w12⟩ := letters_ok (c1 1 0 - c1 1 7).toNat FU FU (mst c2 1 3 0) d2 (Sz_congr hS2 f3 FKm_refl) (by rw [a8, m4]) (by rw [a7, m5]) (by rw [a7]; exact hr.1) (by rw [a7, a8]; omega) (by rw [a8, a0]; omega) (by show (c1 1 0 - c1 1 7).toNat < 2000; omega) (by show (c1 1 0 - c1 1 7).toNat < 2000; omega) (by
        unfold WdI
        rw [a8, a7, mst_hit, m7]
        intro _
        exact ⟨[], by simp, (fun a ha => by cases ha), rfl, rfl⟩)
      rw [a8, mst_ne (by omega), hx] at w12
      have w13 := w12 (by omega) x0 x1
      obtain ⟨c4, d4, u1, u2, u3, u4, u5, u6⟩ := Tk_word (Sz_congr (Sz_congr hS2 f3 FKm_refl) w3 w4) (by rw [w5, a7, w7, m5]) w8 (by rw [w5, a7]; exact hr.1) (by rw [w5, a7]; exact w13) w10 (by rw [w6, mst_miss (by omega)]; exact k2) w11
      refine ⟨c4, d4, ?_, by rw [w2, u2], u3, FKc_trans f3 (FKc_trans w3 u4), FKm_trans w4 u5, by rw [u6, w5, a7, k7]⟩
      unfold fn_Tape_stepOverWord
      rw [bn_eq, w1, u1, bd_some]
    have other_case : ¬ (97 ≤ x ∧ x ≤ 122) → ∃ c' d', (bd (fn_Tape_isDigit (c2 2 (c1 1 7).toNat) c2) fun r7 m8 => if r7 = 0 then (bn (mst m8 1 8 (w32 ((m8 1 7) + 1))) fun m9 => if 0 ≤ m9 1 7 ∧ m9 1 7 < 1000 then bd (fn_String_indexOf (m9 2 (m9 1 7).toNat) m9) fun r11 m12 => if r11 < 0 then (bn (mst m12 1 6 0) fun m13 => some (0, m13)) else (bn (mst m12 1 6 4) fun m14 => some (0, m14)) else none) else (bd (fn_Tape_stepOverNumber  m8) fun r15 m16 => some (0, m16)) : Res) = some (0, c') ∧ bo_Model_nextToken_212 x d2 = some (0, d') ∧ TkR c' d' ∧ FKc c2 c' ∧ FKm d2 d' ∧ c' 1 7 = c2 1 7 := by
      intro hx0
      unfold bo_Model_nextToken_212 fn_Tape_isDigit
      rw [hx]
      have dig_case : 48 ≤ x → x ≤ 57 → ∃ c' d', (bd (fn_Tape_stepOverNumber c2) fun r15 m16 => some (0, m16) : Res) = some (0, c') ∧ lp_Model_nextToken_224 FU d2 = some (0, d') ∧ TkR c' d' ∧ FKc c2 c' ∧ FKm d2 d' ∧ c' 1 7 = c2 1 7 := by
        intro x0 x1
        have f3 : FKc c2 (mst c2 1 4 0) := FKc_mst (by omega)
        have a7 : mst c2 1 4 0 1 7 = c1 1 7 := by rw [mst_miss (by omega)]; exact k7
        have a8 : mst c2 1 4 0 1 8 = c1 1 7 := by rw [mst_miss (by omega)]; exact k8
        have a0 : mst c2 1 4 0 1 0 = c1 1 0 := by rw [mst_miss (by omega)]; exact k0
        obtain ⟨c3, d3, w1, w2, w3, w4, w5, w6, w7, w8, w9, w10, w11, w12⟩ := digits_ok (c1 1 0 - c1 1 7).toNat FU FU (mst c2 1 4 0) d2 (Sz_congr hS2 f3 FKm_refl) (by rw [a8, m4]) (by rw [a7, m5]) (by rw [a7]; exact hr.1) (by rw [a7, a8]; omega) (by rw [a8, a0]; omega) (by show (c1 1 0 - c1 1 7).toNat < 2000; omega) (by show (c1 1 0 - c1 1 7).toNat < 2000; omega) (by
          unfold NbI
          rw [a8, a7, mst_hit, m8]
          intro _
          omega)
        rw [a8, mst_ne (by omega), hx] at w12
        have w13 := w12 (by omega) x0 x1
        obtain ⟨c4, d4, u1, u2, u3, u4, u5, u6⟩ := Tk_num (Sz_congr (Sz_congr hS2 f3 FKm_refl) w3 w4) (by rw [w5, a7, w7, m5]) w8 (by rw [w5, a7]; exact hr.1) (by rw [w5, a7]; exact w13) w10 (by rw [w6, mst_miss (by omega)]; exact k2) w11
        refine ⟨c4, d4, ?_, by rw [w2, u2], u3, FKc_trans f3 (FKc_trans w3 u4), FKm_trans w4 u5, by rw [u6, w5, a7, k7]⟩
        unfold fn_Tape_stepOverNumber
        rw [bn_eq, w1, u1, bd_some]
      have sign_case : ¬ (48 ≤ x ∧ x ≤ 57) → ∃ c' d', (bn (mst c2 1 8 (w32 ((c2 1 7) + 1))) fun m9 => if 0 ≤ m9 1 7 ∧ m9 1 7 < 1000 then bd (fn_String_indexOf (m9 2 (m9 1 7).toNat) m9) fun r11 m12 => if r11 < 0 then (bn (mst m12 1 6 0) fun m13 => some (0, m13)) else (bn (mst m12 1 6 4) fun m14 => some (0, m14)) else none : Res) = some (0, c') ∧ bo_Model_nextToken_322 x d2 = some (0, d') ∧ TkR c' d' ∧ FKc c2 c' ∧ FKm d2 d' ∧ c' 1 7 = c2 1 7 := by
        intro hx1
        have a7 : mst c2 1 8 (c1 1 7 + 1) 1 7 = c1 1 7 := by rw [mst_miss (by omega)]; exact k7
        have eM : bo_Model_nextToken_322 x d2 = some (0, mst (mst d2 203 4 (c1 1 7 + 1)) 203 6 (if isS x then 3 else 4)) := by
          unfold bo_Model_nextToken_322 bo_Model_nextToken_345
          rw [m4, w32_in (x := c1 1 7 + 1) (by omega) (by omega), bn_eq]
          by_cases q1 : x < 40
          · rw [if_pos q1, if_neg (by omega : ¬ x = 45), if_pos (by omega : x < 59), if_neg (by omega : ¬ isS x), bn_eq]
          · rw [if_neg q1]
            by_cases q2 : 43 < x
            · rw [if_pos q2]
              by_cases q3 : x = 45
              · rw [if_pos q3, if_pos (by omega : isS x), bn_eq]
              · rw [if_neg q3]
                by_cases q4 : x < 59
                · rw [if_pos q4, if_neg (by omega : ¬ isS x), bn_eq]
                · rw [if_neg q4]
                  by_cases q5 : 61 < x
                  · rw [if_pos q5, if_neg (by omega : ¬ isS x), bn_eq]
                  · rw [if_neg q5, if_pos (by omega : isS x), bn_eq]
            · rw [if_neg q2, if_pos (by omega : isS x), bn_eq]
        have eC : (bn (mst c2 1 8 (w32 ((c2 1 7) + 1))) fun m9 => if 0 ≤ m9 1 7 ∧ m9 1 7 < 1000 then bd (fn_String_indexOf (m9 2 (m9 1 7).toNat) m9) fun r11 m12 => if r11 < 0 then (bn (mst m12 1 6 0) fun m13 => some (0, m13)) else (bn (mst m12 1 6 4) fun m14 => some (0, m14)) else none : Res) = some (0, mst (mst c2 1 8 (c1 1 7 + 1)) 1 6 (if isS x then 4 else 0)) := by
          have hf : fst (fun v => decide (bsS v.toNat = x)) 8 0 < 0 ↔ ¬ isS x := by
            obtain ⟨k, rfl⟩ : ∃ k : Nat, x = k := ⟨x.toNat, by omega⟩
            exact isS_all k (by omega)
          rw [k7, w32_in (x := c1 1 7 + 1) (by omega) (by omega), bn_eq, a7, if_pos hr, mst_ne (by omega), hx, c_indexOf (by omega) (by omega), bd_some]
          by_cases q : isS x
          · have h1 : ¬ fst (fun v => decide (bsS v.toNat = x)) 8 0 < 0 := fun z => hf.mp z q
            rw [if_neg (by omega : ¬ fst (fun v => decide (bsS v.toNat = x)) 8 0 = -1), if_neg h1, if_pos q, bn_eq]
          · have h1 := hf.mpr q
            have h2 : (if fst (fun v => decide (bsS v.toNat = x)) 8 0 = -1 then (-1 : Int) else fst (fun v => decide (bsS v.toNat = x)) 8 0) < 0 := by
              split <;> omega
            rw [if_pos h2, if_neg q, bn_eq]
        have f3 : FKc c2 (mst (mst c2 1 8 (c1 1 7 + 1)) 1 6 (if isS x then 4 else 0)) := FKc_trans (FKc_mst (by omega)) (FKc_mst (by omega))
        have f4 : FKm d2 (mst (mst d2 203 4 (c1 1 7 + 1)) 203 6 (if isS x then 3 else 4)) := FKm_trans (FKm_mst (by omega) (by omega)) (FKm_mst (by omega) (by omega))
        refine ⟨_, _, eC, eM, ⟨Sz_congr hS2 f3 f4, ?_, ?_, ?_, ?_, ?_, Or.inr ⟨?_, ?_⟩⟩, f3, f4, by rw [mst_miss (by omega), a7, k7]⟩
        · rw [mst_miss (by omega), a7, mst_miss (by omega), mst_miss (by omega), m5]
        · rw [mst_miss (by omega), mst_hit, mst_miss (by omega), mst_hit]
        · rw [mst_miss (by omega), a7]; omega
        · rw [mst_miss (by omega), a7, mst_miss (by omega), mst_hit]; omega
        · rw [f3.2.1, k0, mst_miss (by omega), mst_hit]; omega
        · rw [mst_miss (by omega), a7, mst_miss (by omega), mst_hit]; omega
        · have e2' : mst (mst c2 1 8 (c1 1 7 + 1)) 1 6 (if isS x then 4 else 0) 1 2 = -1 := by rw [mst_miss (by omega), mst_miss (by omega)]; exact k2
          rw [mst_hit, mst_hit, e2']
          by_cases q : isS x
          · rw [if_pos q, if_pos q]; exact Or.inr (Or.inr (Or.inl ⟨rfl, rfl, rfl⟩))
          · rw [if_neg q, if_neg q]; exact Or.inr (Or.inr (Or.inr ⟨rfl, rfl, rfl⟩))
      by_cases x48 : x < 48
      · rw [if_pos x48, if_pos x48, bd_some, if_pos rfl]
        exact sign_case (by omega)
      · rw [if_neg x48, if_neg x48]
        by_cases x57 : 57 < x
        · rw [if_pos x57, if_pos x57, bd_some, if_pos rfl]
          exact sign_case (by omega)
        · rw [if_neg x57, if_neg x57, bd_some, if_neg (by decide : ¬ (1 : Int) = 0)]
          exact dig_case (by omega) (by omega)
    by_cases x97 : x < 97
    · rw [if_pos x97, bd_some, if_pos rfl, k7, if_pos hr, if_pos x97]
      have z := other_case (by omega)
      rw [k7] at z
      exact z
    · rw [if_neg x97, if_neg x97]
      by_cases x122 : 122 < x
      · rw [if_pos x122, bd_some, if_pos rfl, k7, if_pos hr, if_pos x122]
        have z := other_case (by omega)
        rw [k7] at z
        exact z
      · rw [if_neg x122, if_neg x122, bd_some, if_neg (by decide : ¬ (1 : Int) = 0)]
        have z := letter_case (by omega) (by omega)
        rw [k7] at z
        exact z
end Tn
