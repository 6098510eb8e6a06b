/-! One token, further. -/
section Ts
def NbI (c d : Mm) : Prop := c 1 8 - c 1 7 ≤ 4 → c 1 4 = d 203 8 ∧ 0 ≤ c 1 4 ∧ ((c 1 8 - c 1 7 = 0 ∧ c 1 4 ≤ 0) ∨ (c 1 8 - c 1 7 = 1 ∧ c 1 4 ≤ 9) ∨ (c 1 8 - c 1 7 = 2 ∧ c 1 4 ≤ 99) ∨ (c 1 8 - c 1 7 = 3 ∧ c 1 4 ≤ 999) ∨ (c 1 8 - c 1 7 = 4 ∧ c 1 4 ≤ 9999))
theorem digits_ok : ∀ (j n n' : Nat) (c d : Mm), Sz c d → c 1 8 = d 203 4 → c 1 7 = d 203 5 → 0 ≤ c 1 7 → c 1 7 ≤ c 1 8 → c 1 8 + j = c 1 0 → j < n → j < n' → NbI c d →
    ∃ c1 d1, lp_Tape_stepOverNumber_5 n c = bo_Tape_stepOverNumber_68 c1 ∧ lp_Model_nextToken_224 n' d = bo_Model_nextToken_299 d1 ∧ FKc c c1 ∧ FKm d d1 ∧ c1 1 7 = c 1 7 ∧ c1 1 2 = c 1 2 ∧ d1 203 5 = d 203 5 ∧ c1 1 8 = d1 203 4 ∧ c 1 8 ≤ c1 1 8 ∧ c1 1 8 ≤ c1 1 0 ∧ NbI c1 d1 ∧ (0 < j → 48 ≤ c 2 (c 1 8).toNat → c 2 (c 1 8).toNat ≤ 57 → c 1 8 < c1 1 8) := by
  intro j
  induction j with
  | zero =>
    intro n n' c d h1 h2 h2' h3 h3' h4 h5 h6 h7
    obtain ⟨k, rfl⟩ : ∃ k, n = k + 1 := ⟨n - 1, by omega⟩
    obtain ⟨k', rfl⟩ : ∃ k, n' = k + 1 := ⟨n' - 1, by omega⟩
    refine ⟨c, d, ?_, ?_, FKc_refl, FKm_refl, rfl, rfl, rfl, h2, Int.le_refl _, by omega, h7, fun z => absurd z (by omega)⟩
    · show bo_Tape_stepOverNumber_5 _ c = _
      unfold bo_Tape_stepOverNumber_5
      rw [if_neg (by omega)]
    · show bo_Model_nextToken_224 _ d = _
      unfold bo_Model_nextToken_224 fn_Model_signAt
      have := h1.1
      rw [if_neg (by omega : ¬ d 203 4 < d 203 3), bd_some, if_pos (by decide)]
  | succ j ih =>
    intro n n' c d h1 h2 h2' h3 h3' h4 h5 h6 h7
    obtain ⟨k, rfl⟩ : ∃ k, n = k + 1 := ⟨n - 1, by omega⟩
    obtain ⟨k', rfl⟩ : ∃ k, n' = k + 1 := ⟨n' - 1, by omega⟩
    obtain ⟨s1, s2, s3, s4⟩ := h1
    obtain ⟨e1, e2⟩ := s4 (c 1 8) (by omega) (by omega)
    have r2 := isF_r e2
    have eC : lp_Tape_stepOverNumber_5 (k + 1) c = if 48 ≤ c 2 (c 1 8).toNat ∧ c 2 (c 1 8).toNat ≤ 57 then lp_Tape_stepOverNumber_5 k (mst (mst c 1 4 (w32 (w32 (w32 (c 1 4 * 10) + c 2 (c 1 8).toNat) - 48))) 1 8 (c 1 8 + 1)) else bo_Tape_stepOverNumber_68 c := by
      show bo_Tape_stepOverNumber_5 _ c = _
      unfold bo_Tape_stepOverNumber_5 fn_Tape_isDigit
      rw [if_pos (by omega : c 1 8 < c 1 0), if_pos (by omega : 0 ≤ c 1 8 ∧ c 1 8 < 1000)]
      by_cases y1 : c 2 (c 1 8).toNat < 48
      · rw [if_pos y1, bd_some, if_pos rfl, if_neg (by omega)]
      · rw [if_neg y1]
        by_cases y2 : 57 < c 2 (c 1 8).toNat
        · rw [if_pos y2, bd_some, if_pos rfl, if_neg (by omega)]
        · rw [if_neg y2, bd_some, if_neg (by decide : ¬ (1 : Int) = 0), if_pos (by omega : 0 ≤ c 1 8 ∧ c 1 8 < 1000), if_pos (by omega : 48 ≤ c 2 (c 1 8).toNat ∧ c 2 (c 1 8).toNat ≤ 57), bn_eq, bn_eq, mst_miss (by omega), w32_in (x := c 1 8 + 1) (by omega) (by omega)]
    have eM : lp_Model_nextToken_224 (k' + 1) d = if 48 ≤ c 2 (c 1 8).toNat ∧ c 2 (c 1 8).toNat ≤ 57 then lp_Model_nextToken_224 k' (mst (if c 1 8 - c 1 7 < 4 then mst d 203 8 (w32 (w32 (w32 (d 203 8 * 10) + c 2 (c 1 8).toNat) - 48)) else d) 203 4 (c 1 8 + 1)) else bo_Model_nextToken_299 d := by
      show bo_Model_nextToken_224 _ d = _
      have eS : fn_Model_signAt (c 1 8) d = some (c 2 (c 1 8).toNat, d) := by
        unfold fn_Model_signAt
        rw [if_pos (by omega), if_pos (by omega), e1]
      unfold bo_Model_nextToken_224 bo_Model_nextToken_286
      rw [← h2, eS, bd_some]
      by_cases y1 : c 2 (c 1 8).toNat < 48
      · rw [if_pos y1, if_neg (by omega)]
      · rw [if_neg y1, ← h2, eS, bd_some]
        by_cases y2 : 57 < c 2 (c 1 8).toNat
        · rw [if_pos y2, if_neg (by omega)]
        · rw [if_neg y2, if_pos (by omega : 48 ≤ c 2 (c 1 8).toNat ∧ c 2 (c 1 8).toNat ≤ 57), ← h2, ← h2', w32_in (x := c 1 8 - c 1 7) (by omega) (by omega)]
          by_cases y3 : c 1 8 - c 1 7 < 4
          · rw [if_pos y3, if_pos y3, eS, bd_some, bn_eq, bn_eq, mst_miss (by omega), ← h2, w32_in (x := c 1 8 + 1) (by omega) (by omega)]
          · rw [if_neg y3, if_neg y3, bn_eq, w32_in (x := c 1 8 + 1) (by omega) (by omega)]
    rw [eC, eM]
    by_cases y : 48 ≤ c 2 (c 1 8).toNat ∧ c 2 (c 1 8).toNat ≤ 57
    · rw [if_pos y, if_pos y]
      generalize hcc : mst (mst c 1 4 (w32 (w32 (w32 (c 1 4 * 10) + c 2 (c 1 8).toNat) - 48))) 1 8 (c 1 8 + 1) = cc
      generalize hdd : mst (if c 1 8 - c 1 7 < 4 then mst d 203 8 (w32 (w32 (w32 (d 203 8 * 10) + c 2 (c 1 8).toNat) - 48)) else d) 203 4 (c 1 8 + 1) = dd
      have f1 : FKc c cc := by rw [← hcc]; exact FKc_trans (FKc_mst (by omega)) (FKc_mst (by omega))
      have f2 : FKm d dd := by
        rw [← hdd]
        refine FKm_trans ?_ (FKm_mst (by omega) (by omega))
        split
        · exact FKm_mst (by omega) (by omega)
        · exact FKm_refl
      have c8 : cc 1 8 = c 1 8 + 1 := by rw [← hcc, mst_hit]
      have c7 : cc 1 7 = c 1 7 := by rw [← hcc, mst_miss (by omega), mst_miss (by omega)]
      have cc2 : cc 1 2 = c 1 2 := by rw [← hcc, mst_miss (by omega), mst_miss (by omega)]
      have c4 : cc 1 4 = w32 (w32 (w32 (c 1 4 * 10) + c 2 (c 1 8).toNat) - 48) := by rw [← hcc, mst_miss (by omega), mst_hit]
      have d4 : dd 203 4 = c 1 8 + 1 := by rw [← hdd, mst_hit]
      have d5 : dd 203 5 = d 203 5 := by
        rw [← hdd, mst_miss (by omega)]
        split
        · rw [mst_miss (by omega)]
        · rfl
      have hW : NbI cc dd := by
        unfold NbI
        rw [c8, c7, c4]
        intro z
        obtain ⟨l1, l2, l3⟩ := h7 (by omega)
        have d8 : dd 203 8 = w32 (w32 (w32 (c 1 4 * 10) + c 2 (c 1 8).toNat) - 48) := by
          rw [← hdd, mst_miss (by omega), if_pos (by omega), mst_hit, l1]
        rw [d8]
        have hv : w32 (w32 (w32 (c 1 4 * 10) + c 2 (c 1 8).toNat) - 48) = c 1 4 * 10 + c 2 (c 1 8).toNat - 48 := by
          rw [w32_in (x := c 1 4 * 10) (by omega) (by omega), w32_in (x := c 1 4 * 10 + c 2 (c 1 8).toNat) (by omega) (by omega), w32_in (by omega) (by omega)]
        rw [hv]
        refine ⟨rfl, by omega, by omega⟩
      obtain ⟨c1, d1, g1, g2, g3, g4, g5, g6, g7, g8, g9, g10, g11, -⟩ := ih k k' cc dd (Sz_congr ⟨s1, s2, s3, s4⟩ f1 f2) (by rw [c8, d4]) (by rw [c7, d5]; exact h2') (by omega) (by omega) (by rw [c8, f1.2.1]; omega) (by omega) (by omega) hW
      exact ⟨c1, d1, g1, g2, FKc_trans f1 g3, FKm_trans f2 g4, g5.trans c7, g6.trans cc2, g7.trans d5, g8, by omega, g10, g11, fun _ _ _ => by omega⟩
    · rw [if_neg y, if_neg y]
      exact ⟨c, d, rfl, rfl, FKc_refl, FKm_refl, rfl, rfl, rfl, h2, Int.le_refl _, by omega, h7, fun _ z1 z2 => absurd ⟨z1, z2⟩ y⟩
/-- the signs of the language -/
theorem i2b_all : ∀ k : Nat, k < 127 → i2b (k : Int) = k := by decide +kernel
theorem c_indexOf {x : Int} {c : Mm} (h0 : 0 ≤ x) (h1 : x ≤ 126) : fn_String_indexOf x c = some (if fst (fun v => decide (bsS v.toNat = x)) 8 0 = -1 then -1 else fst (fun v => decide (bsS v.toNat = x)) 8 0, c) := by
  have e8 : ishr 8 0 = 8 := by decide
  have em : imx 0 0 = 0 := by decide
  have en : imn 8 8 = 8 := by decide
  have eb : i2b x = x := by
    obtain ⟨k, rfl⟩ : ∃ k : Nat, x = k := ⟨x.toNat, by omega⟩
    exact i2b_all k (by omega)
  unfold fn_String_indexOf fn_String_indexOf2 fn_String_isLatin1 fn_String_length fn_String_coder fn_StringLatin1_indexOf fn_StringLatin1_canEncode fn_StringLatin1_indexOfChar
  rw [if_neg (by decide : ¬ (1 : Int) = 0), if_pos rfl, bd_some, if_neg (by decide : ¬ (1 : Int) = 0), if_neg (by decide : ¬ (1 : Int) = 0), bd_some, bd_some, if_neg (by omega : ¬ x < 0), if_neg (by omega : ¬ 255 < x), bd_some, if_neg (by decide : ¬ (1 : Int) = 0), e8, em, en, bn_eq, bn_eq, if_pos (by decide : (0 : Int) < 8), eb, bn_eq]
  have := lp_fst (lp := fun n v mm => lp_StringLatin1_indexOfChar_7 x 0 8 n x v mm) (bo := fun k v mm => bo_StringLatin1_indexOfChar_7 x 0 8 (fun _ v' mm' => k v' mm') x v mm) (N := 8) (m := c) (P := fun v => decide (bsS v.toNat = x)) (g := fun v => v) (y := -1)
    (fun n => by
      funext v mm
      show bo_StringLatin1_indexOfChar_7 x 0 8 (lp_StringLatin1_indexOfChar_7 x 0 8 n) x v mm = _
      unfold bo_StringLatin1_indexOfChar_7
      rfl)
    (fun k v v0 v1 => by
      show bo_StringLatin1_indexOfChar_7 x 0 8 _ x v c = _
      unfold bo_StringLatin1_indexOfChar_7
      rw [if_pos v1, if_pos (by omega), w32_in (x := v + 1) (by omega) (by omega)]
      simp only [decide_eq_true_eq])
    (fun k => by
      show bo_StringLatin1_indexOfChar_7 x 0 8 _ x 8 c = _
      unfold bo_StringLatin1_indexOfChar_7
      rw [if_neg (by decide : ¬ (8 : Int) < 8)])
    8 FU 0 (by omega) (by omega) (by show 8 < 2000; omega)
  rw [this, bd_some, bd_some, bd_some]
/-- a sign of the language -/
abbrev isS (x : Int) : Prop := x = 40 ∨ x = 41 ∨ x = 42 ∨ x = 43 ∨ x = 45 ∨ x = 59 ∨ x = 60 ∨ x = 61
theorem isS_all : ∀ k : Nat, k < 127 → (fst (fun v => decide (bsS v.toNat = (k : Int))) 8 0 < 0 ↔ ¬ isS (k : Int)) := by decide +kernel
/-! The whole step. -/
/-- where the readers are: the same token, told as either side tells it -/
def TkR (c d : Mm) : Prop := Sz c d ∧ c 1 7 = d 203 5 ∧ c 1 8 = d 203 4 ∧ 0 ≤ c 1 7 ∧ c 1 7 ≤ c 1 8 ∧ c 1 8 ≤ c 1 0 ∧
  ((c 1 6 = 1 ∧ d 203 6 = 0 ∧ c 1 2 = -1) ∨ (c 1 7 < c 1 8 ∧
  ((c 1 6 = 2 ∧ d 203 6 = 1 ∧ NmR (c 1 3) (d 203 7) ∧ c 1 2 = wdk (c 1 3)) ∨ (c 1 6 = 3 ∧ d 203 6 = 2 ∧ c 1 4 = d 203 8 ∧ 0 ≤ c 1 4 ∧ c 1 4 ≤ 9999 ∧ c 1 2 = -1) ∨ (c 1 6 = 4 ∧ d 203 6 = 3 ∧ c 1 2 = -1) ∨ (c 1 6 = 0 ∧ d 203 6 = 4 ∧ c 1 2 = -1))))
/-- the class looks the word up -/
theorem lookup_ok : ∀ (j n : Nat) (v : Int) (c : Mm), v + j = 29 → 0 ≤ v → j < n → c 1 6 = 2 → TT (lp_Tape_stepOverWord_95 n v c) (fun r c' => r = 0 ∧ (∀ a, a ≠ 1 → c' a = c a) ∧ (∀ i, i ≠ 2 → c' 1 i = c 1 i) ∧ c' 1 2 = fld (fun v a => if wdL.getD v.toNat 0 = c 1 3 then -v - 2 else a) j v (c 1 2)) := by
  intro j
  induction j with
  | zero =>
    intro n v c h1 h2 h3 h4
    obtain ⟨k, rfl⟩ : ∃ k, n = k + 1 := ⟨n - 1, by omega⟩
    show TT (bo_Tape_stepOverWord_95 _ v c) _
    unfold bo_Tape_stepOverWord_95
    rw [if_neg (by omega)]
    exact TT_some.mpr ⟨rfl, fun _ _ => rfl, fun _ _ => rfl, rfl⟩
  | succ j ih =>
    intro n v c h1 h2 h3 h4
    obtain ⟨k, rfl⟩ : ∃ k, n = k + 1 := ⟨n - 1, by omega⟩
    show TT (bo_Tape_stepOverWord_95 (lp_Tape_stepOverWord_95 k) v c) _
    unfold bo_Tape_stepOverWord_95 bo_Tape_stepOverWord_136
    have ev : (-(-v - 2) - 2).toNat = v.toNat := by omega
    rw [if_pos (by omega : v < 29), if_pos h4, if_pos (by omega), if_pos (by omega), ev, w32_in (x := v + 1) (by omega) (by omega)]
    show TT _ (fun r c' => r = 0 ∧ (∀ a, a ≠ 1 → c' a = c a) ∧ (∀ i, i ≠ 2 → c' 1 i = c 1 i) ∧ c' 1 2 = fld (fun v a => if wdL.getD v.toNat 0 = c 1 3 then -v - 2 else a) j (v + 1) (if wdL.getD v.toNat 0 = c 1 3 then -v - 2 else c 1 2))
    by_cases y : wdL.getD v.toNat 0 = c 1 3
    · rw [if_pos (lcm_0.mpr y), if_pos (by omega), bn_eq, if_pos y]
      refine TT_mono (ih k (v + 1) (mst c 1 2 (-v - 2)) (by omega) (by omega) (by omega) (by rw [mst_miss (by omega)]; exact h4)) (fun r c' h => ?_)
      obtain ⟨q1, q2, q3, q4⟩ := h
      refine ⟨q1, fun a ha => (q2 a ha).trans (mst_ne ha), fun i hi => (q3 i hi).trans (mst_miss hi), ?_⟩
      rw [q4, mst_hit, mst_miss (by omega)]
    · rw [if_neg (fun z => y (lcm_0.mp z)), if_neg y]
      exact ih k (v + 1) c (by omega) (by omega) (by omega) h4
end Ts
