/-! Told names: which one it is, and new ones. -/
section Wh
def NsO (c : Mm) (a : Nat) (n : Int) (d : Mm) (b : Nat) (o : Int) : Prop := ∀ i : Int, 0 ≤ i → i < n → NmR (c a i.toNat) (d b (o + i).toNat)
theorem NsO_congr {c c' d d' : Mm} {a b : Nat} {n o : Int} (h : NsO c a n d b o) (e1 : c' a = c a) (e2 : d' b = d b) : NsO c' a n d' b o := by
  unfold NsO at h ⊢
  rw [e1, e2]
  exact h
theorem Tk_congr {c c' d d' : Mm} (h : TkR c d) (e1 : c' 1 = c 1) (e2 : c' 2 = c 2) (e3 : d' 203 = d 203) (e4 : d' 204 = d 204) : TkR c' d' := by
  unfold TkR Sz at h ⊢
  rw [e1, e2, e3, e4]
  exact h
theorem place_find {c d : Mm} {a : Nat} {n r x : Int} (hr : r = 0 ∨ r = 1) (hn : NsO c a n d 206 (6 * r)) (h5 : d 205 (5 * r + 0).toNat = n) (n0 : 0 ≤ n) (n1 : n ≤ 6) (hx : NmR x (d 203 7)) : ∃ v, fn_Tape_find a n x c = some (v, c) ∧ fn_Model_placeNamed r d = some (v, d) ∧ (v = -1 ∨ 0 ≤ v ∧ v < n) := by
  obtain ⟨v, e1, e2, e3⟩ := find_ok (o := 6 * r) hn hx n0 n1 (by omega) (by omega)
  refine ⟨v, e1, ?_, e3⟩
  unfold fn_Model_placeNamed
  rw [w32_in (x := 5 * r) (by omega) (by omega), w32_in (x := 5 * r + 0) (by omega) (by omega), w32_in (x := 6 * r) (by omega) (by omega), if_pos (by omega), h5, e2, bd_some]
theorem walker_find {c d : Mm} {a : Nat} {n r x : Int} (hr : r = 0 ∨ r = 1) (hn : NsO c a n d 207 (6 * r)) (h5 : d 205 (5 * r + 1).toNat = n) (n0 : 0 ≤ n) (n1 : n ≤ 6) (hx : NmR x (d 203 7)) : ∃ v, fn_Tape_find a n x c = some (v, c) ∧ fn_Model_walkerNamed r d = some (v, d) ∧ (v = -1 ∨ 0 ≤ v ∧ v < n) := by
  obtain ⟨v, e1, e2, e3⟩ := find_ok (o := 6 * r) hn hx n0 n1 (by omega) (by omega)
  refine ⟨v, e1, ?_, e3⟩
  unfold fn_Model_walkerNamed
  rw [w32_in (x := 5 * r) (by omega) (by omega), w32_in (x := 5 * r + 1) (by omega) (by omega), w32_in (x := 6 * r) (by omega) (by omega), if_pos (by omega), h5, e2, bd_some]
theorem hour_find {c d : Mm} {a : Nat} {n r x : Int} (hr : r = 0 ∨ r = 1) (hn : NsO c a n d 208 (6 * r)) (h5 : d 205 (5 * r + 2).toNat = n) (n0 : 0 ≤ n) (n1 : n ≤ 6) (hx : NmR x (d 203 7)) : ∃ v, fn_Tape_find a n x c = some (v, c) ∧ fn_Model_hourNamed r d = some (v, d) ∧ (v = -1 ∨ 0 ≤ v ∧ v < n) := by
  obtain ⟨v, e1, e2, e3⟩ := find_ok (o := 6 * r) hn hx n0 n1 (by omega) (by omega)
  refine ⟨v, e1, ?_, e3⟩
  unfold fn_Model_hourNamed
  rw [w32_in (x := 5 * r) (by omega) (by omega), w32_in (x := 5 * r + 2) (by omega) (by omega), w32_in (x := 6 * r) (by omega) (by omega), if_pos (by omega), h5, e2, bd_some]
def ndX (NX : Mm → Res) (d : Mm) : Res := bd (fn_Model_isKept d) fun r1 m2 => if r1 = 0 then (bd (NX m2) fun r3 m4 => bn (mst m4 203 42 r3) fun m5 => if (m5 203 42) < 0 then (bd (fn_Model_fails 2 m5) fun r6 m7 => if r6 = 0 then (some (0, m7)) else (some (1, m7))) else (some (1, m5))) else (bd (fn_Model_fails 1 m2) fun r8 m9 => if r8 = 0 ∨ r8 = 1 then some (r8, m9) else none)
theorem ndX_place {r : Int} {d : Mm} : fn_Model_needsPlace r d = ndX (fn_Model_placeNamed r) d := rfl
theorem ndX_walker {r : Int} {d : Mm} : fn_Model_needsWalker r d = ndX (fn_Model_walkerNamed r) d := rfl
/-- a name that must have been told -/
def WhR (oc om : Res) (n : Int) (c d : Mm) : Prop := ∃ v r' c' d', oc = some (v, c') ∧ om = some (r', d') ∧ FPc c c' ∧ FPm d d' ∧ ((r' = 1 ∧ 0 ≤ v ∧ v < n ∧ c' = c ∧ d' 203 42 = v ∧ TkR c' d') ∨ (r' = 0 ∧ v = -1 ∧ Wr c' d'))
theorem which_ok {NX : Mm → Res} {c d : Mm} {a : Nat} {n : Int} (h : TkR c d) (hf : NmR (c 1 3) (d 203 7) → ∃ v, fn_Tape_find a n (c 1 3) c = some (v, c) ∧ NX d = some (v, d) ∧ (v = -1 ∨ 0 ≤ v ∧ v < n)) : WhR (fn_Tape_which a n c) (ndX NX d) n c d := by
  unfold WhR fn_Tape_which ndX
  rcases kept_ok h with ⟨e1, e2, hN⟩ | ⟨e1, e2⟩
  · obtain ⟨v, f1, f2, f3⟩ := hf hN
    rw [e1, e2, bd_some, bd_some, if_neg (by decide : ¬ (1 : Int) = 0), if_pos rfl, f1, f2, bd_some, bd_some, bn_eq, mst_hit]
    have hT := Tk_mst (x := v) h (Or.inl rfl) (j := 42)
    rcases f3 with rfl | f3
    · obtain ⟨c', d', w1, w2, w3, w4, w5⟩ := wrong_ok (p := 2) hT (by omega) (by omega)
      rw [if_pos rfl, if_pos (by omega), w1, w2, bd_some, bd_some, if_pos rfl]
      exact ⟨-1, 0, c', d', rfl, rfl, w3, FPm_trans (FPm_mst (by omega)) w4, Or.inr ⟨rfl, rfl, w5⟩⟩
    · rw [if_neg (by omega), if_neg (by omega)]
      exact ⟨v, 1, c, _, rfl, rfl, FPc_refl, FPm_mst (by omega), Or.inl ⟨rfl, f3.1, f3.2, rfl, mst_hit, hT⟩⟩
  · obtain ⟨c', d', w1, w2, w3, w4, w5⟩ := wrong_ok (p := 1) h (by omega) (by omega)
    rw [e1, e2, bd_some, bd_some, if_pos rfl, if_neg (by decide : ¬ (1 : Int) = 0), w1, w2, bd_some, bd_some, if_pos (Or.inl rfl)]
    exact ⟨-1, 0, c', d', rfl, rfl, w3, w4, Or.inr ⟨rfl, rfl, w5⟩⟩
/-- an hour that must have been told: the class's which beside the steps of the reference -/
theorem hour_ok {c d : Mm} {a : Nat} {n : Int} (h : TkR c d) (hf : NmR (c 1 3) (d 203 7) → ∃ v, fn_Tape_find a n (c 1 3) c = some (v, c) ∧ fn_Model_hourNamed 0 d = some (v, d) ∧ (v = -1 ∨ 0 ≤ v ∧ v < n)) : (∃ c' d', fn_Tape_which a n c = some (-1, c') ∧ fn_Model_isKept d = some (1, d) ∧ fn_Model_fails 1 d = some (0, d') ∧ FPc c c' ∧ FPm d d' ∧ Wr c' d') ∨ (fn_Model_isKept d = some (0, d) ∧ ∃ v, fn_Model_hourNamed 0 d = some (v, d) ∧ ((v = -1 ∧ ∃ c', fn_Tape_which a n c = some (-1, c') ∧ FPc c c' ∧ ∀ d2, (∀ b, b ≠ 238 → d2 b = d b) → ∃ d', fn_Model_fails 2 d2 = some (0, d') ∧ FPm d2 d' ∧ Wr c' d') ∨ (0 ≤ v ∧ v < n ∧ fn_Tape_which a n c = some (v, c)))) := by
  unfold fn_Tape_which
  rcases kept_ok h with ⟨e1, e2, hN⟩ | ⟨e1, e2⟩
  · obtain ⟨v, f1, f2, f3⟩ := hf hN
    right
    refine ⟨e2, v, f2, ?_⟩
    rw [e1, bd_some, if_neg (by decide : ¬ (1 : Int) = 0), f1, bd_some]
    rcases f3 with rfl | f3
    · left
      refine ⟨rfl, ?_⟩
      obtain ⟨c', d', w1, w2, w3, w4, w5⟩ := wrong_ok (p := 2) h (by omega) (by omega)
      rw [if_pos rfl, w1, bd_some]
      refine ⟨c', rfl, w3, fun d2 hd => ?_⟩
      obtain ⟨c'', d'', v1, v2, v3, v4, v5⟩ := wrong_ok (c := c) (d := d2) (p := 2) (Tk_congr h rfl rfl (hd 203 (by omega)) (hd 204 (by omega))) (by omega) (by omega)
      rw [w1] at v1
      injection v1 with v1
      injection v1 with _ v1
      rw [v1]
      exact ⟨d'', v2, v4, v5⟩
    · right
      rw [if_neg (by omega)]
      exact ⟨f3.1, f3.2, rfl⟩
  · left
    obtain ⟨c', d', w1, w2, w3, w4, w5⟩ := wrong_ok (p := 1) h (by omega) (by omega)
    rw [e1, bd_some, if_pos rfl, w1, bd_some]
    exact ⟨c', d', rfl, e2, w2, w3, w4, w5⟩
/-- the three counts of names, in hills of the class and a half of the reference -/
def NmX (c : Mm) (hc : Nat) (d : Mm) (r : Int) : Prop := c hc 0 = d 205 (5 * r + 0).toNat ∧ c hc 1 = d 205 (5 * r + 1).toNat ∧ c hc 2 = d 205 (5 * r + 2).toNat
  ∧ (0 ≤ c hc 0 ∧ c hc 0 ≤ 6) ∧ (0 ≤ c hc 1 ∧ c hc 1 ≤ 6) ∧ (0 ≤ c hc 2 ∧ c hc 2 ≤ 6)
  ∧ NsO c (hc + 1) (c hc 0) d 206 (6 * r) ∧ NsO c (hc + 2) (c hc 1) d 207 (6 * r) ∧ NsO c (hc + 3) (c hc 2) d 208 (6 * r)
theorem told_ok {c d : Mm} {hc : Nat} {r x : Int} (hr : r = 0 ∨ r = 1) (hN : NmX c hc d r) (hx : NmR x (d 203 7)) : ∃ v1 v2 v3, fn_Model_placeNamed r d = some (v1, d) ∧ fn_Model_walkerNamed r d = some (v2, d) ∧ fn_Model_hourNamed r d = some (v3, d) ∧ (v1 = -1 ∨ 0 ≤ v1) ∧ (v2 = -1 ∨ 0 ≤ v2) ∧ (v3 = -1 ∨ 0 ≤ v3) ∧ fn_Hills_isTold hc x c = some (if v1 = -1 ∧ v2 = -1 ∧ v3 = -1 then 0 else 1, c) := by
  obtain ⟨a1, a2, a3, b1, b2, b3, g1, g2, g3⟩ := hN
  obtain ⟨v1, e1, f1, q1⟩ := place_find hr g1 a1.symm b1.1 b1.2 hx
  obtain ⟨v2, e2, f2, q2⟩ := walker_find hr g2 a2.symm b2.1 b2.2 hx
  obtain ⟨v3, e3, f3, q3⟩ := hour_find hr g3 a3.symm b3.1 b3.2 hx
  refine ⟨v1, v2, v3, f1, f2, f3, by omega, by omega, by omega, ?_⟩
  unfold fn_Hills_isTold
  rw [e1, bd_some]
  by_cases y1 : v1 = -1
  · rw [if_pos y1, e2, bd_some]
    by_cases y2 : v2 = -1
    · rw [if_pos y2, e3, bd_some]
      by_cases y3 : v3 = -1
      · rw [if_pos y3, if_pos ⟨y1, y2, y3⟩]
      · rw [if_neg y3, if_neg (fun z => y3 z.2.2)]
    · rw [if_neg y2, if_neg (fun z => y2 z.2.1)]
  · rw [if_neg y1, if_neg (fun z => y1 z.1)]
theorem new_ok {c d : Mm} {hc p : Nat} {n : Int} (h : TkR c d) (h3 : c 3 1 = (hc : Int)) (hk : hc = 4 ∨ hc = 41) (hN : NmX c hc d 1) (p3 : 3 < p) (n0 : 0 ≤ n) (n1 : n < 6) : ∃ r c' d', fn_HillsReader_readNewName p n c = some (r, c') ∧ fn_Model_needsNew d = some (r, d') ∧ FPm d d' ∧ ((r = 1 ∧ TkR c' d' ∧ c' 1 1 = c 1 1 ∧ FPc (mst c p n.toNat (c 1 3)) c' ∧ d' 203 43 = d 203 7 ∧ NmR (c 1 3) (d 203 7)) ∨ (r = 0 ∧ FPc c c' ∧ Wr c' d')) := by
  unfold fn_HillsReader_readNewName fn_Model_needsNew bo_Model_needsNew_37
  rcases kept_ok h with ⟨e1, e2, hN2⟩ | ⟨e1, e2⟩
  · obtain ⟨v1, v2, v3, f1, f2, f3, q1, q2, q3, f4⟩ := told_ok (Or.inr rfl) hN hN2
    have hK : isK 0 (c 3 1) = true := isK0 (by omega)
    have e3 : (c 3 1).toNat = hc := by omega
    rw [e1, e2, bd_some, bd_some, if_neg (by decide : ¬ (1 : Int) = 0), if_pos rfl, if_pos hK, e3, f4, f1, bd_some, bd_some]
    by_cases y : v1 = -1 ∧ v2 = -1 ∧ v3 = -1
    · rw [if_pos y, if_pos rfl, if_pos ⟨n0, n1⟩, bn_eq, if_pos (by omega : v1 < 0), f2, bd_some, if_pos (by omega : v2 < 0), f3, bd_some, if_pos (by omega : v3 < 0), bn_eq]
      have hT : TkR (mst c p n.toNat (c 1 3)) (mst d 203 43 (d 203 7)) := Tk_congr (Tk_mst (x := d 203 7) h (Or.inr rfl) (j := 43)) (mst_ne (by omega)) (mst_ne (by omega)) rfl rfl
      obtain ⟨c', d', w1, w2, w3, w4, w5, w6⟩ := Tk_next hT
      rw [w1, w2, bd_some, bd_some]
      refine ⟨1, c', d', rfl, rfl, FPm_trans (FPm_mst (by omega)) (FPm_of w5), Or.inl ⟨rfl, w3, (by rw [w4.2.2, mst_ne (by omega)]), FPc_of w4 (by have := hT.2.2.2.2.1; omega), ?_, hN2⟩⟩
      rw [w5.2 43 (by omega), mst_hit]
    · obtain ⟨c', d', w1, w2, w3, w4, w5⟩ := wrong_ok (p := 3) h (by omega) (by omega)
      have eM : (if v1 < 0 then bd (fn_Model_walkerNamed 1 d) fun r5 m6 => if r5 < 0 then bd (fn_Model_hourNamed 1 m6) fun r7 m8 => if r7 < 0 then bn (mst m8 203 43 (m8 203 7)) fun m9 => bd (fn_Model_nextToken m9) fun r10 m11 => some (1, m11) else bd (fn_Model_fails 3 m8) fun r1 m2 => if r1 = 0 ∨ r1 = 1 then some (r1, m2) else none else bd (fn_Model_fails 3 m6) fun r1 m2 => if r1 = 0 ∨ r1 = 1 then some (r1, m2) else none else bd (fn_Model_fails 3 d) fun r1 m2 => if r1 = 0 ∨ r1 = 1 then some (r1, m2) else none) = some (0, d') := by
        by_cases y1 : v1 < 0
        · rw [if_pos y1, f2, bd_some]
          by_cases y2 : v2 < 0
          · rw [if_pos y2, f3, bd_some, if_neg (by omega), w2, bd_some, if_pos (Or.inl rfl)]
          · rw [if_neg y2, w2, bd_some, if_pos (Or.inl rfl)]
        · rw [if_neg y1, w2, bd_some, if_pos (Or.inl rfl)]
      rw [if_neg y, if_neg (by decide : ¬ (1 : Int) = 0), w1, bd_some, if_pos (Or.inl rfl), eM]
      exact ⟨0, c', d', rfl, rfl, w4, Or.inr ⟨rfl, w3, w5⟩⟩
  · obtain ⟨c', d', w1, w2, w3, w4, w5⟩ := wrong_ok (p := 1) h (by omega) (by omega)
    rw [e1, e2, bd_some, bd_some, if_pos rfl, if_neg (by decide : ¬ (1 : Int) = 0), w1, w2, bd_some, bd_some, if_pos (Or.inl rfl), if_pos (Or.inl rfl)]
    exact ⟨0, c', d', rfl, rfl, w4, Or.inr ⟨rfl, w3, w5⟩⟩
end Wh
