/-! The lines of the days are read by both. -/
section Ln
def RowR (c : Mm) (lb : Nat) (d : Mm) (i : Int) (J : Nat) : Prop := c (lb + 1) i.toNat = d 237 J ∧ 0 ≤ d 237 J ∧ d 237 J ≤ 4
  ∧ (d 237 J = 0 → c (lb + 2) i.toNat = d 238 J ∧ c (lb + 3) i.toNat = d 239 J ∧ 0 ≤ d 238 J ∧ d 238 J < d 205 1 ∧ 0 ≤ d 239 J ∧ d 239 J ≤ 60)
  ∧ (d 237 J = 1 → c (lb + 2) i.toNat = d 238 J ∧ 0 ≤ d 238 J ∧ d 238 J < d 205 1)
  ∧ (d 237 J = 2 → c (lb + 3) i.toNat = d 238 J ∧ c (lb + 2) i.toNat = d 239 J ∧ 0 ≤ d 238 J ∧ d 238 J < d 205 2 ∧ 0 ≤ d 239 J ∧ d 239 J < d 205 1)
theorem LnR_row {c d : Mm} {lb : Nat} {k : Int} : LnR c lb d k ↔ (c lb 0 = d 236 k.toNat ∧ 0 ≤ d 236 k.toNat ∧ d 236 k.toNat ≤ 30 ∧ ∀ i : Int, 0 ≤ i → i < d 236 k.toNat → RowR c lb d i (30 * k + i).toNat) := Iff.rfl
theorem RowR_congr {c c' d d' : Mm} {lb lb' : Nat} {i : Int} {J J' : Nat} (h : RowR c lb d i J) (e1 : c' (lb' + 1) i.toNat = c (lb + 1) i.toNat) (e2 : c' (lb' + 2) i.toNat = c (lb + 2) i.toNat) (e3 : c' (lb' + 3) i.toNat = c (lb + 3) i.toNat) (f1 : d' 237 J' = d 237 J) (f2 : d' 238 J' = d 238 J) (f3 : d' 239 J' = d 239 J) (f4 : d' 205 = d 205) : RowR c' lb' d' i J' := by
  unfold RowR at h ⊢
  rw [e1, e2, e3, f1, f2, f3, f4]
  exact h
def FLc (j : Nat) (c c' : Mm) : Prop := (∀ a, a ≠ 1 → (a < 79 ∨ 81 < a) → c' a = c a) ∧ (∀ a, 79 ≤ a → a ≤ 81 → ∀ i, i ≠ j → c' a i = c a i) ∧ c' 1 0 = c 1 0
def FLm (j : Nat) (d d' : Mm) : Prop := (∀ a, a ≠ 203 → (a < 237 ∨ 239 < a) → d' a = d a) ∧ (∀ a, 237 ≤ a → a ≤ 239 → ∀ i, i ≠ j → d' a i = d a i) ∧ ∀ i, (i < 4 ∨ (9 < i ∧ i ≠ 42 ∧ i ≠ 43)) → d' 203 i = d 203 i
theorem FLc_p {j : Nat} {a b c : Mm} (h : FLc j a b) (g : FPc b c) : FLc j a c := ⟨fun k k0 k1 => (g.1 k k0).trans (h.1 k k0 k1), fun k k0 k1 i hi => by rw [g.1 k (by omega)]; exact h.2.1 k k0 k1 i hi, g.2.1.trans h.2.2⟩
theorem FLm_p {j : Nat} {a b c : Mm} (h : FLm j a b) (g : FPm b c) : FLm j a c := ⟨fun k k0 k1 => (g.1 k k0).trans (h.1 k k0 k1), fun k k0 k1 i hi => by rw [g.1 k (by omega)]; exact h.2.1 k k0 k1 i hi, fun i hi => (g.2 i hi).trans (h.2.2 i hi)⟩
theorem FLc_m {j k : Nat} {x : Int} {a b : Mm} (h : FLc j a b) (k0 : 79 ≤ k) (k1 : k ≤ 81) : FLc j a (mst b k j x) := ⟨fun e e0 e1 => by rw [mst_ne (by omega)]; exact h.1 e e0 e1, fun e e0 e1 i hi => by
  by_cases z : e = k
  · subst z
    rw [mst_miss hi]; exact h.2.1 e e0 e1 i hi
  · rw [mst_ne z]; exact h.2.1 e e0 e1 i hi, by rw [mst_ne (by omega)]; exact h.2.2⟩
theorem FLm_m {j k : Nat} {x : Int} {a b : Mm} (h : FLm j a b) (k0 : 237 ≤ k) (k1 : k ≤ 239) : FLm j a (mst b k j x) := ⟨fun e e0 e1 => by rw [mst_ne (by omega)]; exact h.1 e e0 e1, fun e e0 e1 i hi => by
  by_cases z : e = k
  · subst z
    rw [mst_miss hi]; exact h.2.1 e e0 e1 i hi
  · rw [mst_ne z]; exact h.2.1 e e0 e1 i hi, fun i hi => by rw [mst_ne (by omega)]; exact h.2.2 i hi⟩
def StL (c0 d0 : Mm) (n : Int) (c d : Mm) : Prop := FLc n.toNat c0 c ∧ FLm (150 + n).toNat d0 d ∧ TkR c d ∧ c 1 1 = c0 1 1
theorem StL_mc {c0 d0 c d : Mm} {n x : Int} {k : Nat} (h : StL c0 d0 n c d) (k0 : 79 ≤ k) (k1 : k ≤ 81) : StL c0 d0 n (mst c k n.toNat x) d := ⟨FLc_m h.1 k0 k1, h.2.1, Tk_congr h.2.2.1 (mst_ne (by omega)) (mst_ne (by omega)) rfl rfl, by rw [mst_ne (by omega)]; exact h.2.2.2⟩
theorem StL_md {c0 d0 c d : Mm} {n x : Int} {k : Nat} (h : StL c0 d0 n c d) (k0 : 237 ≤ k) (k1 : k ≤ 239) : StL c0 d0 n c (mst d k (150 + n).toNat x) := ⟨h.1, FLm_m h.2.1 k0 k1, Tk_congr h.2.2.1 rfl rfl (mst_ne (by omega)) (mst_ne (by omega)), h.2.2.2⟩
theorem StL_p {c0 d0 c d c' d' : Mm} {n : Int} (h : StL c0 d0 n c d) (g : FPc c c') (g' : FPm d d') (t : TkR c' d') (e : c' 1 1 = c 1 1) : StL c0 d0 n c' d' := ⟨FLc_p h.1 g, FLm_p h.2.1 g', t, e.trans h.2.2.2⟩
/-- one step on -/
theorem StL_next {c0 d0 c d : Mm} {n : Int} (h : StL c0 d0 n c d) : ∃ c' d', fn_Tape_step c = some (0, c') ∧ fn_Model_nextToken d = some (0, d') ∧ StL c0 d0 n c' d' ∧ FPc c c' ∧ FPm d d' := by
  obtain ⟨c', d', w1, w2, w3, w4, w5, w6⟩ := Tk_next h.2.2.1
  have g : FPc c c' := FPc_of w4 (by have := h.2.2.1.2.2.2.2.1; omega)
  exact ⟨c', d', w1, w2, StL_p h g (FPm_of w5) w3 w4.2.2, g, FPm_of w5⟩
def FDc (c c' : Mm) : Prop := (∀ a, a ≠ 1 → (a < 78 ∨ 81 < a) → c' a = c a) ∧ c' 1 0 = c 1 0
def FDm (d d' : Mm) : Prop := (∀ a, a ≠ 203 → (a < 236 ∨ 239 < a) → d' a = d a) ∧ (∀ j, j ≠ 5 → d' 236 j = d 236 j) ∧ (∀ a, 237 ≤ a → a ≤ 239 → ∀ j, j < 150 → d' a j = d a j) ∧ ∀ i, (i < 4 ∨ (9 < i ∧ i ≠ 42 ∧ i ≠ 43)) → d' 203 i = d 203 i
theorem FDc_trans {a b c : Mm} (h : FDc a b) (g : FDc b c) : FDc a c := ⟨fun k k0 k1 => (g.1 k k0 k1).trans (h.1 k k0 k1), g.2.trans h.2⟩
theorem FDm_trans {a b c : Mm} (h : FDm a b) (g : FDm b c) : FDm a c := ⟨fun k k0 k1 => (g.1 k k0 k1).trans (h.1 k k0 k1), fun j hj => (g.2.1 j hj).trans (h.2.1 j hj), fun k k0 k1 j hj => (g.2.2.1 k k0 k1 j hj).trans (h.2.2.1 k k0 k1 j hj), fun j hj => (g.2.2.2 j hj).trans (h.2.2.2 j hj)⟩
theorem FDc_l {j : Nat} {a b : Mm} (h : FLc j a b) : FDc a b := ⟨fun k k0 k1 => h.1 k k0 (by omega), h.2.2⟩
theorem FDm_l {j : Nat} {a b : Mm} (h : FLm j a b) (hj : 150 ≤ j) : FDm a b := ⟨fun k k0 k1 => h.1 k k0 (by omega), fun i _ => by rw [h.1 236 (by omega) (by omega)], fun k k0 k1 i hi => h.2.1 k k0 k1 i (by omega), h.2.2⟩
theorem FDc_p {a b : Mm} (h : FPc a b) : FDc a b := ⟨fun k k0 _ => h.1 k k0, h.2.1⟩
theorem FDm_p {a b : Mm} (h : FPm a b) : FDm a b := ⟨fun k k0 _ => h.1 k k0, fun i _ => by rw [h.1 236 (by omega)], fun k k0 k1 i hi => by rw [h.1 k (by omega)], h.2⟩
theorem FDc_m {a : Mm} {k j : Nat} {x : Int} (k0 : 78 ≤ k) (k1 : k ≤ 81) : FDc a (mst a k j x) := ⟨fun e e0 e1 => mst_ne (by omega), by rw [mst_ne (by omega)]⟩
theorem FDm_5 {a : Mm} {x : Int} : FDm a (mst a 236 5 x) := ⟨fun e e0 e1 => mst_ne (by omega), fun j hj => mst_miss hj, fun k k0 k1 i hi => by rw [mst_ne (by omega)], fun i _ => by rw [mst_ne (by omega)]⟩
def LineR (c0 d0 : Mm) (n : Int) (oc om : Res) : Prop := ∃ r c' d', oc = some (r, c') ∧ om = some (r, d') ∧ FDc c0 c' ∧ FDm d0 d' ∧ ((r = 1 ∧ TkR c' d' ∧ c' 1 1 = c0 1 1 ∧ LnR c' 78 d' 5 ∧ c' 78 0 = n + 1) ∨ (r = 0 ∧ Wr c' d'))
def LnH (c0 d0 : Mm) (hc : Nat) (n : Int) : Prop := (hc = 4 ∨ hc = 41) ∧ NmX c0 hc d0 0 ∧ LnR c0 78 d0 5 ∧ c0 78 0 = n ∧ n < 30
variable {c0 d0 : Mm} {hc : Nat} {n : Int}
theorem ln_fail {c d c' d' : Mm} (L : LnH c0 d0 hc n) (h : StL c0 d0 n c d) (g : FDc c c') (g' : FDm d d') (w : Wr c' d') : LineR c0 d0 n (some (0, c')) (some (0, d')) := by
  have hn : 0 ≤ n := by have := L.2.2.1.2.1; have := L.2.2.1.1; have := L.2.2.2.1; omega
  exact ⟨0, c', d', rfl, rfl, FDc_trans (FDc_l h.1) g, FDm_trans (FDm_l h.2.1 (by omega)) g', Or.inr ⟨rfl, w⟩⟩
theorem ln_fin (L : LnH c0 d0 hc n) {c d : Mm} (S : StL c0 d0 n c d) (R : RowR c 78 d n (150 + n).toNat) : LineR c0 d0 n (bo_Lines_readLine_202 78 hc c) (bo_Model_readsLine_251 d) := by
  obtain ⟨L1, L2, L3, L4, L5⟩ := L
  obtain ⟨l1, l2, l3, l4⟩ := LnR_row.mp L3
  obtain ⟨S1, S2, S3, S4⟩ := S
  have t5 : (5 : Int).toNat = 5 := rfl
  rw [t5] at l1 l2 l3 l4
  have e78 : c 78 0 = n := by rw [S1.1 78 (by omega) (by omega)]; exact L4
  have e236 : d 236 5 = n := by rw [S2.1 236 (by omega) (by omega), ← l1]; exact L4
  have n0 : 0 ≤ n := by omega
  unfold bo_Lines_readLine_202 bo_Model_readsLine_251
  rw [t5, e78, e236, w32_in (x := n + 1) (by omega) (by omega), bn_eq, bn_eq]
  have hT : TkR (mst c 78 0 (n + 1)) (mst d 236 5 (n + 1)) := Tk_congr S3 (mst_ne (by omega)) (mst_ne (by omega)) (mst_ne (by omega)) (mst_ne (by omega))
  obtain ⟨r, c', d', w1, w2, w3, w4, w5⟩ := sign_ok hT
  rw [w1, w2, bd_some, bd_some]
  have r01 : r = 0 ∨ r = 1 := by omega
  rw [if_pos r01, if_pos r01]
  refine ⟨r, c', d', rfl, rfl, FDc_trans (FDc_l S1) (FDc_trans (FDc_m (by omega) (by omega)) (FDc_p w3)), FDm_trans (FDm_l S2 (by omega)) (FDm_trans FDm_5 (FDm_p w4)), ?_⟩
  rcases w5 with ⟨y, w5, w6⟩ | w5
  · left
    have e1 : c' 78 0 = n + 1 := by rw [w3.1 78 (by omega), mst_hit]
    have e2 : d' 236 5 = n + 1 := by rw [w4.1 236 (by omega), mst_hit]
    refine ⟨y, w5, ?_, ?_, e1⟩
    · rw [w6, mst_ne (by omega), S4]
    · refine LnR_row.mpr ?_
      rw [t5, e1, e2]
      refine ⟨rfl, by omega, by omega, fun i i0 i1 => ?_⟩
      have q1 : c' 79 = c 79 := by rw [w3.1 79 (by omega), mst_ne (by omega)]
      have q2 : c' 80 = c 80 := by rw [w3.1 80 (by omega), mst_ne (by omega)]
      have q3 : c' 81 = c 81 := by rw [w3.1 81 (by omega), mst_ne (by omega)]
      have p1 : d' 237 = d 237 := by rw [w4.1 237 (by omega), mst_ne (by omega)]
      have p2 : d' 238 = d 238 := by rw [w4.1 238 (by omega), mst_ne (by omega)]
      have p3 : d' 239 = d 239 := by rw [w4.1 239 (by omega), mst_ne (by omega)]
      have p4 : d' 205 = d 205 := by rw [w4.1 205 (by omega), mst_ne (by omega)]
      have p5 : d 205 = d0 205 := S2.1 205 (by omega) (by omega)
      have eJ : (30 * 5 + i).toNat = (150 + i).toNat := by omega
      rw [eJ]
      by_cases z : i = n
      · subst z
        exact RowR_congr R (by rw [q1]) (by rw [q2]) (by rw [q3]) (by rw [p1]) (by rw [p2]) (by rw [p3]) p4
      · have h0 := l4 i i0 (by omega)
        rw [eJ] at h0
        refine RowR_congr h0 ?_ ?_ ?_ ?_ ?_ ?_ (p4.trans p5)
        · rw [q1]; exact S1.2.1 79 (by omega) (by omega) _ (by omega)
        · rw [q2]; exact S1.2.1 80 (by omega) (by omega) _ (by omega)
        · rw [q3]; exact S1.2.1 81 (by omega) (by omega) _ (by omega)
        · rw [p1]; exact S2.2.1 237 (by omega) (by omega) _ (by omega)
        · rw [p2]; exact S2.2.1 238 (by omega) (by omega) _ (by omega)
        · rw [p3]; exact S2.2.1 239 (by omega) (by omega) _ (by omega)
  · right
    exact w5
theorem ln_nm (L : LnH c0 d0 hc n) {c d : Mm} (S : StL c0 d0 n c d) : NmX c hc d 0 := by
  have e : ∀ a, hc ≤ a → a ≤ hc + 3 → c a = c0 a := fun a a0 a1 => S.1.1 a (by have := L.1; omega) (by have := L.1; omega)
  have e5 : d 205 = d0 205 := S.2.1.1 205 (by omega) (by omega)
  obtain ⟨h1, h2, h3, h4, h5, h6, h7, h8, h9⟩ := L.2.1
  unfold NmX
  rw [e hc (by omega) (by omega), e5]
  exact ⟨h1, h2, h3, h4, h5, h6, NsO_congr h7 (e _ (by omega) (by omega)) (S.2.1.1 206 (by omega) (by omega)), NsO_congr h8 (e _ (by omega) (by omega)) (S.2.1.1 207 (by omega) (by omega)), NsO_congr h9 (e _ (by omega) (by omega)) (S.2.1.1 208 (by omega) (by omega))⟩
theorem ln_walker (L : LnH c0 d0 hc n) {c d : Mm} (S : StL c0 d0 n c d) : WhR (fn_Tape_which (hc + 2) (c hc 1) c) (fn_Model_needsWalker 0 d) (d 205 1) c d := by
  obtain ⟨h1, h2, h3, h4, h5, h6, h7, h8, h9⟩ := ln_nm L S
  have e : d 205 1 = c hc 1 := h2.symm
  rw [ndX_walker, e]
  exact which_ok S.2.2.1 (fun hN => walker_find (Or.inl rfl) h8 h2.symm h5.1 h5.2 hN)
theorem ln_cnt (L : LnH c0 d0 hc n) {c d : Mm} (S : StL c0 d0 n c d) : c 78 0 = n ∧ 0 ≤ n ∧ n < 30 := by
  obtain ⟨L1, L2, L3, L4, L5⟩ := L
  have := L3.1
  have := L3.2.1
  exact ⟨by rw [S.1.1 78 (by omega) (by omega)]; exact L4, by omega, L5⟩
theorem ln_num (L : LnH c0 d0 hc n) {c d : Mm} (S : StL c0 d0 n c d) (k1 : c 79 n.toNat = 0) (k2 : d 237 (150 + n).toNat = 0) (k3 : c 80 n.toNat = d 238 (150 + n).toNat) (k4 : 0 ≤ d 238 (150 + n).toNat) (k5 : d 238 (150 + n).toNat < d 205 1) : LineR c0 d0 n (bo_Lines_readLine_167 78 hc 0 c) (bo_Model_readsLine_150 0 (150 + n) d) := by
  obtain ⟨e78, n0, n1⟩ := ln_cnt L S
  unfold bo_Lines_readLine_167 bo_Model_readsLine_150
  obtain ⟨r, r', c', d', w1, w2, w3, w4, w5⟩ := number_ok (lo := 0) (hi := 60) S.2.2.1 (by omega)
  have e78' : ∀ x, (mst c' 81 n.toNat x) 78 0 = n := fun x => by rw [mst_ne (by omega), w3.1 78 (by omega)]; exact e78
  rw [if_pos rfl, if_pos rfl, w1, w2, bd_some, bd_some, e78, if_pos (by omega : 0 ≤ n ∧ n < 30), bn_eq, e78', if_pos (by omega : 0 ≤ n ∧ n < 30), mst_hit]
  rcases w5 with ⟨y, w5, w6, w7, w8, w9⟩ | ⟨y, w5, w6⟩
  · rw [if_neg (by omega : ¬ r = -1), if_neg (by omega : ¬ r' = 0), if_pos (by omega : 0 ≤ 150 + n ∧ 150 + n < 180), bn_eq, w7]
    have S' := StL_md (x := r) (k := 239) (StL_mc (x := r) (k := 81) (StL_p S w3 w4 w8 w9) (by omega) (by omega)) (by omega) (by omega)
    refine ln_fin L S' ?_
    have g1 : mst c' 81 n.toNat r (78 + 1) n.toNat = 0 := by rw [mst_ne (by omega), w3.1 _ (by omega)]; exact k1
    have g2 : mst c' 81 n.toNat r (78 + 2) n.toNat = c 80 n.toNat := by rw [mst_ne (by omega), w3.1 _ (by omega)]
    have g3 : mst c' 81 n.toNat r (78 + 3) n.toNat = r := mst_hit
    have q1 : mst d' 239 (150 + n).toNat r 237 (150 + n).toNat = 0 := by rw [mst_ne (by omega), w4.1 _ (by omega)]; exact k2
    have q2 : mst d' 239 (150 + n).toNat r 238 (150 + n).toNat = d 238 (150 + n).toNat := by rw [mst_ne (by omega), w4.1 _ (by omega)]
    have q3 : mst d' 239 (150 + n).toNat r 239 (150 + n).toNat = r := mst_hit
    have q4 : mst d' 239 (150 + n).toNat r 205 = d 205 := by rw [mst_ne (by omega), w4.1 _ (by omega)]
    unfold RowR
    rw [g1, g2, g3, q1, q2, q3, q4]
    exact ⟨rfl, by omega, by omega, fun _ => ⟨k3, rfl, k4, k5, by omega, by omega⟩, fun z => by omega, fun z => by omega⟩
  · rw [if_pos w5, if_pos y]
    refine ln_fail L S (FDc_trans (FDc_p w3) (FDc_m (by omega) (by omega))) (FDm_p w4) ?_
    unfold Wr at w6 ⊢
    rw [mst_ne (by omega)]
    exact w6
theorem ln_tail (L : LnH c0 d0 hc n) {c d : Mm} {k : Int} (S : StL c0 d0 n c d) (h0 : k ≠ 0) (h2 : k ≠ 2) (k1 : 0 ≤ k) (k2 : k ≤ 4) (R : RowR c 78 d n (150 + n).toNat) : LineR c0 d0 n (bo_Lines_readLine_167 78 hc k c) (bo_Model_readsLine_150 k (150 + n) d) := by
  unfold bo_Lines_readLine_167 bo_Model_readsLine_150
  rw [if_neg h0, if_neg h0, if_neg h2]
  exact ln_fin L S R
theorem ln_walk (L : LnH c0 d0 hc n) {c d : Mm} {k : Int} (hk : k = 0 ∨ k = 1) (S : StL c0 d0 n c d) (k1 : c 79 n.toNat = k) (k2 : d 237 (150 + n).toNat = k) : LineR c0 d0 n (bo_Lines_readLine_127 78 hc k c) (bd (fn_Model_needsWalker 0 d) fun r12 m13 => if r12 = 0 then (some (0, m13)) else (if 0 ≤ 150 + n ∧ 150 + n < 180 then bn (mst m13 238 (150 + n).toNat (m13 203 42)) fun m15 => bd (fn_Model_nextToken m15) fun r16 m17 => bo_Model_readsLine_150 k (150 + n) m17 else none)) := by
  obtain ⟨e78, n0, n1⟩ := ln_cnt L S
  unfold bo_Lines_readLine_127
  obtain ⟨v, r', c', d', w1, w2, w3, w4, w5⟩ := ln_walker L S
  have e78' : ∀ x, (mst c' 80 n.toNat x) 78 0 = n := fun x => by rw [mst_ne (by omega), w3.1 78 (by omega)]; exact e78
  rw [w1, w2, bd_some, bd_some, e78, if_pos (by omega : 0 ≤ n ∧ n < 30), bn_eq, e78', if_pos (by omega : 0 ≤ n ∧ n < 30), mst_hit]
  rcases w5 with ⟨y, w5, w6, w7, w8, w9⟩ | ⟨y, w5, w6⟩
  · rw [if_neg (by omega : ¬ v = -1), if_neg (by omega : ¬ r' = 0), if_pos (by omega : 0 ≤ 150 + n ∧ 150 + n < 180), bn_eq, w8]
    have S' := StL_md (x := v) (k := 238) (StL_mc (x := v) (k := 80) (StL_p S w3 w4 w9 (by rw [w7])) (by omega) (by omega)) (by omega) (by omega)
    obtain ⟨c2, d2, v1, v2, S2, v3, v4⟩ := StL_next S'
    rw [v1, v2, bd_some, bd_some]
    have g1 : c2 79 n.toNat = k := by rw [v3.1 _ (by omega), mst_ne (by omega), w7]; exact k1
    have g2 : c2 80 n.toNat = v := by rw [v3.1 _ (by omega), mst_hit]
    have q1 : d2 237 (150 + n).toNat = k := by rw [v4.1 _ (by omega), mst_ne (by omega), w4.1 _ (by omega)]; exact k2
    have q2 : d2 238 (150 + n).toNat = v := by rw [v4.1 _ (by omega), mst_hit]
    have q4 : d2 205 = d 205 := by rw [v4.1 _ (by omega), mst_ne (by omega), w4.1 _ (by omega)]
    rcases hk with rfl | rfl
    · exact ln_num L S2 g1 q1 (by rw [g2, q2]) (by omega) (by rw [q2, q4]; omega)
    · refine ln_tail L S2 (by omega) (by omega) (by omega) (by omega) ?_
      unfold RowR
      rw [g1, g2, q1, q2, q4]
      exact ⟨rfl, by omega, by omega, fun z => by omega, fun _ => ⟨rfl, by omega, by omega⟩, fun z => by omega⟩
  · rw [if_pos w5, if_pos y]
    refine ln_fail L S (FDc_trans (FDc_p w3) (FDc_m (by omega) (by omega))) (FDm_p w4) ?_
    unfold Wr at w6 ⊢
    rw [mst_ne (by omega)]
    exact w6
end Ln
