/-! Reading hills: what a line may change, and what is told so far. -/
section Fx
def FXc (P : Nat → Nat → Prop) (c c' : Mm) : Prop := ∀ a j, (a = 1 ∧ j ≠ 0) ∨ P a j ∨ c' a j = c a j
def FXm (Q : Nat → Nat → Prop) (d d' : Mm) : Prop := ∀ a j, (a = 203 ∧ ((4 ≤ j ∧ j ≤ 9) ∨ j = 42 ∨ j = 43)) ∨ Q a j ∨ d' a j = d a j
variable {P P' Q Q' : Nat → Nat → Prop}
theorem FXc_refl {c : Mm} : FXc P c c := fun _ _ => Or.inr (Or.inr rfl)
theorem FXm_refl {c : Mm} : FXm Q c c := fun _ _ => Or.inr (Or.inr rfl)
theorem FXc_trans {a b c : Mm} (h : FXc P a b) (g : FXc P b c) : FXc P a c := fun k j => by
  rcases h k j with y | y | y
  · exact Or.inl y
  · exact Or.inr (Or.inl y)
  · rcases g k j with z | z | z
    · exact Or.inl z
    · exact Or.inr (Or.inl z)
    · exact Or.inr (Or.inr (z.trans y))
theorem FXm_trans {a b c : Mm} (h : FXm Q a b) (g : FXm Q b c) : FXm Q a c := fun k j => by
  rcases h k j with y | y | y
  · exact Or.inl y
  · exact Or.inr (Or.inl y)
  · rcases g k j with z | z | z
    · exact Or.inl z
    · exact Or.inr (Or.inl z)
    · exact Or.inr (Or.inr (z.trans y))
theorem FXc_mono {a b : Mm} (h : FXc P a b) (g : ∀ k j, P k j → P' k j) : FXc P' a b := fun k j => (h k j).imp id (Or.imp (g k j) id)
theorem FXm_mono {a b : Mm} (h : FXm Q a b) (g : ∀ k j, Q k j → Q' k j) : FXm Q' a b := fun k j => (h k j).imp id (Or.imp (g k j) id)
theorem FXc_p {a b : Mm} (h : FPc a b) : FXc P a b := fun k j => by
  by_cases z : k = 1
  · subst z
    by_cases y : j = 0
    · subst y; exact Or.inr (Or.inr h.2.1)
    · exact Or.inl ⟨rfl, y⟩
  · exact Or.inr (Or.inr (by rw [h.1 k z]))
theorem FXm_p {a b : Mm} (h : FPm a b) : FXm Q a b := fun k j => by
  by_cases z : k = 203
  · subst z
    by_cases y : (4 ≤ j ∧ j ≤ 9) ∨ j = 42 ∨ j = 43
    · exact Or.inl ⟨rfl, y⟩
    · exact Or.inr (Or.inr (h.2 j (by omega)))
  · exact Or.inr (Or.inr (by rw [h.1 k z]))
theorem FXc_m {a : Mm} {k j : Nat} {x : Int} (h : P k j) : FXc P a (mst a k j x) := fun e i => by
  by_cases z : e = k ∧ i = j
  · obtain ⟨rfl, rfl⟩ := z
    exact Or.inr (Or.inl h)
  · right; right
    by_cases y : e = k
    · subst y; exact mst_miss (fun q => z ⟨rfl, q⟩)
    · rw [mst_ne y]
theorem FXm_m {a : Mm} {k j : Nat} {x : Int} (h : Q k j) : FXm Q a (mst a k j x) := fun e i => by
  by_cases z : e = k ∧ i = j
  · obtain ⟨rfl, rfl⟩ := z
    exact Or.inr (Or.inl h)
  · right; right
    by_cases y : e = k
    · subst y; exact mst_miss (fun q => z ⟨rfl, q⟩)
    · rw [mst_ne y]
theorem gc {c c' : Mm} {k j : Nat} (h : FXc P c c') (h1 : k ≠ 1 ∨ j = 0) (h2 : ¬ P k j) : c' k j = c k j := by
  rcases h k j with y | y | y
  · omega
  · exact absurd y h2
  · exact y
theorem gm {c c' : Mm} {k j : Nat} (h : FXm Q c c') (h1 : k ≠ 203 ∨ (j < 4 ∨ (9 < j ∧ j ≠ 42 ∧ j ≠ 43))) (h2 : ¬ Q k j) : c' k j = c k j := by
  rcases h k j with y | y | y
  · omega
  · exact absurd y h2
  · exact y
theorem gcr {c c' : Mm} {k : Nat} (h : FXc P c c') (h1 : k ≠ 1) (h2 : ∀ j, ¬ P k j) : c' k = c k := funext fun j => gc h (Or.inl h1) (h2 j)
theorem gmr {c c' : Mm} {k : Nat} (h : FXm Q c c') (h1 : k ≠ 203) (h2 : ∀ j, ¬ Q k j) : c' k = c k := funext fun j => gm h (Or.inl h1) (h2 j)
def half (a : Nat) : Nat := if a = 205 then 5 else if a ≤ 208 then 6 else if a = 209 then 36 else if a ≤ 213 then 6 else if a = 214 then 24 else if a = 215 then 6 else if a ≤ 217 then 36 else if a ≤ 220 then 6 else if a ≤ 222 then 1 else 1000
def PH (hc : Nat) (a j : Nat) : Prop := (a = 3 ∧ j = 2) ∨ (hc ≤ a ∧ a ≤ hc + 36 ∧ (a ≠ hc ∨ j ≠ 0))
def QH (a j : Nat) : Prop := ((a = 203 ∧ j = 29) ∨ a = 224 ∨ a = 225) ∨ (205 ≤ a ∧ a ≤ 223 ∧ half a ≤ j)
/-! what is told so far -/
def WkR (c : Mm) (hc : Nat) (d : Mm) (w : Int) : Prop :=
  (c (hc + 4 * w.toNat + 13) 0 = d 210 (6 + w).toNat ∧ 0 ≤ d 210 (6 + w).toNat ∧ d 210 (6 + w).toNat ≤ 3)
  ∧ (c (hc + 4 * w.toNat + 13) 1 = d 211 (6 + w).toNat ∧ 0 ≤ d 211 (6 + w).toNat ∧ d 211 (6 + w).toNat ≤ 239)
  ∧ (c (hc + 4 * w.toNat + 13) 2 = d 212 (6 + w).toNat ∧ 1 ≤ d 212 (6 + w).toNat ∧ d 212 (6 + w).toNat ≤ 5)
  ∧ (c (hc + 4 * w.toNat + 13) 3 = d 213 (6 + w).toNat ∧ 0 ≤ d 213 (6 + w).toNat ∧ d 213 (6 + w).toNat ≤ 30)
  ∧ (c (hc + 4 * w.toNat + 13) 4 = d 215 (6 + w).toNat ∧ 2 ≤ d 215 (6 + w).toNat ∧ d 215 (6 + w).toNat ≤ 4)
  ∧ (∀ i : Int, 0 ≤ i → i < d 215 (6 + w).toNat → c (hc + 4 * w.toNat + 14) i.toNat = d 214 (24 + 4 * w + i).toNat ∧ 0 ≤ d 214 (24 + 4 * w + i).toNat ∧ d 214 (24 + 4 * w + i).toNat < d 205 5)
  ∧ (∀ i : Int, 0 ≤ i → i + 1 < d 215 (6 + w).toNat → d 214 (24 + 4 * w + i).toNat ≠ d 214 (24 + 4 * w + i + 1).toNat)
  ∧ (∀ p : Int, 0 ≤ p → p < 6 → c (hc + 4 * w.toNat + 15) p.toNat = d 216 (36 + 6 * w + p).toNat - 1 ∧ 0 ≤ d 216 (36 + 6 * w + p).toNat ∧ d 216 (36 + 6 * w + p).toNat ≤ d 205 6 ∧ (d 216 (36 + 6 * w + p).toNat ≠ 0 → c (hc + 4 * w.toNat + 16) p.toNat = d 217 (36 + 6 * w + p).toNat ∧ 1 ≤ d 217 (36 + 6 * w + p).toNat ∧ d 217 (36 + 6 * w + p).toNat ≤ 60))
theorem WkR_congr {c c' d d' : Mm} {hc : Nat} {w : Int} (h : WkR c hc d w) (e1 : ∀ j, j < 5 → c' (hc + 4 * w.toNat + 13) j = c (hc + 4 * w.toNat + 13) j) (e2 : ∀ i, 14 ≤ i → i ≤ 16 → ∀ j, c' (hc + 4 * w.toNat + i) j = c (hc + 4 * w.toNat + i) j) (f1 : ∀ a, 210 ≤ a → a ≤ 213 ∨ a = 215 → d' a (6 + w).toNat = d a (6 + w).toNat) (f2 : ∀ i : Int, 0 ≤ i → i < 4 → d' 214 (24 + 4 * w + i).toNat = d 214 (24 + 4 * w + i).toNat) (f3 : ∀ p : Int, 0 ≤ p → p < 6 → d' 216 (36 + 6 * w + p).toNat = d 216 (36 + 6 * w + p).toNat ∧ d' 217 (36 + 6 * w + p).toNat = d 217 (36 + 6 * w + p).toNat) (f4 : d 205 5 ≤ d' 205 5) (f5 : d 205 6 ≤ d' 205 6) : WkR c' hc d' w := by
  unfold WkR at h ⊢
  rw [e1 0 (by omega), e1 1 (by omega), e1 2 (by omega), e1 3 (by omega), e1 4 (by omega), f1 210 (by omega) (by omega), f1 211 (by omega) (by omega), f1 212 (by omega) (by omega), f1 213 (by omega) (by omega), f1 215 (by omega) (by omega)]
  obtain ⟨h1, h2, h3, h4, h5, h6, h7, h8⟩ := h
  refine ⟨h1, h2, h3, h4, h5, fun i i0 i1 => ?_, fun i i0 i1 => ?_, fun p p0 p1 => ?_⟩
  · rw [e2 14 (by omega) (by omega), f2 i i0 (by omega)]
    obtain ⟨q1, q2, q3⟩ := h6 i i0 i1
    exact ⟨q1, q2, by omega⟩
  · have e : 24 + 4 * w + i + 1 = 24 + 4 * w + (i + 1) := by omega
    have := h7 i i0 i1
    rw [e] at this ⊢
    rw [f2 i i0 (by omega), f2 (i + 1) (by omega) (by omega)]
    exact this
  · rw [e2 15 (by omega) (by omega), e2 16 (by omega) (by omega), (f3 p p0 p1).1, (f3 p p0 p1).2]
    obtain ⟨q1, q2, q3, q4⟩ := h8 p p0 p1
    exact ⟨q1, q2, by omega, q4⟩
def HoR (c : Mm) (hc : Nat) (d : Mm) (h : Int) : Prop :=
  (c (hc + 7) h.toNat = d 218 (6 + h).toNat ∧ 0 ≤ d 218 (6 + h).toNat ∧ d 218 (6 + h).toNat < d 205 6)
  ∧ (c (hc + 8) h.toNat = d 219 (6 + h).toNat ∧ 0 ≤ d 219 (6 + h).toNat ∧ d 219 (6 + h).toNat < d 205 5)
  ∧ (c (hc + 9) h.toNat = d 220 (6 + h).toNat ∧ 0 ≤ d 220 (6 + h).toNat ∧ d 220 (6 + h).toNat ≤ 239)
theorem HoR_congr {c c' d d' : Mm} {hc : Nat} {h : Int} (g : HoR c hc d h) (e : ∀ i, 7 ≤ i → i ≤ 9 → c' (hc + i) h.toNat = c (hc + i) h.toNat) (f1 : ∀ a, 218 ≤ a → a ≤ 220 → d' a (6 + h).toNat = d a (6 + h).toNat) (f4 : d 205 5 ≤ d' 205 5) (f5 : d 205 6 ≤ d' 205 6) : HoR c' hc d' h := by
  unfold HoR at g ⊢
  rw [e 7 (by omega) (by omega), e 8 (by omega) (by omega), e 9 (by omega) (by omega), f1 218 (by omega) (by omega), f1 219 (by omega) (by omega), f1 220 (by omega) (by omega)]
  omega
def PaR (c : Mm) (hc : Nat) (d : Mm) : Prop := ∀ p q : Int, 0 ≤ p → p < 6 → 0 ≤ q → q < 6 → c (hc + 4) (6 * p + q).toNat = d 209 (36 + 6 * p + q).toNat ∧ 0 ≤ d 209 (36 + 6 * p + q).toNat ∧ d 209 (36 + 6 * p + q).toNat ≤ 30 ∧ (p = q → d 209 (36 + 6 * p + q).toNat = 0) ∧ (d 205 5 ≤ p ∨ d 205 5 ≤ q → d 209 (36 + 6 * p + q).toNat = 0)
theorem PaR_congr {c c' d d' : Mm} {hc : Nat} (h : PaR c hc d) (e : c' (hc + 4) = c (hc + 4)) (f : d' 209 = d 209) (f5 : d 205 5 ≤ d' 205 5) : PaR c' hc d' := by
  unfold PaR at h ⊢
  rw [e, f]
  intro p q p0 p1 q0 q1
  obtain ⟨z1, z2, z3, z4, z5⟩ := h p q p0 p1 q0 q1
  exact ⟨z1, z2, z3, z4, fun z => z5 (by omega)⟩
/-- the law of the second half, once it is laid -/
def LawM1 (f : Int → Int → Int → Int) (d : Mm) : Prop := ∀ H : Mm, H 221 0 = 0 → H 222 0 = d 222 1 - 1000 → (∀ j : Nat, j < 1000 → H 223 j = d 223 (1000 + j)) → LawM f H
def LwR (c : Mm) (hc : Nat) (d : Mm) : Prop := d 221 1 = 1000 ∧ ((c 3 2 = 0 ∧ d 222 1 = 1000 ∧ d 203 29 = 1000 ∧ c (hc + 10) 2 = 1 ∧ c (hc + 11) 0 = -2) ∨ (c 3 2 = 1 ∧ 1000 < d 222 1 ∧ d 222 1 ≤ 2000 ∧ ∃ f, LawC f c (hc + 10) ∧ LawM1 f d))
theorem LwR_congr {c c' d d' : Mm} {hc : Nat} (h : LwR c hc d) (e1 : c' 3 2 = c 3 2) (e2 : c' (hc + 10) 2 = c (hc + 10) 2) (e3 : c' (hc + 11) = c (hc + 11)) (f1 : d' 221 1 = d 221 1) (f2 : d' 222 1 = d 222 1) (f3 : d' 203 29 = d 203 29) (f4 : ∀ j, 1000 ≤ j → d' 223 j = d 223 j) : LwR c' hc d' := by
  obtain ⟨h1, h⟩ := h
  unfold LwR
  rw [e1, e2, e3, f1, f2, f3]
  refine ⟨h1, h.imp id (fun z => ?_)⟩
  obtain ⟨z1, z2, z3, f, z4, z5⟩ := z
  refine ⟨z1, z2, z3, f, LawC_congr z4 e2 e3, fun H q1 q2 q3 => z5 H q1 (by rw [q2, f2]) (fun j hj => ?_)⟩
  rw [q3 j hj, f4 _ (by omega)]
def HR (hc : Nat) (c d : Mm) : Prop := (hc = 4 ∨ hc = 41) ∧ c 3 1 = (hc : Int) ∧ NmX c hc d 1 ∧ (c hc 3 = d 205 8 ∧ c hc 4 = d 205 9 ∧ 0 ≤ d 205 9 ∧ d 205 9 ≤ 6) ∧ PaR c hc d ∧ (∀ w : Int, 0 ≤ w → w < d 205 6 → WkR c hc d w) ∧ (∀ h : Int, 0 ≤ h → h < d 205 7 → HoR c hc d h) ∧ LwR c hc d
theorem NmX_pt {c c' d d' : Mm} {hc : Nat} (h : NmX c hc d 1) (e0 : ∀ j, j < 3 → c' hc j = c hc j) (f0 : ∀ j, 5 ≤ j → j < 8 → d' 205 j = d 205 j) (e1 : ∀ i : Int, 0 ≤ i → i < c hc 0 → c' (hc + 1) i.toNat = c (hc + 1) i.toNat ∧ d' 206 (6 * 1 + i).toNat = d 206 (6 * 1 + i).toNat) (e2 : ∀ i : Int, 0 ≤ i → i < c hc 1 → c' (hc + 2) i.toNat = c (hc + 2) i.toNat ∧ d' 207 (6 * 1 + i).toNat = d 207 (6 * 1 + i).toNat) (e3 : ∀ i : Int, 0 ≤ i → i < c hc 2 → c' (hc + 3) i.toNat = c (hc + 3) i.toNat ∧ d' 208 (6 * 1 + i).toNat = d 208 (6 * 1 + i).toNat) : NmX c' hc d' 1 := by
  have t0 : (5 * 1 + 0 : Int).toNat = 5 := rfl
  have t1 : (5 * 1 + 1 : Int).toNat = 6 := rfl
  have t2 : (5 * 1 + 2 : Int).toNat = 7 := rfl
  unfold NmX NsO at h ⊢
  rw [t0, t1, t2] at h ⊢
  rw [e0 0 (by omega), e0 1 (by omega), e0 2 (by omega), f0 5 (by omega) (by omega), f0 6 (by omega) (by omega), f0 7 (by omega) (by omega)]
  obtain ⟨h1, h2, h3, h4, h5, h6, h7, h8, h9⟩ := h
  refine ⟨h1, h2, h3, h4, h5, h6, fun i i0 i1 => ?_, fun i i0 i1 => ?_, fun i i0 i1 => ?_⟩
  · rw [(e1 i i0 i1).1, (e1 i i0 i1).2]; exact h7 i i0 i1
  · rw [(e2 i i0 i1).1, (e2 i i0 i1).2]; exact h8 i i0 i1
  · rw [(e3 i i0 i1).1, (e3 i i0 i1).2]; exact h9 i i0 i1
theorem HR_p {c c' d d' : Mm} {hc : Nat} (h : HR hc c d) (g : FPc c c') (g' : FPm d d') : HR hc c' d' := by
  obtain ⟨h1, h2, h3, h4, h5, h6, h7, h8⟩ := h
  have e : ∀ a, a ≠ 1 → c' a = c a := g.1
  have f : ∀ a, a ≠ 203 → d' a = d a := g'.1
  refine ⟨h1, ?_, ?_, ?_, ?_, ?_, ?_, ?_⟩
  · rw [e 3 (by omega)]; exact h2
  · exact NmX_pt h3 (fun j _ => by rw [e hc (by omega)]) (fun j _ _ => by rw [f 205 (by omega)]) (fun i _ _ => ⟨by rw [e _ (by omega)], by rw [f _ (by omega)]⟩) (fun i _ _ => ⟨by rw [e _ (by omega)], by rw [f _ (by omega)]⟩) (fun i _ _ => ⟨by rw [e _ (by omega)], by rw [f _ (by omega)]⟩)
  · rw [e hc (by omega), f 205 (by omega)]; exact h4
  · exact PaR_congr h5 (e _ (by omega)) (f _ (by omega)) (by rw [f 205 (by omega)]; omega)
  · rw [f 205 (by omega)]
    exact fun w w0 w1 => WkR_congr (h6 w w0 w1) (fun j _ => by rw [e _ (by omega)]) (fun i _ _ j => by rw [e _ (by omega)]) (fun a _ _ => by rw [f _ (by omega)]) (fun i _ _ => by rw [f _ (by omega)]) (fun p _ _ => ⟨by rw [f _ (by omega)], by rw [f _ (by omega)]⟩) (by rw [f _ (by omega)]; omega) (by rw [f _ (by omega)]; omega)
  · rw [f 205 (by omega)]
    exact fun w w0 w1 => HoR_congr (h7 w w0 w1) (fun i _ _ => by rw [e _ (by omega)]) (fun a _ _ => by rw [f _ (by omega)]) (by rw [f _ (by omega)]; omega) (by rw [f _ (by omega)]; omega)
  · exact LwR_congr h8 (by rw [e 3 (by omega)]) (by rw [e _ (by omega)]) (e _ (by omega)) (by rw [f _ (by omega)]) (by rw [f _ (by omega)]) (g'.2 29 (by omega)) (fun j _ => by rw [f _ (by omega)])
/-- a line of hills, read by both -/
def LR (hc : Nat) (c0 d0 : Mm) (oc om : Res) : Prop := ∃ r c' d', oc = some (r, c') ∧ om = some (r, d') ∧ FXc (PH hc) c0 c' ∧ FXm QH d0 d' ∧ ((r = 1 ∧ TkR c' d' ∧ c' 1 1 = c0 1 1 ∧ HR hc c' d' ∧ c0 1 7 < c' 1 7) ∨ (r = 0 ∧ Wr c' d'))
/-- on the way in a line -/
def SX (P Q : Nat → Nat → Prop) (c0 d0 c d : Mm) : Prop := FXc P c0 c ∧ FXm Q d0 d ∧ TkR c d ∧ c 1 1 = c0 1 1 ∧ c0 1 7 < c 1 7
theorem SX_p {c0 d0 c d c' d' : Mm} (h : SX P Q c0 d0 c d) (g : FPc c c') (g' : FPm d d') (t : TkR c' d') (e : c' 1 1 = c 1 1) : SX P Q c0 d0 c' d' := ⟨FXc_trans h.1 (FXc_p g), FXm_trans h.2.1 (FXm_p g'), t, e.trans h.2.2.2.1, by have := h.2.2.2.2; have := g.2.2; omega⟩
theorem SX_mc {c0 d0 c d : Mm} {k j : Nat} {x : Int} (h : SX P Q c0 d0 c d) (hp : P k j) (k1 : k ≠ 1) (k2 : k ≠ 2) : SX P Q c0 d0 (mst c k j x) d := ⟨FXc_trans h.1 (FXc_m hp), h.2.1, Tk_congr h.2.2.1 (mst_ne (by omega)) (mst_ne (by omega)) rfl rfl, by rw [mst_ne (by omega)]; exact h.2.2.2.1, by rw [mst_ne (by omega)]; exact h.2.2.2.2⟩
theorem SX_md {c0 d0 c d : Mm} {k j : Nat} {x : Int} (h : SX P Q c0 d0 c d) (hp : Q k j) (k1 : k ≠ 203) (k2 : k ≠ 204) : SX P Q c0 d0 c (mst d k j x) := ⟨h.1, FXm_trans h.2.1 (FXm_m hp), Tk_congr h.2.2.1 rfl rfl (mst_ne (by omega)) (mst_ne (by omega)), h.2.2.2.1, h.2.2.2.2⟩
theorem SX_next {c0 d0 c d : Mm} (h : SX P Q c0 d0 c d) : ∃ c' d', fn_Tape_step c = some (0, c') ∧ fn_Model_nextToken d = some (0, d') ∧ SX P Q c0 d0 c' d' ∧ FPc c c' ∧ FPm d d' := by
  obtain ⟨c', d', w1, w2, w3, w4, w5, w6⟩ := Tk_next h.2.2.1
  have g : FPc c c' := FPc_of w4 (by have := h.2.2.1.2.2.2.2.1; omega)
  exact ⟨c', d', w1, w2, SX_p h g (FPm_of w5) w3 w4.2.2, g, FPm_of w5⟩
/-- the first step of a line: over its word -/
theorem SX_first {c0 d0 c d : Mm} (h : TkR c d) (hk : ¬ c 1 6 = 1) (e1 : FXc P c0 c) (e2 : FXm Q d0 d) (e3 : c 1 1 = c0 1 1) (e4 : c0 1 7 ≤ c 1 7) : ∃ c' d', fn_Tape_step c = some (0, c') ∧ fn_Model_nextToken d = some (0, d') ∧ SX P Q c0 d0 c' d' ∧ FPc c c' ∧ FPm d d' := by
  obtain ⟨c', d', w1, w2, w3, w4, w5, w6⟩ := Tk_next h
  have hl : c 1 7 < c 1 8 := by
    obtain ⟨s, h1, h2, h3, h4, h5, h6⟩ := h
    omega
  have g : FPc c c' := FPc_of w4 (by omega)
  exact ⟨c', d', w1, w2, ⟨FXc_trans e1 (FXc_p g), FXm_trans e2 (FXm_p (FPm_of w5)), w3, w4.2.2.trans e3, by omega⟩, g, FPm_of w5⟩
theorem LR_fail {hc : Nat} {c0 d0 c d c' d' : Mm} (h : SX P Q c0 d0 c d) (hP : ∀ a j, P a j → PH hc a j) (hQ : ∀ a j, Q a j → QH a j) (g : FPc c c') (g' : FPm d d') (w : Wr c' d') : LR hc c0 d0 (some (0, c')) (some (0, d')) := ⟨0, c', d', rfl, rfl, FXc_mono (FXc_trans h.1 (FXc_p g)) hP, FXm_mono (FXm_trans h.2.1 (FXm_p g')) hQ, Or.inr ⟨rfl, w⟩⟩
theorem LR_fin {hc : Nat} {c0 d0 c d : Mm} (h : SX (PH hc) QH c0 d0 c d) (hH : HR hc c d) : LR hc c0 d0 (bd (fn_Tape_takeSign 59 c) fun r m => if r = 0 ∨ r = 1 then some (r, m) else none) (bd (fn_Model_closes d) fun r m => if r = 0 ∨ r = 1 then some (r, m) else none) := by
  obtain ⟨r, c', d', w1, w2, w3, w4, w5⟩ := sign_ok h.2.2.1
  have r01 : r = 0 ∨ r = 1 := by omega
  rw [w1, w2, bd_some, bd_some, if_pos r01, if_pos r01]
  rcases w5 with ⟨y, w5, w6⟩ | ⟨y, w5⟩
  · have S := SX_p h w3 w4 w5 w6
    exact ⟨r, c', d', rfl, rfl, S.1, S.2.1, Or.inl ⟨y, w5, S.2.2.2.1, HR_p hH w3 w4, S.2.2.2.2⟩⟩
  · subst y
    exact LR_fail h (fun _ _ z => z) (fun _ _ z => z) w3 w4 w5
theorem SX_mono {c0 d0 c d : Mm} (h : SX P Q c0 d0 c d) (hP : ∀ a j, P a j → P' a j) (hQ : ∀ a j, Q a j → Q' a j) : SX P' Q' c0 d0 c d := ⟨FXc_mono h.1 hP, FXm_mono h.2.1 hQ, h.2.2⟩
end Fx
