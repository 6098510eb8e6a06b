/-! What a law's code is worth in the class. -/
section Lc
def okV (o s y : Int) : Prop := (s = 0 ∨ s = 1) ∧ (0 ≤ o ∧ o ≤ 240) ∧ w32 y = y
abbrev VL : Type := Int → Int → Int → Int
def rngV (v : VL) : Prop := ∀ o s y, okV o s y → w32 (v o s y) = v o s y
/-- pushing one more value -/
def Pld (th : Nat) (n x : Int) (m m' : Mm) : Prop := m' th 3 = n + 1 ∧ m' (th + 2) n.toNat = x ∧ (∀ t : Int, 0 ≤ t → t < n → m' (th + 2) t.toNat = m (th + 2) t.toNat) ∧ (∀ a, a ≠ th → a ≠ th + 2 → m' a = m a) ∧ ∀ j, j ≠ 3 → m' th j = m th j
def SemC (th : Nat) (r : Nat → Int) (i j h : Int) (v : VL) : Prop := i < j ∧ ∀ (m : Mm) (o s y n : Int) (k : Nat), 0 ≤ i → j ≤ 1000 → j ≤ m th 2 → (∀ t : Int, i ≤ t → t < j → m (th + 1) t.toNat = r t.toNat) → m th 3 = n → 0 ≤ n → n + h ≤ 64 → okV o s y → ∃ m', lp_Law_cost_8 th o s y (k + (j - i).toNat) i m = lp_Law_cost_8 th o s y k j m' ∧ Pld th n (v o s y) m m'
variable {th : Nat} {r : Nat → Int}
theorem push_eq {m : Mm} {n x : Int} (e : m th 3 = n) (n0 : 0 ≤ n) (n1 : n < 64) : fn_Law_push th x m = some (0, mst (mst m (th + 2) n.toNat x) th 3 (n + 1)) := by
  unfold fn_Law_push
  rw [e, if_pos n1, if_pos ⟨n0, n1⟩, bn_eq, mst_ne (by omega), e, w32_in (x := n + 1) (by omega) (by omega), bn_eq]
theorem pop_eq {m : Mm} {n : Int} (e : m th 3 = n) (n0 : 0 < n) (n1 : n ≤ 64) : fn_Law_pop th m = some (m (th + 2) (n - 1).toNat, mst m th 3 (n - 1)) := by
  unfold fn_Law_pop
  rw [e, if_pos n0, w32_in (x := n - 1) (by omega) (by omega), bn_eq, mst_hit, if_pos (by omega : 0 ≤ n - 1 ∧ n - 1 < 64), mst_ne (by omega)]
theorem Pld_push {m : Mm} {n x : Int} (n0 : 0 ≤ n) : Pld th n x m (mst (mst m (th + 2) n.toNat x) th 3 (n + 1)) := by
  refine ⟨mst_hit, by rw [mst_ne (by omega), mst_hit], fun t t0 t1 => by rw [mst_ne (by omega), mst_miss (by omega)], fun a a0 a1 => by rw [mst_ne a0, mst_ne a1], fun j hj => by rw [mst_miss hj, mst_ne (by omega)]⟩
theorem SemC_congr {r' : Nat → Int} {i j h : Int} {v : VL} (g : SemC th r i j h v) (i0 : 0 ≤ i) (e : ∀ t : Int, i ≤ t → t < j → r' t.toNat = r t.toNat) : SemC th r' i j h v := ⟨g.1, fun m o s y n k q0 q1 q2 q3 q4 q5 q6 q7 => g.2 m o s y n k q0 q1 q2 (fun t t0 t1 => (q3 t t0 t1).trans (e t t0 t1)) q4 q5 q6 q7⟩
theorem SemC_h {i j h h' : Int} {v : VL} (g : SemC th r i j h v) (e : h ≤ h') : SemC th r i j h' v := ⟨g.1, fun m o s y n k q0 q1 q2 q3 q4 q5 q6 q7 => g.2 m o s y n k q0 q1 q2 q3 q4 q5 (by omega) q7⟩
theorem SemC_leaf {i : Int} {x : Int} {v : VL} (hr : r i.toNat = x) (hx : (0 ≤ x ∧ v = fun _ _ _ => x) ∨ (x = -2 ∧ v = fun o _ _ => o) ∨ (x = -3 ∧ v = fun _ s _ => s) ∨ (x = -4 ∧ v = fun _ _ y => y)) : SemC th r i (i + 1) 1 v := by
  refine ⟨by omega, fun m o s y n k q0 q1 q2 q3 q4 q5 q6 q7 => ?_⟩
  have e1 : (i + 1 - i).toNat = 1 := by omega
  have e2 : m (th + 1) i.toNat = x := by rw [q3 i (by omega) (by omega)]; exact hr
  refine ⟨mst (mst m (th + 2) n.toNat (v o s y)) th 3 (n + 1), ?_, Pld_push q5⟩
  rw [e1]
  show bo_Law_cost_8 th o s y _ i m = _
  unfold bo_Law_cost_8 bo_Law_cost_72 bo_Law_cost_140
  rw [if_pos (by omega : i < m th 2), if_pos (by omega : 0 ≤ i ∧ i < 1000), bn_eq, e2]
  have ew : w32 (i + 1) = i + 1 := w32_in (by omega) (by omega)
  rcases hx with ⟨x0, rfl⟩ | ⟨rfl, rfl⟩ | ⟨rfl, rfl⟩ | ⟨rfl, rfl⟩
  · rw [if_neg (by omega : ¬ x < 0), push_eq q4 q5 (by omega), bd_some, ew]
  · rw [if_pos (by decide : (-2 : Int) < 0), if_pos rfl, push_eq q4 q5 (by omega), bd_some, ew]
  · rw [if_pos (by decide : (-3 : Int) < 0), if_neg (by decide : ¬ (-3 : Int) = -2), if_pos rfl]
    rcases q7.1 with hs | hs
    · rw [if_pos hs, push_eq q4 q5 (by omega), bd_some, ew, hs]
    · rw [if_neg (by omega : ¬ s = 0), push_eq q4 q5 (by omega), bd_some, ew, hs]
  · rw [if_pos (by decide : (-4 : Int) < 0), if_neg (by decide : ¬ (-4 : Int) = -2), if_neg (by decide : ¬ (-4 : Int) = -3), if_pos rfl, push_eq q4 q5 (by omega), bd_some, ew]
theorem SemC_not {i j h : Int} {v : VL} (g : SemC th r i j h v) (h1 : 1 ≤ h) (hr : r j.toNat = -5) : SemC th r i (j + 1) h (fun o s y => if v o s y = 0 then 1 else 0) := by
  refine ⟨by have := g.1; omega, fun m o s y n k q0 q1 q2 q3 q4 q5 q6 q7 => ?_⟩
  have hij := g.1
  obtain ⟨m1, e1, p1, p2, p3, p4, p5⟩ := g.2 m o s y n (k + 1) q0 (by omega) (by omega) (fun t t0 t1 => q3 t t0 (by omega)) q4 q5 q6 q7
  have ek : k + (j + 1 - i).toNat = k + 1 + (j - i).toNat := by omega
  have e2 : m1 (th + 1) j.toNat = -5 := by rw [p4 _ (by omega) (by omega), q3 j (by omega) (by omega)]; exact hr
  have el : m1 th 2 = m th 2 := p5 2 (by omega)
  have ew : w32 (j + 1) = j + 1 := w32_in (by omega) (by omega)
  have en : n + 1 - 1 = n := by omega
  refine ⟨mst (mst (mst m1 th 3 n) (th + 2) n.toNat (if v o s y = 0 then 1 else 0)) th 3 (n + 1), ?_, ?_⟩
  · rw [ek, e1]
    show bo_Law_cost_8 th o s y _ j m1 = _
    unfold bo_Law_cost_8 bo_Law_cost_113 bo_Law_cost_140
    rw [if_pos (by omega : j < m1 th 2), if_pos (by omega : 0 ≤ j ∧ j < 1000), bn_eq, e2, if_pos (by decide : (-5 : Int) < 0), if_neg (by decide : ¬ (-5 : Int) = -2), if_neg (by decide : ¬ (-5 : Int) = -3), if_neg (by decide : ¬ (-5 : Int) = -4), if_pos rfl, pop_eq p1 (by omega) (by omega), bd_some, en, p2]
    by_cases z : v o s y = 0
    · rw [if_pos z, if_pos z, push_eq (n := n) mst_hit q5 (by omega), bd_some, ew]
    · rw [if_neg z, if_neg z, push_eq (n := n) mst_hit q5 (by omega), bd_some, ew]
  · refine ⟨mst_hit, by rw [mst_ne (by omega), mst_hit], fun t t0 t1 => ?_, fun a a0 a1 => ?_, fun t ht => ?_⟩
    · rw [mst_ne (by omega), mst_miss (by omega), mst_ne (by omega)]; exact p3 t t0 t1
    · rw [mst_ne a0, mst_ne a1, mst_ne a0]; exact p4 a a0 a1
    · rw [mst_miss ht, mst_ne (by omega), mst_miss ht]; exact p5 t ht
def wor (op a b : Int) : Int := if op = -6 then (if a = 0 then 0 else if b = 0 then 0 else 1) else if op = -7 then (if a = 0 then (if b = 0 then 0 else 1) else 1) else if op = -8 then (if a < b then 1 else 0) else if op = -9 then (if a = b then 1 else 0) else if op = -10 then w32 (a + b) else if op = -11 then w32 (a - b) else w32 (a * b)
theorem wor_eq {op a b : Int} {m : Mm} (h0 : -12 ≤ op) (h1 : op ≤ -6) : fn_Law_worth op a b m = some (wor op a b, m) := by
  have : op = -12 ∨ op = -11 ∨ op = -10 ∨ op = -9 ∨ op = -8 ∨ op = -7 ∨ op = -6 := by omega
  rcases this with rfl | rfl | rfl | rfl | rfl | rfl | rfl
  · rfl
  · rfl
  · rfl
  · show (if a = b then some (1, m) else some (0, m)) = some (if a = b then 1 else 0, m)
    split <;> rfl
  · show (if a < b then some (1, m) else some (0, m)) = some (if a < b then 1 else 0, m)
    split <;> rfl
  · show (if a = 0 then (if b = 0 then some (0, m) else some (1, m)) else some (1, m)) = some (if a = 0 then (if b = 0 then 0 else 1) else 1, m)
    split
    · split <;> rfl
    · rfl
  · show (if a = 0 then some (0, m) else (if b = 0 then some (0, m) else some (1, m))) = some (if a = 0 then 0 else if b = 0 then 0 else 1, m)
    split
    · rfl
    · split <;> rfl
theorem SemC_bin {i j l h h' op : Int} {v w : VL} (g : SemC th r i j h v) (g' : SemC th r j l h' w) (hh : h' + 1 ≤ h) (h1 : 1 ≤ h') (hr : r l.toNat = op) (o0 : -12 ≤ op) (o1 : op ≤ -6) : SemC th r i (l + 1) h (fun o s y => wor op (v o s y) (w o s y)) := by
  have hij := g.1
  have hjl := g'.1
  refine ⟨by omega, fun m o s y n k q0 q1 q2 q3 q4 q5 q6 q7 => ?_⟩
  obtain ⟨m1, e1, p1, p2, p3, p4, p5⟩ := g.2 m o s y n (k + 1 + (l - j).toNat) q0 (by omega) (by omega) (fun t t0 t1 => q3 t t0 (by omega)) q4 q5 q6 q7
  obtain ⟨m2, e2, b1, b2, b3, b4, b5⟩ := g'.2 m1 o s y (n + 1) (k + 1) (by omega) (by omega) (by rw [p5 2 (by omega)]; omega) (fun t t0 t1 => by rw [p4 _ (by omega) (by omega)]; exact q3 t (by omega) (by omega)) p1 (by omega) (by omega) q7
  have ek : k + (l + 1 - i).toNat = k + 1 + (l - j).toNat + (j - i).toNat := by omega
  have e3 : m2 (th + 1) l.toNat = op := by rw [b4 _ (by omega) (by omega), p4 _ (by omega) (by omega), q3 l (by omega) (by omega)]; exact hr
  have el : m2 th 2 = m th 2 := by rw [b5 2 (by omega), p5 2 (by omega)]
  have ew : w32 (l + 1) = l + 1 := w32_in (by omega) (by omega)
  have en : n + 1 + 1 - 1 = n + 1 := by omega
  have en2 : n + 1 - 1 = n := by omega
  have ev : m2 (th + 2) n.toNat = v o s y := by rw [b3 n q5 (by omega)]; exact p2
  refine ⟨mst (mst (mst (mst m2 th 3 (n + 1)) th 3 n) (th + 2) n.toNat (wor op (v o s y) (w o s y))) th 3 (n + 1), ?_, ?_⟩
  · rw [ek, e1, e2]
    show bo_Law_cost_8 th o s y _ l m2 = _
    unfold bo_Law_cost_8 bo_Law_cost_140
    rw [if_pos (by omega : l < m2 th 2), if_pos (by omega : 0 ≤ l ∧ l < 1000), bn_eq, e3, if_pos (by omega : op < 0), if_neg (by omega : ¬ op = -2), if_neg (by omega : ¬ op = -3), if_neg (by omega : ¬ op = -4), if_neg (by omega : ¬ op = -5), pop_eq b1 (by omega) (by omega), bd_some, en, b2, pop_eq (n := n + 1) mst_hit (by omega) (by omega), bd_some, en2, mst_ne (by omega), ev, wor_eq o0 o1, bd_some, push_eq (n := n) mst_hit q5 (by omega), bd_some, ew]
  · refine ⟨mst_hit, by rw [mst_ne (by omega), mst_hit], fun t t0 t1 => ?_, fun a a0 a1 => ?_, fun t ht => ?_⟩
    · rw [mst_ne (by omega), mst_miss (by omega), mst_ne (by omega), mst_ne (by omega), b3 t t0 (by omega)]; exact p3 t t0 t1
    · rw [mst_ne a0, mst_ne a1, mst_ne a0, mst_ne a0, b4 a a0 a1]; exact p4 a a0 a1
    · rw [mst_miss ht, mst_ne (by omega), mst_miss ht, mst_miss ht, b5 t ht]; exact p5 t ht
/-- a whole law of the class -/
theorem SemC_law {c : Mm} {n : Int} {v : VL} (g : SemC th (c (th + 1)) 0 n 64 v) (e : c th 2 = n) (n1 : n ≤ 1000) : LawC v c th := by
  intro m o s y q1 q2 q3 q4 q5
  have hn := g.1
  unfold fn_Law_cost
  rw [bn_eq]
  obtain ⟨m1, e1, p1, p2, p3, p4, p5⟩ := g.2 (mst m th 3 0) o s y 0 (2000 - n.toNat) (by omega) n1 (by rw [mst_miss (by omega), q1, e]; omega) (fun t t0 t1 => by rw [mst_ne (by omega), q2]) mst_hit (by omega) (by omega) ⟨q3, q4, q5⟩
  have ef : FU = 2000 - n.toNat + (n - 0).toNat := by show 2000 = _; omega
  rw [ef, e1]
  obtain ⟨k, hk⟩ : ∃ t, 2000 - n.toNat = t + 1 := ⟨1999 - n.toNat, by omega⟩
  rw [hk]
  show TT (bo_Law_cost_8 th o s y _ n m1) _
  unfold bo_Law_cost_8 bo_Law_cost_146
  have el : m1 th 2 = n := by rw [p5 2 (by omega), mst_miss (by omega), q1, e]
  rw [if_neg (by omega : ¬ n < m1 th 2), pop_eq p1 (by omega) (by omega), bd_some]
  have en : ((0 : Int) + 1 - 1).toNat = (0 : Int).toNat := rfl
  rw [en, p2, clp_c]
  refine TT_some.mpr ⟨rfl, fun a a0 a1 => ?_, fun j hj => ?_⟩
  · rw [mst_ne a0, p4 a a0 a1, mst_ne a0]
  · rw [mst_miss hj, p5 j hj, mst_miss hj]
end Lc
