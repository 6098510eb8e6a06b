/-! The walk, minute by minute, and the reference's day. -/
section Wk
/-- what is asked of the numbers that hills hold -/
def WKo (H : Mm) (w : Int) : Prop :=
  0 ≤ H 210 w.toNat ∧ H 210 w.toNat ≤ 3 ∧ 0 ≤ H 211 w.toNat ∧ H 211 w.toNat ≤ 239 ∧ 1 ≤ H 212 w.toNat ∧ H 212 w.toNat ≤ 5 ∧ 0 ≤ H 213 w.toNat ∧ H 213 w.toNat ≤ 30 ∧ 2 ≤ H 215 w.toNat ∧ H 215 w.toNat ≤ 4
  ∧ (∀ i : Int, 0 ≤ i → i < H 215 w.toNat → 0 ≤ H 214 (4 * w + i).toNat ∧ H 214 (4 * w + i).toNat < H 205 0)
  ∧ (∀ i : Int, 0 ≤ i → i + 1 < H 215 w.toNat → H 214 (4 * w + i).toNat ≠ H 214 (4 * w + i + 1).toNat)
  ∧ (∀ p : Int, 0 ≤ p → p < 6 → 0 ≤ H 216 (6 * w + p).toNat ∧ H 216 (6 * w + p).toNat ≤ H 205 1 ∧ (H 216 (6 * w + p).toNat ≠ 0 → 1 ≤ H 217 (6 * w + p).toNat ∧ H 217 (6 * w + p).toNat ≤ 60))
def HD (H : Mm) : Prop :=
  (0 ≤ H 205 0 ∧ H 205 0 ≤ 6 ∧ 0 ≤ H 205 1 ∧ H 205 1 ≤ 6 ∧ 0 ≤ H 205 2 ∧ H 205 2 ≤ 6)
  ∧ (∀ w : Int, 0 ≤ w → w < H 205 1 → WKo H w)
  ∧ (∀ p q : Int, 0 ≤ p → p < 6 → 0 ≤ q → q < 6 → 0 ≤ H 250 (6 * p + q).toNat ∧ H 250 (6 * p + q).toNat ≤ 100000 ∧ (p ≠ q → p < H 205 0 → q < H 205 0 → 1 ≤ H 250 (6 * p + q).toNat))
  ∧ (∀ p q : Int, 0 ≤ p → p < 6 → 0 ≤ q → q < 6 → 0 ≤ H 209 (6 * p + q).toNat ∧ H 209 (6 * p + q).toNat ≤ 30 ∧ (p = q → H 209 (6 * p + q).toNat = 0))
  ∧ (∀ h : Int, 0 ≤ h → h < H 205 2 → 0 ≤ H 218 h.toNat ∧ H 218 h.toNat < H 205 1 ∧ 0 ≤ H 219 h.toNat ∧ H 219 h.toNat < H 205 0 ∧ 0 ≤ H 220 h.toNat ∧ H 220 h.toNat ≤ 239)
def SD (H : Mm) (S : Nat → Int) : Prop :=
  0 ≤ S 2 ∧ S 2 < 64 ∧ (S 3 = 0 ∨ S 3 = 1) ∧ (∀ w : Int, 0 ≤ w → w < 6 → 0 ≤ S (4 + w).toNat ∧ S (4 + w).toNat ≤ 120) ∧ (∀ h : Int, 0 ≤ h → h < H 205 2 → 0 ≤ S (10 + h).toNat ∧ S (10 + h).toNat < H 205 1) ∧ w32 (S 0) = S 0
abbrev WW : Type := Int → Int × Int × Int
def mnS (H : Mm) (S : Nat → Int) (w far : Int) : Int := bn (far * (if H 210 w.toNat = 1 then H 212 w.toNat + 1 else H 212 w.toNat)) fun x => if S 3 = 1 then (if H 210 w.toNat = 3 then x else 2 * x) else x
def wAt (H : Mm) (g : WW) (t w : Int) : Int := if t < (g w).2.1 then -1 else H 214 (4 * w + (g w).1).toNat
def wMt (H : Mm) (g : WW) (t w : Int) : Int := if wAt H g t w < 0 then (g w).2.2 else if H 216 (6 * w + wAt H g t w).toNat = 0 then (g w).2.2 else if (g w).2.2 = 0 then (if wAt H g t (H 216 (6 * w + wAt H g t w).toNat - 1) = wAt H g t w then 1 else 0) else 1
def rstS (H : Mm) (w : Int) : Int := if H 210 w.toNat = 2 then 2 * H 213 w.toNat else H 213 w.toNat
def wFr (H : Mm) (g : WW) (t w met : Int) : Bool := if t - (g w).2.1 < rstS H w then false else if H 216 (6 * w + H 214 (4 * w + (g w).1).toNat).toNat = 0 then true else if met = 0 then (if t - (g w).2.1 < H 217 (6 * w + H 214 (4 * w + (g w).1).toNat).toNat then false else true) else true
def farS (H : Mm) (w st : Int) : Int := H 250 (6 * H 214 (4 * w + st).toNat + H 214 (4 * w + st + 1).toNat).toNat
def wGo (H : Mm) (S : Nat → Int) (g : WW) (t w met : Int) : Int × Int × Int := if (g w).1 + 1 = H 215 w.toNat then ((g w).1, (g w).2.1, met) else if farS H w (g w).1 < 100000 then ((g w).1 + 1, t + mnS H S w (farS H w (g w).1), 0) else ((g w).1, (g w).2.1, met)
def wNx (H : Mm) (S : Nat → Int) (g : WW) (t w : Int) : Int × Int × Int := if wAt H g t w < 0 then ((g w).1, (g w).2.1, wMt H g t w) else if wFr H g t w (wMt H g t w) = true then wGo H S g t w (wMt H g t w) else ((g w).1, (g w).2.1, wMt H g t w)
def w0S (H : Mm) (S : Nat → Int) : WW := fun w => (0, if bt (S 2) w = 1 then H 211 w.toNat + S (4 + w).toNat else 100000, 0)
def wS (H : Mm) (S : Nat → Int) : Nat → WW
  | 0 => w0S H S
  | n + 1 => wNx H S (wS H S n) n
/-- where one is in a minute -/
def atS (H : Mm) (S : Nat → Int) (t w : Int) : Int := wAt H (wS H S t.toNat) t w
theorem mulb {a b : Int} (h1 : 0 ≤ a) (h2 : a ≤ 100000) (h3 : 0 ≤ b) (h4 : b ≤ 6) : 0 ≤ a * b ∧ a * b ≤ 600000 := by
  have : b = 0 ∨ b = 1 ∨ b = 2 ∨ b = 3 ∨ b = 4 ∨ b = 5 ∨ b = 6 := by omega
  rcases this with rfl | rfl | rfl | rfl | rfl | rfl | rfl <;> omega
def WGo (H : Mm) (g : WW) : Prop := ∀ w : Int, 0 ≤ w → w < H 205 1 → 0 ≤ (g w).1 ∧ (g w).1 < H 215 w.toNat ∧ 0 ≤ (g w).2.1 ∧ (g w).2.1 ≤ 1300000 ∧ ((g w).2.2 = 0 ∨ (g w).2.2 = 1)
theorem mnS_r {H : Mm} {S : Nat → Int} (hH : HD H) {w st : Int} (h0 : 0 ≤ w) (h1 : w < H 205 1) (h2 : 0 ≤ st) (h3 : st + 1 < H 215 w.toNat) : 0 ≤ farS H w st ∧ farS H w st ≤ 100000 ∧ 1 ≤ farS H w st ∧ 1 ≤ mnS H S w (farS H w st) ∧ mnS H S w (farS H w st) ≤ 1200000 := by
  obtain ⟨k1, k2, k3, k4, k5, k6, k7, k8, k9, k10, k11, k12, k13⟩ := hH.2.1 w h0 h1
  have a1 := k11 st h2 (by omega)
  have a2 := k11 (st + 1) (by omega) h3
  have a3 := k12 st h2 h3
  have e : 4 * w + (st + 1) = 4 * w + st + 1 := by omega
  rw [e] at a2
  obtain ⟨b1, b2, b3⟩ := hH.2.2.1 (H 214 (4 * w + st).toNat) (H 214 (4 * w + st + 1).toNat) a1.1 (by have := hH.1; omega) a2.1 (by have := hH.1; omega)
  have b4 := b3 a3 a1.2 a2.2
  have e2 : farS H w st = H 250 (6 * H 214 (4 * w + st).toNat + H 214 (4 * w + st + 1).toNat).toNat := rfl
  rw [e2]
  generalize H 250 (6 * H 214 (4 * w + st).toNat + H 214 (4 * w + st + 1).toNat).toNat = f at *
  refine ⟨b1, b2, b4, ?_⟩
  unfold mnS bn
  dsimp only
  have c1 : ∀ b : Int, 1 ≤ b → b ≤ 6 → 1 ≤ f * b ∧ f * b ≤ 600000 := by
    intro b x1 x2
    have : b = 1 ∨ b = 2 ∨ b = 3 ∨ b = 4 ∨ b = 5 ∨ b = 6 := by omega
    rcases this with rfl | rfl | rfl | rfl | rfl | rfl <;> omega
  have c2 := c1 (if H 210 w.toNat = 1 then H 212 w.toNat + 1 else H 212 w.toNat) (by split <;> omega) (by split <;> omega)
  generalize f * (if H 210 w.toNat = 1 then H 212 w.toNat + 1 else H 212 w.toNat) = x at *
  split <;> (try split) <;> omega
theorem wS_ok {H : Mm} {S : Nat → Int} (hH : HD H) (hS : SD H S) : ∀ n : Nat, n ≤ 240 → WGo H (wS H S n) := by
  intro n
  induction n with
  | zero =>
    intro _ w h0 h1
    obtain ⟨k1, k2, k3, k4, k5, k6, k7, k8, k9, k10, -⟩ := hH.2.1 w h0 h1
    have := hS.2.2.2.1 w h0 (by have := hH.1; omega)
    show 0 ≤ (0 : Int) ∧ _ ∧ _ ∧ _ ∧ _
    refine ⟨by omega, by show (0 : Int) < _; omega, ?_⟩
    show 0 ≤ (if bt (S 2) w = 1 then H 211 w.toNat + S (4 + w).toNat else 100000) ∧ (if bt (S 2) w = 1 then H 211 w.toNat + S (4 + w).toNat else 100000) ≤ 1300000 ∧ ((0 : Int) = 0 ∨ (0 : Int) = 1)
    split <;> omega
  | succ n ih =>
    intro hn w h0 h1
    obtain ⟨q1, q2, q3, q4, q5⟩ := ih (by omega) w h0 h1
    show 0 ≤ (wNx H S (wS H S n) n w).1 ∧ (wNx H S (wS H S n) n w).1 < _ ∧ 0 ≤ (wNx H S (wS H S n) n w).2.1 ∧ (wNx H S (wS H S n) n w).2.1 ≤ _ ∧ ((wNx H S (wS H S n) n w).2.2 = 0 ∨ (wNx H S (wS H S n) n w).2.2 = 1)
    generalize wS H S n = g at *
    have hm : wMt H g n w = 0 ∨ wMt H g n w = 1 := by
      unfold wMt
      split
      · exact q5
      · split
        · exact q5
        · split
          · split <;> simp
          · exact Or.inr rfl
    unfold wNx
    split
    · exact ⟨q1, q2, q3, q4, hm⟩
    · split
      · unfold wGo
        split
        · exact ⟨q1, q2, q3, q4, hm⟩
        · split
          · have r := mnS_r (S := S) hH h0 h1 q1 (by omega)
            refine ⟨by show 0 ≤ (g w).1 + 1; omega, by show (g w).1 + 1 < _; omega, by show 0 ≤ (n : Int) + _; omega, by show (n : Int) + _ ≤ _; omega, Or.inl rfl⟩
          · exact ⟨q1, q2, q3, q4, hm⟩
      · exact ⟨q1, q2, q3, q4, hm⟩
/-! The reference's day. -/
def FM (H m : Mm) : Prop := ∀ a, 205 ≤ a → a ≤ 250 → m a = H a
theorem placeIn_eq {m : Mm} {w : Int} (h0 : 0 ≤ w) (h1 : w < 6) (h2 : 0 ≤ m 252 w.toNat) (h3 : m 252 w.toNat < 4) : fn_Model_placeIn w m = some (m 214 (4 * w + m 252 w.toNat).toNat, m) := by
  unfold fn_Model_placeIn
  simp (disch := omega) only [g_pos, w32_in]
theorem minutesTo_eq {H m : Mm} (hf : FM H m) {w st nx : Int} (h0 : 0 ≤ w) (h1 : w < 6) (e : m 252 w.toNat = st) (h2 : 0 ≤ st) (h3 : st < 4) (h4 : 0 ≤ nx) (h5 : nx < 6) (h6 : 0 ≤ H 214 (4 * w + st).toNat) (h7 : H 214 (4 * w + st).toNat < 6) (h8 : 0 ≤ H 250 (6 * H 214 (4 * w + st).toNat + nx).toNat) (h9 : H 250 (6 * H 214 (4 * w + st).toNat + nx).toNat ≤ 100000) (h10 : 1 ≤ H 212 w.toNat) (h11 : H 212 w.toNat ≤ 5) : fn_Model_minutesTo w nx m = some (mnS H (H 245) w (H 250 (6 * H 214 (4 * w + st).toNat + nx).toNat), m) := by
  unfold fn_Model_minutesTo
  rw [placeIn_eq h0 h1 (by omega) (by omega), e]
  have hf' := hf
  unfold FM at hf'
  simp (disch := omega) only [bd_some, hf', g_pos, w32_in, bo_Model_minutesTo_42, bn_eq, tn3]
  have c2 := mulb (a := H 250 (6 * H 214 (4 * w + st).toNat + nx).toNat) (b := H 212 w.toNat) h8 h9 (by omega) (by omega)
  have c3 := mulb (a := H 250 (6 * H 214 (4 * w + st).toNat + nx).toNat) (b := H 212 w.toNat + 1) h8 h9 (by omega) (by omega)
  unfold mnS bn
  by_cases hk : H 210 w.toNat = 1
  · simp (disch := omega) only [if_pos hk, w32_in, some_ite]
  · simp (disch := omega) only [if_neg hk, w32_in, some_ite]
theorem zi_ite {c : Prop} [Decidable c] (a b : Bool) : zi (if c then a else b) = if c then zi a else zi b := by split <;> rfl
theorem isFree_eq {H m : Mm} (hf : FM H m) {g : WW} {w t met : Int} (h0 : 0 ≤ w) (h1 : w < 6) (e1 : m 252 w.toNat = (g w).1) (e2 : m 253 w.toNat = (g w).2.1) (e3 : m 254 w.toNat = met) (h2 : 0 ≤ (g w).1) (h3 : (g w).1 < 4) (h4 : 0 ≤ (g w).2.1) (h5 : (g w).2.1 ≤ 1300000) (h6 : 0 ≤ t) (h7 : t < 240) (h8 : 0 ≤ H 214 (4 * w + (g w).1).toNat) (h9 : H 214 (4 * w + (g w).1).toNat < 6) (h10 : 0 ≤ H 213 w.toNat) (h11 : H 213 w.toNat ≤ 30) : fn_Model_isFree w t m = some (zi (wFr H g t w met), m) := by
  have hp : ∀ (y z : Int), bo_Model_isFree_37 w t (t - (g w).2.1) y z m = if y < z then some (0, m) else some (zi (if H 216 (6 * w + H 214 (4 * w + (g w).1).toNat).toNat = 0 then true else if met = 0 then (if t - (g w).2.1 < H 217 (6 * w + H 214 (4 * w + (g w).1).toNat).toNat then false else true) else true), m) := by
    intro y z
    unfold bo_Model_isFree_37
    rw [placeIn_eq h0 h1 (by omega) (by omega), e1]
    have hf' := hf
    unfold FM at hf'
    simp (disch := omega) only [bd_some, hf', g_pos, w32_in, bn_eq, zi_ite, some_ite, e3, zi_t, zi_f]
  unfold fn_Model_isFree
  have hf' := hf
  unfold FM at hf'
  simp (disch := omega) only [hf', g_pos, bn_eq, e2, w32_in, hp]
  unfold wFr rstS
  by_cases hk : H 210 w.toNat = 2
  · simp only [if_pos hk, zi_ite, some_ite, zi_t, zi_f]
  · simp only [if_neg hk, zi_ite, some_ite, zi_t, zi_f]
theorem goesOn_ok {H m : Mm} (hf : FM H m) (hH : HD H) {g : WW} {w t met : Int} (h0 : 0 ≤ w) (h1 : w < H 205 1) (e1 : m 252 w.toNat = (g w).1) (e2 : m 253 w.toNat = (g w).2.1) (e3 : m 254 w.toNat = met) (h2 : 0 ≤ (g w).1) (h3 : (g w).1 < H 215 w.toNat) (h6 : 0 ≤ t) (h7 : t < 240) : TT (fn_Model_goesOn w t m) (fun _ m' => (∀ a, a < 252 ∨ 254 < a → m' a = m a) ∧ (∀ j, j ≠ w.toNat → m' 252 j = m 252 j ∧ m' 253 j = m 253 j ∧ m' 254 j = m 254 j) ∧ m' 252 w.toNat = (wGo H (H 245) g t w met).1 ∧ m' 253 w.toNat = (wGo H (H 245) g t w met).2.1 ∧ m' 254 w.toNat = (wGo H (H 245) g t w met).2.2) := by
  obtain ⟨k1, k2, k3, k4, k5, k6, k7, k8, k9, k10, k11, k12, k13⟩ := hH.2.1 w h0 h1
  have hw := hH.1
  have a1 := k11 _ h2 h3
  have hf' := hf
  unfold FM at hf'
  unfold fn_Model_goesOn wGo
  simp (disch := omega) only [hf', g_pos, w32_in, e1]
  by_cases c1 : (g w).1 + 1 = H 215 w.toNat
  · simp only [if_pos c1]
    exact TT_some.mpr ⟨fun _ _ => rfl, fun _ _ => ⟨rfl, rfl, rfl⟩, e1, e2, e3⟩
  · simp only [if_neg c1]
    have a2 := k11 ((g w).1 + 1) (by omega) (by omega)
    have e : 4 * w + ((g w).1 + 1) = 4 * w + (g w).1 + 1 := by omega
    rw [e] at a2
    obtain ⟨b1, b2, b3⟩ := hH.2.2.1 (H 214 (4 * w + (g w).1).toNat) (H 214 (4 * w + (g w).1 + 1).toNat) a1.1 (by omega) a2.1 (by omega)
    rw [placeIn_eq h0 (by omega) (by omega) (by omega), e1]
    simp (disch := omega) only [hf', g_pos, w32_in, bn_eq, bd_some]
    show TT (if farS H w (g w).1 < 100000 then _ else _) _
    by_cases c2 : farS H w (g w).1 < 100000
    · have c2' := c2
      unfold farS at c2'
      simp only [if_pos c2]
      rw [minutesTo_eq hf h0 (by omega) e1 h2 (by omega) a2.1 (by omega) a1.1 (by omega) b1 b2 k5 k6]
      have r := mnS_r (S := H 245) hH h0 h1 h2 (by omega)
      have r4 := r.2.2.2.1
      have r5 := r.2.2.2.2
      unfold farS at r4 r5
      simp (disch := omega) only [g_pos, bd_some, w32_in, mst_ne, mst_hit, e1]
      refine TT_some.mpr ⟨fun a ha => ?_, fun j hj => ?_, ?_⟩
      · simp (disch := omega) only [mst_ne]
      · simp (disch := omega) only [mst_ne, mst_miss, and_self]
      · simp (disch := omega) only [mst_ne, mst_hit]
        exact ⟨trivial, rfl, trivial⟩
    · simp only [if_neg c2]
      exact TT_some.mpr ⟨fun _ _ => rfl, fun _ _ => ⟨rfl, rfl, rfl⟩, e1, e2, e3⟩
/-- what the reference's day leaves -/
def FR (m0 m : Mm) : Prop := ∀ a, a < 251 ∨ 254 < a → m a = m0 a
theorem FM_FR {H m0 m : Mm} (h : FM H m0) (r : FR m0 m) : FM H m := fun a h1 h2 => (r a (Or.inl (by omega))).trans (h a h1 h2)
def ldA (H m : Mm) (t : Int) : Prop := ∀ w u : Int, 0 ≤ w → w < H 205 1 → 0 ≤ u → u < t → m 251 (240 * w + u).toNat = atS H (H 245) u w
def ldG (H m : Mm) (w : Int) (q : Int × Int × Int) : Prop := m 252 w.toNat = q.1 ∧ m 253 w.toNat = q.2.1 ∧ m 254 w.toNat = q.2.2
def DI (H m0 m : Mm) (t : Int) : Prop := FR m0 m ∧ ldA H m t ∧ ∀ w : Int, 0 ≤ w → w < H 205 1 → ldG H m w (wS H (H 245) t.toNat w)
section LD
variable {H m0 : Mm} (hf : FM H m0) (hH : HD H) (hS : SD H (H 245))
theorem ld233 (hf : FM H m0) (hH : HD H) (hS : SD H (H 245)) {t : Int} (ht0 : 0 ≤ t) (ht1 : t < 240) {k75 : Int → Mm → Res} {Q : Int → Mm → Prop} (hK : ∀ m, DI H m0 m (t + 1) → TT (k75 (t + 1) m) Q) {m : Mm} (hm : FR m0 m ∧ ldA H m (t + 1) ∧ ∀ w : Int, 0 ≤ w → w < H 205 1 → ldG H m w ((wS H (H 245) t.toNat w).1, (wS H (H 245) t.toNat w).2.1, wMt H (wS H (H 245) t.toNat) t w)) : TT (lp_Model_laysDay_233 k75 FU t 0 m) Q := by
  have hn := hH.1
  refine lp_inv2 (bo := bo_Model_laysDay_233 k75) (fun _ => rfl) (fun a b m => a = t ∧ 0 ≤ b ∧ b ≤ H 205 1 ∧ FR m0 m ∧ ldA H m (t + 1) ∧ (∀ w : Int, 0 ≤ w → w < b → ldG H m w (wS H (H 245) (t + 1).toNat w)) ∧ ∀ w : Int, b ≤ w → w < H 205 1 → ldG H m w ((wS H (H 245) t.toNat w).1, (wS H (H 245) t.toNat w).2.1, wMt H (wS H (H 245) t.toNat) t w)) (fun _ b _ => (6 - b).toNat) ?_ FU t 0 m ⟨rfl, by omega, by omega, hm.1, hm.2.1, fun w h1 h2 => by omega, hm.2.2⟩ (by decide)
  intro k a b m hI hk
  obtain ⟨rfl, hb0, hb1, hfr, hat, hlo, hhi⟩ := hI
  have hfm := FM_FR hf hfr
  have hf' := hfm
  unfold FM at hf'
  have et : (a + 1).toNat = a.toNat + 1 := by omega
  have ea : ((a.toNat : Nat) : Int) = a := by omega
  unfold bo_Model_laysDay_233
  rw [hf' 205 (by omega) (by omega), tn1]
  refine TT_if (fun hb => ?_) (fun hb => ?_)
  · have hg := wS_ok hH hS a.toNat (by omega) b hb0 hb
    obtain ⟨g1, g2, g3, g4, g5⟩ := hg
    obtain ⟨k1, k2, k3, k4, k5, k6, k7, k8, k9, k10, k11, k12, k13⟩ := hH.2.1 b hb0 hb
    have hb' := hhi b (by omega) hb
    have eb := hat b a hb0 hb ht0 (by omega)
    have hnx : wS H (H 245) (a + 1).toNat b = wNx H (H 245) (wS H (H 245) a.toNat) a b := by rw [et]; show wNx H (H 245) (wS H (H 245) a.toNat) ((a.toNat : Nat) : Int) b = _; rw [ea]
    have e0 : atS H (H 245) a b = wAt H (wS H (H 245) a.toNat) a b := rfl
    have fin : ∀ m' : Mm, (∀ a, a < 252 ∨ 254 < a → m' a = m a) → (∀ j, j ≠ b.toNat → m' 252 j = m 252 j ∧ m' 253 j = m 253 j ∧ m' 254 j = m 254 j) → ldG H m' b (wNx H (H 245) (wS H (H 245) a.toNat) a b) → TT (bo_Model_laysDay_273 k75 k a b m') Q := by
      intro m' q1 q2 q3
      unfold bo_Model_laysDay_273
      simp (disch := omega) only [w32_in]
      refine hk a (b + 1) m' ⟨rfl, by omega, by omega, fun x hx => (q1 x (by omega)).trans (hfr x hx), fun w u y1 y2 y3 y4 => ?_, fun w y1 y2 => ?_, fun w y1 y2 => ?_⟩ (by omega)
      · rw [q1 251 (by omega)]
        exact hat w u y1 y2 y3 y4
      · by_cases c : w = b
        · subst c
          rw [hnx]
          exact q3
        · obtain ⟨z1, z2, z3⟩ := q2 w.toNat (by omega)
          obtain ⟨x1, x2, x3⟩ := hlo w y1 (by omega)
          exact ⟨z1.trans x1, z2.trans x2, z3.trans x3⟩
      · obtain ⟨z1, z2, z3⟩ := q2 w.toNat (by omega)
        obtain ⟨x1, x2, x3⟩ := hhi w (by omega) y2
        exact ⟨z1.trans x1, z2.trans x2, z3.trans x3⟩
    generalize wS H (H 245) a.toNat = g at *
    obtain ⟨y1, y2, y3⟩ := hb'
    have a1 := k11 _ g1 g2
    simp (disch := omega) only [g_pos, w32_in, eb]
    refine TT_if (fun c => ?_) (fun c => ?_)
    · exact fin m (fun _ _ => rfl) (fun _ _ => ⟨rfl, rfl, rfl⟩) (by unfold wNx; rw [e0] at c; rw [if_pos c]; exact ⟨y1, y2, y3⟩)
    · rw [e0] at c
      rw [isFree_eq hfm (g := g) hb0 (by omega) y1 y2 y3 g1 (by omega) g3 g4 ht0 ht1 a1.1 (by omega) k7 k8, bd_some]
      refine TT_if (fun d => ?_) (fun d => ?_)
      · exact fin m (fun _ _ => rfl) (fun _ _ => ⟨rfl, rfl, rfl⟩) (by unfold wNx; rw [if_neg c, if_neg (by rw [zi_0.mp d]; decide)]; exact ⟨y1, y2, y3⟩)
      · refine TT_call (goesOn_ok hfm hH (g := g) hb0 hb y1 y2 y3 g1 g2 ht0 ht1) (fun r m' hm' => ?_)
        obtain ⟨u1, u2, u3⟩ := hm'
        refine fin m' u1 u2 ?_
        unfold wNx
        rw [if_neg c, if_pos (by cases hh : wFr H g a b (wMt H g a b) with | true => rfl | false => rw [hh] at d; exact absurd rfl d)]
        exact u3
  · have e : b = H 205 1 := by omega
    unfold bo_Model_laysDay_279
    simp (disch := omega) only [w32_in]
    exact hK m ⟨hfr, hat, fun w h1 h2 => hlo w h1 (by omega)⟩
theorem ld133 (hf : FM H m0) (hH : HD H) (hS : SD H (H 245)) {t : Int} (ht0 : 0 ≤ t) (ht1 : t < 240) {k75 : Int → Mm → Res} {Q : Int → Mm → Prop} (hK : ∀ m, DI H m0 m (t + 1) → TT (k75 (t + 1) m) Q) {m : Mm} (hm : FR m0 m ∧ ldA H m (t + 1) ∧ ∀ w : Int, 0 ≤ w → w < H 205 1 → ldG H m w (wS H (H 245) t.toNat w)) : TT (lp_Model_laysDay_133 k75 FU t 0 m) Q := by
  have hn := hH.1
  refine lp_inv2 (bo := bo_Model_laysDay_133 k75) (fun _ => rfl) (fun a b m => a = t ∧ 0 ≤ b ∧ b ≤ H 205 1 ∧ FR m0 m ∧ ldA H m (t + 1) ∧ (∀ w : Int, 0 ≤ w → w < b → ldG H m w ((wS H (H 245) t.toNat w).1, (wS H (H 245) t.toNat w).2.1, wMt H (wS H (H 245) t.toNat) t w)) ∧ ∀ w : Int, b ≤ w → w < H 205 1 → ldG H m w (wS H (H 245) t.toNat w)) (fun _ b _ => (6 - b).toNat) ?_ FU t 0 m ⟨rfl, by omega, by omega, hm.1, hm.2.1, fun w h1 h2 => by omega, hm.2.2⟩ (by decide)
  intro k a b m hI hk
  obtain ⟨rfl, hb0, hb1, hfr, hat, hlo, hhi⟩ := hI
  have hf' := FM_FR hf hfr
  unfold FM at hf'
  unfold bo_Model_laysDay_133
  rw [hf' 205 (by omega) (by omega), tn1]
  refine TT_if (fun hb => ?_) (fun hb => ?_)
  · obtain ⟨g1, g2, g3, g4, g5⟩ := wS_ok hH hS a.toNat (by omega) b hb0 hb
    obtain ⟨k1, k2, k3, k4, k5, k6, k7, k8, k9, k10, k11, k12, k13⟩ := hH.2.1 b hb0 hb
    obtain ⟨y1, y2, y3⟩ := hhi b (by omega) hb
    have eb := hat b a hb0 hb ht0 (by omega)
    have e0 : atS H (H 245) a b = wAt H (wS H (H 245) a.toNat) a b := rfl
    have fin : ∀ x : Int, x = wMt H (wS H (H 245) a.toNat) a b → TT (bo_Model_laysDay_225 k75 k a b (mst m 254 b.toNat x)) Q := by
      intro x hx
      unfold bo_Model_laysDay_225
      simp (disch := omega) only [w32_in]
      refine hk a (b + 1) _ ⟨rfl, by omega, by omega, fun x hx => ?_, fun w u y1 y2 y3 y4 => ?_, fun w z1 z2 => ?_, fun w z1 z2 => ?_⟩ (by omega)
      · rw [mst_ne (by omega)]; exact hfr x hx
      · rw [mst_ne (by omega)]; exact hat w u y1 y2 y3 y4
      · by_cases c : w = b
        · subst c
          refine ⟨?_, ?_, ?_⟩
          · rw [mst_ne (by omega)]; exact y1
          · rw [mst_ne (by omega)]; exact y2
          · rw [mst_hit]; exact hx
        · obtain ⟨x1, x2, x3⟩ := hlo w z1 (by omega)
          refine ⟨?_, ?_, ?_⟩
          · rw [mst_ne (by omega)]; exact x1
          · rw [mst_ne (by omega)]; exact x2
          · rw [mst_miss (by omega)]; exact x3
      · obtain ⟨x1, x2, x3⟩ := hhi w (by omega) z2
        refine ⟨?_, ?_, ?_⟩
        · rw [mst_ne (by omega)]; exact x1
        · rw [mst_ne (by omega)]; exact x2
        · rw [mst_miss (by omega)]; exact x3
    have fin0 : m 254 b.toNat = wMt H (wS H (H 245) a.toNat) a b → TT (bo_Model_laysDay_225 k75 k a b m) Q := by
      intro hx
      have e : mst m 254 b.toNat (m 254 b.toNat) = m := by
        funext i j
        unfold mst
        split
        · next hh => rw [hh.1, hh.2]
        · rfl
      have := fin _ hx
      rwa [e] at this
    have haw : ∀ w : Int, 0 ≤ w → w < H 205 1 → m 251 (240 * w + a).toNat = wAt H (wS H (H 245) a.toNat) a w := fun w h1 h2 => hat w a h1 h2 ht0 (by omega)
    generalize wS H (H 245) a.toNat = g at *
    have a1 := k11 _ g1 g2
    have ha : wAt H g a b < 0 ∨ (0 ≤ wAt H g a b ∧ wAt H g a b < 6) := by unfold wAt; split <;> omega
    simp (disch := omega) only [g_pos, w32_in, haw, bn_eq]
    refine TT_if (fun c => ?_) (fun c => ?_)
    · exact fin0 (by unfold wMt; rw [if_pos c]; exact y3)
    · have k13' := k13 (wAt H g a b) (by omega) (by omega)
      simp (disch := omega) only [g_pos, w32_in, hf']
      refine TT_if (fun d => ?_) (fun d => ?_)
      · exact fin0 (by unfold wMt; rw [if_neg c, if_pos d]; exact y3)
      · simp (disch := omega) only [g_pos, w32_in, hf', haw, y3]
        have r219 : ∀ x : Int, x = 0 ∨ x = 1 → x = wMt H g a b → TT (bo_Model_laysDay_224 k75 k a b b x m) Q := by
          intro x hx hy
          unfold bo_Model_laysDay_224
          simp (disch := omega) only [g_pos, bn_eq]
          exact fin x hy
        refine TT_if (fun e => ?_) (fun e => ?_)
        · refine TT_if (fun f => ?_) (fun f => ?_)
          · exact r219 1 (by omega) (by unfold wMt; rw [if_neg c, if_neg d, if_pos e, if_pos f])
          · exact r219 0 (by omega) (by unfold wMt; rw [if_neg c, if_neg d, if_pos e, if_neg f])
        · exact r219 1 (by omega) (by unfold wMt; rw [if_neg c, if_neg d, if_neg e])
  · have e : b = H 205 1 := by omega
    exact ld233 hf hH hS ht0 ht1 hK ⟨hfr, hat, fun w h1 h2 => hlo w h1 (by omega)⟩
theorem ld84 (hf : FM H m0) (hH : HD H) (hS : SD H (H 245)) {t : Int} (ht0 : 0 ≤ t) (ht1 : t < 240) {k75 : Int → Mm → Res} {Q : Int → Mm → Prop} (hK : ∀ m, DI H m0 m (t + 1) → TT (k75 (t + 1) m) Q) {m : Mm} (hm : DI H m0 m t) : TT (lp_Model_laysDay_84 k75 FU t 0 m) Q := by
  have hn := hH.1
  refine lp_inv2 (bo := bo_Model_laysDay_84 k75) (fun _ => rfl) (fun a b m => a = t ∧ 0 ≤ b ∧ b ≤ H 205 1 ∧ DI H m0 m t ∧ ∀ w : Int, 0 ≤ w → w < b → m 251 (240 * w + t).toNat = atS H (H 245) t w) (fun _ b _ => (6 - b).toNat) ?_ FU t 0 m ⟨rfl, by omega, by omega, hm, fun w h1 h2 => by omega⟩ (by decide)
  intro k a b m hI hk
  obtain ⟨rfl, hb0, hb1, ⟨hfr, hat, hg⟩, hlo⟩ := hI
  have hf' := FM_FR hf hfr
  unfold FM at hf'
  unfold bo_Model_laysDay_84
  simp (disch := omega) only [hf', tn1]
  refine TT_if (fun hb => ?_) (fun hb => ?_)
  · obtain ⟨g1, g2, g3, g4, g5⟩ := wS_ok hH hS a.toNat (by omega) b hb0 hb
    obtain ⟨k1, k2, k3, k4, k5, k6, k7, k8, k9, k10, k11, k12, k13⟩ := hH.2.1 b hb0 hb
    obtain ⟨y1, y2, y3⟩ := hg b hb0 hb
    have e0 : atS H (H 245) a b = wAt H (wS H (H 245) a.toNat) a b := rfl
    have fin : ∀ x : Int, x = atS H (H 245) a b → TT (bo_Model_laysDay_124 k75 k a b (240 * b + a) x m) Q := by
      intro x hx
      unfold bo_Model_laysDay_124
      simp (disch := omega) only [g_pos, bn_eq, w32_in]
      refine hk a (b + 1) _ ⟨rfl, by omega, by omega, ⟨fun x hx => ?_, fun w u z1 z2 z3 z4 => ?_, fun w z1 z2 => ?_⟩, fun w z1 z2 => ?_⟩ (by omega)
      · rw [mst_ne (by omega)]; exact hfr x hx
      · rw [mst_miss (by omega)]; exact hat w u z1 z2 z3 z4
      · obtain ⟨x1, x2, x3⟩ := hg w z1 z2
        refine ⟨?_, ?_, ?_⟩
        · rw [mst_ne (by omega)]; exact x1
        · rw [mst_ne (by omega)]; exact x2
        · rw [mst_ne (by omega)]; exact x3
      · by_cases c : w = b
        · subst c
          rw [mst_hit]
          exact hx
        · rw [mst_miss (by omega)]
          exact hlo w z1 (by omega)
    simp (disch := omega) only [g_pos, w32_in, y2]
    refine TT_if (fun c => ?_) (fun c => ?_)
    · exact fin (-1) (by rw [e0]; unfold wAt; rw [if_pos c])
    · rw [placeIn_eq hb0 (by omega) (by omega) (by omega), bd_some, y1, hf' 214 (by omega) (by omega)]
      exact fin _ (by rw [e0]; unfold wAt; rw [if_neg c])
  · have e : b = H 205 1 := by omega
    refine ld133 hf hH hS ht0 ht1 hK ⟨hfr, fun w u z1 z2 z3 z4 => ?_, hg⟩
    by_cases c : u = a
    · subst c; exact hlo w z1 (by omega)
    · exact hat w u z1 z2 z3 (by omega)
theorem ld75 (hf : FM H m0) (hH : HD H) (hS : SD H (H 245)) {m : Mm} (hm : DI H m0 m 0) : TT (lp_Model_laysDay_75 FU 0 m) (fun _ m' => FR m0 m' ∧ ldA H m' 240) := by
  refine lp_inv1 (bo := bo_Model_laysDay_75) (fun _ => rfl) (fun a m => 0 ≤ a ∧ a ≤ 240 ∧ DI H m0 m a) (fun a _ => (240 - a).toNat) ?_ FU 0 m ⟨by omega, by omega, hm⟩ (by decide)
  intro k a m hI hk
  obtain ⟨h0, h1, hd⟩ := hI
  unfold bo_Model_laysDay_75
  refine TT_if (fun c => ?_) (fun c => ?_)
  · exact ld84 hf hH hS h0 c (fun m' hm' => hk (a + 1) m' ⟨by omega, by omega, hm'⟩ (by omega)) hd
  · have e : a = 240 := by omega
    subst e
    exact TT_some.mpr ⟨hd.1, hd.2.1⟩
theorem laysDay_ok (hf : FM H m0) (hH : HD H) (hS : SD H (H 245)) : TT (fn_Model_laysDay m0) (fun _ m' => FR m0 m' ∧ ldA H m' 240) := by
  have hn := hH.1
  unfold fn_Model_laysDay
  refine lp_inv1 (bo := bo_Model_laysDay_2) (fun _ => rfl) (fun a m => 0 ≤ a ∧ a ≤ H 205 1 ∧ FR m0 m ∧ ∀ w : Int, 0 ≤ w → w < a → ldG H m w (w0S H (H 245) w)) (fun a _ => (6 - a).toNat) ?_ FU 0 m0 ⟨by omega, by omega, fun _ _ => rfl, fun w h1 h2 => by omega⟩ (by decide)
  intro k a m hI hk
  obtain ⟨h0, h1, hfr, hlo⟩ := hI
  have hf' := FM_FR hf hfr
  unfold FM at hf'
  unfold bo_Model_laysDay_2
  simp (disch := omega) only [hf', tn1]
  refine TT_if (fun c => ?_) (fun c => ?_)
  · obtain ⟨k1, k2, k3, k4, k5, k6, k7, k8, k9, k10, k11, k12, k13⟩ := hH.2.1 a h0 c
    have hl := hS.2.2.2.1 a h0 (by omega)
    simp (disch := omega) only [g_pos, bn_eq, mst_ne, hf', w32_in, tn2, bt_fold]
    have fin : ∀ x : Int, x = (w0S H (H 245) a).2.1 → TT (bo_Model_laysDay_59 k a a x (mst m 252 a.toNat 0)) (fun _ m' => FR m0 m' ∧ ldA H m' 240) := by
      intro x hx
      unfold bo_Model_laysDay_59
      simp (disch := omega) only [g_pos, bn_eq, w32_in]
      refine hk (a + 1) _ ⟨by omega, by omega, fun b hb => ?_, fun w z1 z2 => ?_⟩ (by omega)
      · rw [mst_ne (by omega), mst_ne (by omega), mst_ne (by omega)]; exact hfr b hb
      · by_cases e : w = a
        · subst e
          refine ⟨?_, ?_, ?_⟩
          · rw [mst_ne (by omega), mst_ne (by omega), mst_hit]; rfl
          · rw [mst_ne (by omega), mst_hit]; exact hx
          · rw [mst_hit]; rfl
        · obtain ⟨x1, x2, x3⟩ := hlo w z1 (by omega)
          refine ⟨?_, ?_, ?_⟩
          · rw [mst_ne (by omega), mst_ne (by omega), mst_miss (by omega)]; exact x1
          · rw [mst_ne (by omega), mst_miss (by omega)]; exact x2
          · rw [mst_miss (by omega)]; exact x3
    refine TT_if (fun d => ?_) (fun d => ?_)
    · exact fin _ (by show _ = if bt (H 245 2) a = 1 then _ else _; rw [if_pos d])
    · exact fin _ (by show _ = if bt (H 245 2) a = 1 then _ else _; rw [if_neg d])
  · exact ld75 hf hH hS ⟨hfr, fun w u z1 z2 z3 z4 => by omega, fun w z1 z2 => hlo w z1 (by omega)⟩
end LD
end Wk
