/-! The class's walk, event by event: rows. -/
section Cw
def wayS (H : Mm) (p q : Int) : Int := if H 250 (6 * p + q).toNat < 100000 then H 250 (6 * p + q).toNat else -1
/-- the hills of the class are those of the reference: what a walk asks -/
def HW (c : Mm) (hc : Nat) (H : Mm) : Prop :=
  (hc = 4 ∨ hc = 41) ∧ c hc 0 = H 205 0 ∧ c hc 1 = H 205 1 ∧ c hc 2 = H 205 2
  ∧ (∀ w : Int, 0 ≤ w → w < H 205 1 → c (hc + 4 * w.toNat + 13) 0 = H 210 w.toNat ∧ c (hc + 4 * w.toNat + 13) 1 = H 211 w.toNat ∧ c (hc + 4 * w.toNat + 13) 2 = H 212 w.toNat ∧ c (hc + 4 * w.toNat + 13) 3 = H 213 w.toNat ∧ c (hc + 4 * w.toNat + 13) 4 = H 215 w.toNat
    ∧ (∀ i : Int, 0 ≤ i → i < H 215 w.toNat → c (hc + 4 * w.toNat + 14) i.toNat = H 214 (4 * w + i).toNat)
    ∧ (∀ p : Int, 0 ≤ p → p < 6 → c (hc + 4 * w.toNat + 15) p.toNat = H 216 (6 * w + p).toNat - 1 ∧ (H 216 (6 * w + p).toNat ≠ 0 → c (hc + 4 * w.toNat + 16) p.toNat = H 217 (6 * w + p).toNat)))
  ∧ (∀ p q : Int, 0 ≤ p → p < H 205 0 → 0 ≤ q → q < H 205 0 → c (hc + 5) (6 * p + q).toNat = wayS H p q)
def SW (c : Mm) (sc : Nat) (H : Mm) (S : Nat → Int) : Prop :=
  (sc = 83 ∨ sc = 95) ∧ c sc 0 = S 0 ∧ c sc 1 = S 1 ∧ c sc 2 = S 2 ∧ c sc 3 = S 3 ∧ (∀ w : Int, 0 ≤ w → w < 6 → c (sc + 1) w.toNat = S (4 + w).toNat) ∧ (∀ h : Int, 0 ≤ h → h < H 205 2 → c (sc + 2) h.toNat = S (10 + h).toNat)
def FW (c m : Mm) : Prop := ∀ a, a < 98 ∨ 103 < a → m a = c a
def GX (c m : Mm) (hc sc : Nat) : Prop := FW c m ∧ m 98 0 = (hc : Int) ∧ m 98 1 = (sc : Int) ∧ 0 ≤ m 98 7 ∧ m 98 7 < 64
def lgS (H : Mm) (w p : Int) : Int := if H 216 (6 * w + p).toNat = 0 then rstS H w else imx (rstS H w) (H 217 (6 * w + p).toNat)
def wyS (H : Mm) (w st : Int) : Int := if st + 1 < H 215 w.toNat then (if farS H w st < 100000 then farS H w st else -1) else -1
theorem rest_eq {c m H : Mm} {hc : Nat} {w : Int} (hf : FW c m) (hH : HD H) (hW : HW c hc H) (h0 : 0 ≤ w) (h1 : w < H 205 1) : fn_Walker_rest (hc + 4 * w.toNat + 13) m = some (rstS H w, m) := by
  obtain ⟨k1, k2, k3, k4, k5, k6, k7, k8, -⟩ := hH.2.1 w h0 h1
  obtain ⟨q0, q1, q2, q3, q4, q5, -⟩ := hW.2.2.2.2.1 w h0 h1
  have hn := hH.1
  have hc0 := hW.1
  have hf' := hf
  unfold FW at hf'
  unfold fn_Walker_rest rstS
  simp (disch := omega) only [hf', q0, q3, w32_in, some_ite]
theorem minutesFor_eq {c m H : Mm} {hc : Nat} {S : Nat → Int} {w st sn : Int} (hf : FW c m) (hH : HD H) (hW : HW c hc H) (h0 : 0 ≤ w) (h1 : w < H 205 1) (h2 : 0 ≤ st) (h3 : st + 1 < H 215 w.toNat) (hs : S 3 = sn) (hs1 : sn = 0 ∨ sn = 1) : fn_Walker_minutesFor (hc + 4 * w.toNat + 13) (farS H w st) sn m = some (mnS H S w (farS H w st), m) := by
  obtain ⟨k1, k2, k3, k4, k5, k6, k7, k8, -⟩ := hH.2.1 w h0 h1
  obtain ⟨q0, q1, q2, q3, q4, q5, -⟩ := hW.2.2.2.2.1 w h0 h1
  have hn := hH.1
  have hc0 := hW.1
  obtain ⟨r1, r2, -⟩ := mnS_r (S := S) hH h0 h1 h2 h3
  generalize farS H w st = f at *
  have c2 := mulb (a := f) (b := H 212 w.toNat) r1 r2 (by omega) (by omega)
  have c3 := mulb (a := f) (b := H 212 w.toNat + 1) r1 r2 (by omega) (by omega)
  have hf' := hf
  unfold FW at hf'
  unfold fn_Walker_minutesFor bo_Walker_minutesFor_22 mnS bn
  simp (disch := omega) only [hf', q0, q2, w32_in, some_ite, hs]
  by_cases e1 : H 210 w.toNat = 1
  · simp (disch := omega) only [if_pos e1, w32_in]
    rcases hs1 with rfl | rfl
    · simp
    · simp only [e1]; simp
  · simp (disch := omega) only [if_neg e1, w32_in]
    rcases hs1 with rfl | rfl
    · simp
    · by_cases e3 : H 210 w.toNat = 3
      · simp [e3]
      · simp [e3]
theorem nextWay_eq {c m H : Mm} {hc sc : Nat} {w v : Int} (hg : GX c m hc sc) (hH : HD H) (hW : HW c hc H) (h0 : 0 ≤ w) (h1 : w < H 205 1) (e : m 99 w.toNat = v) (h2 : 1 ≤ v) (h3 : v ≤ H 215 w.toNat) : fn_Walk_nextWay w m = some (wyS H w (v - 1), m) := by
  obtain ⟨k1, k2, k3, k4, k5, k6, k7, k8, k9, k10, k11, -⟩ := hH.2.1 w h0 h1
  obtain ⟨q0, q1, q2, q3, q4, q5, -⟩ := hW.2.2.2.2.1 w h0 h1
  have hn := hH.1
  have hc0 := hW.1
  obtain ⟨hf, h98, -⟩ := hg
  have hf' := hf
  unfold FW at hf'
  unfold fn_Walk_nextWay wyS
  have hk : isK 0 (hc : Int) = true := isK0 (by omega)
  simp (disch := omega) only [hk, ↓reduceIte, g_pos, bn_eq, e, h98, Int.toNat_natCast, hf', q4, w32_in]
  by_cases d : v < H 215 w.toNat
  · have a1 := k11 (v - 1) (by omega) (by omega)
    have a2 := k11 v (by omega) (by omega)
    have e1 := q5 (v - 1) (by omega) (by omega)
    have e2 := q5 v (by omega) (by omega)
    have e3 := hW.2.2.2.2.2 (H 214 (4 * w + (v - 1)).toNat) (H 214 (4 * w + v).toNat) a1.1 a1.2 a2.1 a2.2
    have e4 : H 214 (4 * w + (v - 1)).toNat * 6 + H 214 (4 * w + v).toNat = 6 * H 214 (4 * w + (v - 1)).toNat + H 214 (4 * w + v).toNat := by omega
    have e5 : 4 * w + (v - 1) + 1 = 4 * w + v := by omega
    rw [if_pos d, if_pos (by omega : v - 1 + 1 < H 215 w.toNat)]
    simp (disch := omega) only [g_pos, e1, e2, w32_in, e4]
    rw [e3]
    unfold wayS farS
    rw [e5]
  · rw [if_neg d, if_neg (by omega)]
theorem longestStay_eq {c m H : Mm} {hc : Nat} {w p : Int} (hf : FW c m) (hH : HD H) (hW : HW c hc H) (h0 : 0 ≤ w) (h1 : w < H 205 1) (h2 : 0 ≤ p) (h3 : p < 6) : fn_Walk_longestStay (hc + 4 * w.toNat + 13) p m = some (lgS H w p, m) := by
  obtain ⟨k1, k2, k3, k4, k5, k6, k7, k8, k9, k10, k11, k12, k13⟩ := hH.2.1 w h0 h1
  obtain ⟨q0, q1, q2, q3, q4, q5, q6⟩ := hW.2.2.2.2.1 w h0 h1
  have hn := hH.1
  have hc0 := hW.1
  have a1 := k13 p h2 h3
  have a2 := q6 p h2 h3
  have hf' := hf
  unfold FW at hf'
  have e1 : hc + 4 * w.toNat + 13 + 2 = hc + 4 * w.toNat + 15 := by omega
  have e2 : hc + 4 * w.toNat + 13 + 3 = hc + 4 * w.toNat + 16 := by omega
  unfold fn_Walk_longestStay lgS
  rw [rest_eq hf hH hW h0 h1]
  simp (disch := omega) only [g_pos, bd_some, e1, e2, hf', a2.1]
  by_cases d : H 216 (6 * w + p).toNat = 0
  · rw [if_pos (by omega), if_pos d]
  · rw [if_neg (by omega), if_neg d, a2.2 d]
theorem visitOf_eq {m : Mm} {w v : Int} (h0 : 0 ≤ w) (h1 : w < 6) (e : m 99 w.toNat = v) (h2 : 0 ≤ v) (h3 : v ≤ 4) : fn_Walk_visitOf w m = some (4 * w + (v - 1), m) := by
  unfold fn_Walk_visitOf
  simp (disch := omega) only [g_pos, e, w32_in]
  have : w * 4 + v - 1 = 4 * w + (v - 1) := by omega
  rw [this]
theorem isThere_eq {m : Mm} {w : Int} : fn_Walk_isThere w m = some (if bt (m 98 7) w = 0 then 0 else 1, m) := by
  unfold fn_Walk_isThere
  exact some_ite _ _ _
/-- of a walker nothing has changed -/
def SameW (m m' : Mm) (w : Int) : Prop := m' 99 w.toNat = m 99 w.toNat ∧ bt (m' 98 7) w = bt (m 98 7) w ∧ m' 103 w.toNat = m 103 w.toNat ∧ ∀ i : Int, 0 ≤ i → i < 4 → m' 100 (4 * w + i).toNat = m 100 (4 * w + i).toNat ∧ m' 101 (4 * w + i).toNat = m 101 (4 * w + i).toNat ∧ m' 102 (4 * w + i).toNat = m 102 (4 * w + i).toNat
theorem SameW_refl {m : Mm} {w : Int} : SameW m m w := ⟨rfl, rfl, rfl, fun _ _ _ => ⟨rfl, rfl, rfl⟩⟩
theorem SameW_trans {m m1 m2 : Mm} {w : Int} (h : SameW m m1 w) (h' : SameW m1 m2 w) : SameW m m2 w :=
  ⟨h'.1.trans h.1, h'.2.1.trans h.2.1, h'.2.2.1.trans h.2.2.1, fun i a b => ⟨(h'.2.2.2 i a b).1.trans (h.2.2.2 i a b).1, (h'.2.2.2 i a b).2.1.trans (h.2.2.2 i a b).2.1, (h'.2.2.2 i a b).2.2.trans (h.2.2.2 i a b).2.2⟩⟩
def CameW (H m m' : Mm) (t w : Int) : Prop := m' 99 w.toNat = m 99 w.toNat + 1 ∧ bt (m' 98 7) w = 1 ∧ m' 103 w.toNat = (if wyS H w (m 99 w.toNat) = -1 then 1000000 else t + lgS H w (H 214 (4 * w + m 99 w.toNat).toNat)) ∧ m' 100 (4 * w + m 99 w.toNat).toNat = H 214 (4 * w + m 99 w.toNat).toNat ∧ m' 101 (4 * w + m 99 w.toNat).toNat = t ∧ m' 102 (4 * w + m 99 w.toNat).toNat = 239 ∧ ∀ i : Int, 0 ≤ i → i < 4 → i ≠ m 99 w.toNat → m' 100 (4 * w + i).toNat = m 100 (4 * w + i).toNat ∧ m' 101 (4 * w + i).toNat = m 101 (4 * w + i).toNat ∧ m' 102 (4 * w + i).toNat = m 102 (4 * w + i).toNat
def ComeP (H m m' : Mm) (t w : Int) : Prop := (m 103 w.toNat = t ∧ bt (m 98 7) w = 0 → CameW H m m' t w) ∧ (¬ (m 103 w.toNat = t ∧ bt (m 98 7) w = 0) → SameW m m' w)
theorem comeAll_ok {c m0 H : Mm} {hc sc : Nat} {t : Int} (hg : GX c m0 hc sc) (hH : HD H) (hW : HW c hc H) (ht0 : 0 ≤ t) (ht1 : t < 240) (hv : ∀ w : Int, 0 ≤ w → w < H 205 1 → 0 ≤ m0 99 w.toNat ∧ m0 99 w.toNat ≤ H 215 w.toNat ∧ (m0 103 w.toNat = t ∧ bt (m0 98 7) w = 0 → m0 99 w.toNat < H 215 w.toNat)) : TT (fn_Walk_comeAll t m0) (fun _ m' => GX c m' hc sc ∧ ∀ w : Int, 0 ≤ w → w < H 205 1 → ComeP H m0 m' t w) := by
  have hn := hH.1
  have hc0 := hW.1
  unfold fn_Walk_comeAll
  refine lp_inv1 (bo := bo_Walk_comeAll_2 t) (fun _ => rfl) (fun a m => 0 ≤ a ∧ a ≤ H 205 1 ∧ GX c m hc sc ∧ (∀ w : Int, 0 ≤ w → w < a → ComeP H m0 m t w) ∧ (∀ w : Int, a ≤ w → w < 6 → SameW m0 m w)) (fun a _ => (6 - a).toNat) ?_ FU 0 m0 ⟨by omega, by omega, hg, fun w h1 h2 => by omega, fun w h1 h2 => SameW_refl⟩ (by decide)
  intro k a m hI hk
  obtain ⟨h0, h1, hgx, hlo, hhi⟩ := hI
  have hgx' := hgx
  obtain ⟨hfr, e0, e1, r0, r1⟩ := hgx
  have hf' := hfr
  unfold FW at hf'
  have hk0 : isK 0 (hc : Int) = true := isK0 (by omega)
  unfold bo_Walk_comeAll_2
  rw [e0, Int.toNat_natCast, if_pos hk0, hf' hc (by omega), hW.2.2.1]
  refine TT_if (fun hb => ?_) (fun hb => ?_)
  · obtain ⟨k1, k2, k3, k4, k5, k6, k7, k8, k9, k10, k11, k12, k13⟩ := hH.2.1 a h0 hb
    obtain ⟨q0, q1, q2, q3, q4, q5, q6⟩ := hW.2.2.2.2.1 a h0 hb
    obtain ⟨v1, v2, v3⟩ := hv a h0 hb
    obtain ⟨s1, s2, s3, s4⟩ := hhi a (by omega) (by omega)
    have fin : ∀ m' : Mm, GX c m' hc sc → ComeP H m0 m' t a → (∀ w : Int, 0 ≤ w → w < 6 → w ≠ a → SameW m m' w) → TT (bo_Walk_comeAll_154 t k a m') (fun _ m' => GX c m' hc sc ∧ ∀ w : Int, 0 ≤ w → w < H 205 1 → ComeP H m0 m' t w) := by
      intro m' z1 z2 z3
      unfold bo_Walk_comeAll_154
      simp (disch := omega) only [w32_in]
      refine hk (a + 1) m' ⟨by omega, by omega, z1, fun w y1 y2 => ?_, fun w y1 y2 => ?_⟩ (by omega)
      · by_cases d : w = a
        · subst d; exact z2
        · have u := hlo w y1 (by omega)
          have u2 := z3 w y1 (by omega) d
          refine ⟨fun x => ?_, fun x => SameW_trans (u.2 x) u2⟩
          obtain ⟨p1, p2, p3, p4, p5, p6, p7⟩ := u.1 x
          obtain ⟨w1, w2, w3, w4⟩ := u2
          have v1' := hv w y1 (by omega)
          have v2' := v1'.2.2 x
          have v3' := hH.2.1 w y1 (by omega)
          have v4' : H 215 w.toNat ≤ 4 := v3'.2.2.2.2.2.2.2.2.2.1
          have w5 := w4 (m0 99 w.toNat) (by omega) (by omega)
          exact ⟨w1.trans p1, w2.trans p2, w3.trans p3, w5.1.trans p4, w5.2.1.trans p5, w5.2.2.trans p6, fun i i0 i1 i2 => ⟨(w4 i i0 i1).1.trans (p7 i i0 i1 i2).1, (w4 i i0 i1).2.1.trans (p7 i i0 i1 i2).2.1, (w4 i i0 i1).2.2.trans (p7 i i0 i1 i2).2.2⟩⟩
      · exact SameW_trans (hhi w (by omega) y2) (z3 w (by omega) y2 (by omega))
    have stay : ¬ (m0 103 a.toNat = t ∧ bt (m0 98 7) a = 0) → TT (bo_Walk_comeAll_154 t k a m) (fun _ m' => GX c m' hc sc ∧ ∀ w : Int, 0 ≤ w → w < H 205 1 → ComeP H m0 m' t w) := fun x => fin m hgx' ⟨fun y => absurd y x, fun _ => ⟨s1, s2, s3, s4⟩⟩ (fun _ _ _ _ => SameW_refl)
    simp (disch := omega) only [g_pos, s3]
    refine TT_if (fun d => ?_) (fun d => stay (fun x => d x.1))
    rw [isThere_eq, bd_some, s2]
    by_cases b0 : bt (m0 98 7) a = 0
    · rw [if_pos b0, if_pos rfl]
      have v4 := v3 ⟨d, b0⟩
      have eq := q5 (m0 99 a.toNat) v1 v4
      have ex : a * 4 + m0 99 a.toNat = 4 * a + m0 99 a.toNat := by omega
      have br := bt_set_r r0 r1 h0 (by omega : a < 6)
      simp (disch := omega) only [g_pos, s1, bn_eq, hk0, ↓reduceIte, w32_in, mst_ne, hf', eq, ex, e0, Int.toNat_natCast]
      have gx2 : GX c (mst (mst (mst (mst (mst m 100 (4 * a + m0 99 a.toNat).toNat (H 214 (4 * a + m0 99 a.toNat).toNat)) 101 (4 * a + m0 99 a.toNat).toNat t) 102 (4 * a + m0 99 a.toNat).toNat 239) 99 a.toNat (m0 99 a.toNat + 1)) 98 7 (ior (m 98 7) (ishl 1 a))) hc sc := by
        refine ⟨fun x hx => ?_, ?_, ?_, ?_, ?_⟩
        · simp (disch := omega) only [mst_ne, hf']
        · simp (disch := omega) only [mst_ne, mst_miss, e0]
        · simp (disch := omega) only [mst_ne, mst_miss, e1]
        · simp only [mst_hit]; exact br.1
        · simp only [mst_hit]; exact br.2
      have fin2 : ∀ x : Int, x = (if wyS H a (m0 99 a.toNat) = -1 then 1000000 else t + lgS H a (H 214 (4 * a + m0 99 a.toNat).toNat)) → TT (bo_Walk_comeAll_153 t k a a x (mst (mst (mst (mst (mst m 100 (4 * a + m0 99 a.toNat).toNat (H 214 (4 * a + m0 99 a.toNat).toNat)) 101 (4 * a + m0 99 a.toNat).toNat t) 102 (4 * a + m0 99 a.toNat).toNat 239) 99 a.toNat (m0 99 a.toNat + 1)) 98 7 (ior (m 98 7) (ishl 1 a)))) (fun _ m' => GX c m' hc sc ∧ ∀ w : Int, 0 ≤ w → w < H 205 1 → ComeP H m0 m' t w) := by
        intro x hx
        unfold bo_Walk_comeAll_153
        simp (disch := omega) only [g_pos, bn_eq]
        obtain ⟨y1, y2, y3, y4, y5⟩ := gx2
        refine fin _ ⟨fun z hz => ?_, ?_, ?_, ?_, ?_⟩ ⟨fun _ => ?_, fun y => absurd ⟨d, b0⟩ y⟩ (fun w z1 z2 z3 => ?_)
        · rw [mst_ne (by omega)]; exact y1 z hz
        · rw [mst_ne (by omega)]; exact y2
        · rw [mst_ne (by omega)]; exact y3
        · rw [mst_ne (by omega)]; exact y4
        · rw [mst_ne (by omega)]; exact y5
        · refine ⟨?_, ?_, ?_, ?_, ?_, ?_, fun i i0 i1 i2 => ?_⟩
          · simp (disch := omega) only [mst_ne, mst_hit]
          · simp (disch := omega) only [mst_ne, mst_hit, bt_set, ↓reduceIte]
          · rw [mst_hit]; exact hx
          · simp (disch := omega) only [mst_ne, mst_hit]
          · simp (disch := omega) only [mst_ne, mst_hit]
          · simp (disch := omega) only [mst_ne, mst_hit]
          · obtain ⟨j1, j2, j3⟩ := s4 i i0 i1
            simp (disch := omega) only [mst_ne, mst_miss, j1, j2, j3, and_self]
        · refine ⟨?_, ?_, ?_, fun i i0 i1 => ?_⟩
          · simp (disch := omega) only [mst_ne, mst_miss]
          · simp (disch := omega) only [mst_ne, mst_hit, bt_set, if_neg z3]
          · simp (disch := omega) only [mst_ne, mst_miss]
          · simp (disch := omega) only [mst_ne, mst_miss, and_self]
      rw [nextWay_eq (v := m0 99 a.toNat + 1) gx2 hH hW h0 hb (by simp (disch := omega) only [mst_ne, mst_hit]) (by omega) (by omega), bd_some]
      have ey : m0 99 a.toNat + 1 - 1 = m0 99 a.toNat := by omega
      rw [ey]
      refine TT_if (fun f => ?_) (fun f => ?_)
      · exact fin2 _ (by rw [if_pos f])
      · have a1 := k11 (m0 99 a.toNat) v1 v4
        simp (disch := omega) only [g_pos, mst_ne, mst_hit]
        rw [longestStay_eq gx2.1 hH hW h0 hb a1.1 (by omega), bd_some]
        have r2 : 0 ≤ rstS H a ∧ rstS H a ≤ 60 := by unfold rstS; split <;> omega
        have r3 : 0 ≤ lgS H a (H 214 (4 * a + m0 99 a.toNat).toNat) ∧ lgS H a (H 214 (4 * a + m0 99 a.toNat).toNat) ≤ 60 := by
          have := k13 _ a1.1 (by omega)
          unfold lgS imx
          split
          · exact r2
          · split <;> omega
        simp (disch := omega) only [w32_in]
        exact fin2 _ (by rw [if_neg f])
    · rw [if_neg b0, if_neg (by decide)]
      exact stay (fun x => b0 x.2)
  · have e : a = H 205 1 := by omega
    exact TT_some.mpr ⟨hgx', fun w y1 y2 => hlo w y1 (by omega)⟩
def MtS (H m : Mm) (w : Int) : Prop := H 216 (6 * w + H 214 (4 * w + (m 99 w.toNat - 1)).toNat).toNat ≠ 0 ∧ bt (m 98 7) (H 216 (6 * w + H 214 (4 * w + (m 99 w.toNat - 1)).toNat).toNat - 1) = 1 ∧ m 100 (4 * (H 216 (6 * w + H 214 (4 * w + (m 99 w.toNat - 1)).toNat).toNat - 1) + (m 99 (H 216 (6 * w + H 214 (4 * w + (m 99 w.toNat - 1)).toNat).toNat - 1).toNat - 1)).toNat = H 214 (4 * w + (m 99 w.toNat - 1)).toNat
def GrC (H m : Mm) (w : Int) : Prop := bt (m 98 7) w = 1 ∧ m 103 w.toNat ≠ 1000000 ∧ MtS H m w
def GrP (H m m' : Mm) (t w : Int) : Prop := (GrC H m w → m' 103 w.toNat = imn (m 103 w.toNat) (imx t (m 101 (4 * w + (m 99 w.toNat - 1)).toNat + rstS H w))) ∧ (¬ GrC H m w → m' 103 w.toNat = m 103 w.toNat)
/-- who is there has come -/
def ThW (H m : Mm) (w : Int) : Prop := bt (m 98 7) w = 1 → 1 ≤ m 99 w.toNat ∧ m 99 w.toNat ≤ H 215 w.toNat ∧ m 100 (4 * w + (m 99 w.toNat - 1)).toNat = H 214 (4 * w + (m 99 w.toNat - 1)).toNat ∧ 0 ≤ m 101 (4 * w + (m 99 w.toNat - 1)).toNat ∧ m 101 (4 * w + (m 99 w.toNat - 1)).toNat ≤ 240
theorem greetAll_ok {c m0 H : Mm} {hc sc : Nat} {t : Int} (hg : GX c m0 hc sc) (hH : HD H) (hW : HW c hc H) (ht0 : 0 ≤ t) (ht1 : t < 240) (hv : ∀ w : Int, 0 ≤ w → w < H 205 1 → ThW H m0 w) : TT (fn_Walk_greetAll t m0) (fun _ m' => (∀ a, a ≠ 103 → m' a = m0 a) ∧ ∀ w : Int, 0 ≤ w → w < H 205 1 → GrP H m0 m' t w) := by
  have hn := hH.1
  have hc0 := hW.1
  unfold fn_Walk_greetAll
  refine lp_inv1 (bo := bo_Walk_greetAll_2 t) (fun _ => rfl) (fun a m => 0 ≤ a ∧ a ≤ H 205 1 ∧ (∀ a, a ≠ 103 → m a = m0 a) ∧ (∀ w : Int, 0 ≤ w → w < a → GrP H m0 m t w) ∧ (∀ w : Int, a ≤ w → w < 6 → m 103 w.toNat = m0 103 w.toNat)) (fun a _ => (6 - a).toNat) ?_ FU 0 m0 ⟨by omega, by omega, fun _ _ => rfl, fun w h1 h2 => by omega, fun w h1 h2 => rfl⟩ (by decide)
  intro k a m hI hk
  obtain ⟨h0, h1, hfr, hlo, hhi⟩ := hI
  obtain ⟨hf0, e0, e1, r0, r1⟩ := hg
  have e0' : m 98 0 = (hc : Int) := by rw [hfr 98 (by omega)]; exact e0
  have hk0 : isK 0 (hc : Int) = true := isK0 (by omega)
  have hfm : FW c m := fun x hx => (hfr x (by omega)).trans (hf0 x hx)
  have hf' := hfm
  unfold FW at hf'
  unfold bo_Walk_greetAll_2
  rw [e0', Int.toNat_natCast, if_pos hk0, hf' hc (by omega), hW.2.2.1]
  refine TT_if (fun hb => ?_) (fun hb => ?_)
  · obtain ⟨k1, k2, k3, k4, k5, k6, k7, k8, k9, k10, k11, k12, k13⟩ := hH.2.1 a h0 hb
    obtain ⟨q0, q1, q2, q3, q4, q5, q6⟩ := hW.2.2.2.2.1 a h0 hb
    have s3 := hhi a (by omega) (by omega)
    have fin : ∀ m' : Mm, (∀ a, a ≠ 103 → m' a = m a) → GrP H m0 m' t a → (∀ w : Int, 0 ≤ w → w ≠ a → m' 103 w.toNat = m 103 w.toNat) → TT (bo_Walk_greetAll_134 t k a m') (fun _ m' => (∀ a, a ≠ 103 → m' a = m0 a) ∧ ∀ w : Int, 0 ≤ w → w < H 205 1 → GrP H m0 m' t w) := by
      intro m' z1 z2 z3
      unfold bo_Walk_greetAll_134
      simp (disch := omega) only [w32_in]
      refine hk (a + 1) m' ⟨by omega, by omega, fun x hx => (z1 x hx).trans (hfr x hx), fun w y1 y2 => ?_, fun w y1 y2 => ?_⟩ (by omega)
      · by_cases d : w = a
        · subst d; exact z2
        · have u := hlo w y1 (by omega)
          have e := z3 w y1 d
          exact ⟨fun x => e.trans (u.1 x), fun x => e.trans (u.2 x)⟩
      · exact (z3 w (by omega) (by omega)).trans (hhi w (by omega) y2)
    have stay : ¬ GrC H m0 a → TT (bo_Walk_greetAll_134 t k a m) (fun _ m' => (∀ a, a ≠ 103 → m' a = m0 a) ∧ ∀ w : Int, 0 ≤ w → w < H 205 1 → GrP H m0 m' t w) := fun x => fin m (fun _ _ => rfl) ⟨fun y => absurd y x, fun _ => s3⟩ (fun _ _ _ => rfl)
    rw [isThere_eq, bd_some, hfr 98 (by omega)]
    by_cases b0 : bt (m0 98 7) a = 0
    · rw [if_pos b0, if_pos rfl]
      exact stay (fun x => by have := x.1; omega)
    · rw [if_neg b0, if_neg (by decide)]
      have b1 : bt (m0 98 7) a = 1 := by have := bt_01 r0 r1 h0 (by omega : a < 6); omega
      obtain ⟨u1, u2, u3, u4, u5⟩ := hv a h0 hb b1
      have e99 := hfr 99 (by omega)
      have e100 := hfr 100 (by omega)
      have e101 := hfr 101 (by omega)
      have e98 := hfr 98 (by omega)
      refine TT_gd (by omega) ?_
      rw [s3]
      refine TT_if (fun d => stay (fun x => x.2.1 d)) (fun d => ?_)
      rw [e0, if_pos hk0]
      refine TT_gd (by omega) ?_
      rw [visitOf_eq (v := m0 99 a.toNat) h0 (by omega) (by rw [e99]) (by omega) (by omega), bd_some]
      have a1 := k11 (m0 99 a.toNat - 1) (by omega) (by omega)
      refine TT_gd (by omega) ?_
      rw [e100, u3, Int.toNat_natCast]
      refine TT_gd (by omega) ?_
      have a2 := q6 _ a1.1 (by omega)
      have a3 := k13 _ a1.1 (by omega)
      rw [hf' (hc + 4 * a.toNat + 15) (by omega), a2.1]
      simp only [bn_eq]
      refine TT_if (fun f => stay (fun x => x.2.2.1 (by omega))) (fun f => ?_)
      rw [isThere_eq, bd_some, e98]
      by_cases b2 : bt (m0 98 7) (H 216 (6 * a + H 214 (4 * a + (m0 99 a.toNat - 1)).toNat).toNat - 1) = 0
      · rw [if_pos b2, if_pos rfl]
        exact stay (fun x => by have := x.2.2.2.1; omega)
      · rw [if_neg b2, if_neg (by decide)]
        have b3 : bt (m0 98 7) (H 216 (6 * a + H 214 (4 * a + (m0 99 a.toNat - 1)).toNat).toNat - 1) = 1 := by have := bt_01 r0 r1 (by omega : 0 ≤ H 216 (6 * a + H 214 (4 * a + (m0 99 a.toNat - 1)).toNat).toNat - 1) (by omega); omega
        obtain ⟨o1, o2, o3, o4, o5⟩ := hv (H 216 (6 * a + H 214 (4 * a + (m0 99 a.toNat - 1)).toNat).toNat - 1) (by omega) (by omega) b3
        have o6 := (hH.2.1 (H 216 (6 * a + H 214 (4 * a + (m0 99 a.toNat - 1)).toNat).toNat - 1) (by omega) (by omega)).2.2.2.2.2.2.2.2.2.1
        rw [visitOf_eq (v := m0 99 (H 216 (6 * a + H 214 (4 * a + (m0 99 a.toNat - 1)).toNat).toNat - 1).toNat) (by omega) (by omega) (by rw [e99]) (by omega) (by omega), bd_some]
        refine TT_gd (by omega) ?_
        refine TT_gd (by omega) ?_
        rw [e100, u3]
        refine TT_if (fun j => ?_) (fun j => stay (fun x => j x.2.2.2.2))
        refine TT_gd (by omega) ?_
        rw [rest_eq hfm hH hW h0 hb, bd_some]
        have r2 : 0 ≤ rstS H a ∧ rstS H a ≤ 60 := by unfold rstS; split <;> omega
        rw [e101]
        simp (disch := omega) only [bn_eq, w32_in]
        refine TT_gd (by omega) ?_
        refine TT_gd (by omega) ?_
        rw [s3]
        refine fin _ (fun x hx => mst_ne hx) ⟨fun _ => mst_hit, fun y => absurd ⟨b1, d, by omega, b3, j⟩ y⟩ (fun w z1 z2 => mst_miss (by omega))
  · have e : a = H 205 1 := by omega
    exact TT_some.mpr ⟨hfr, fun w y1 y2 => hlo w y1 (by omega)⟩
def LeftW (H : Mm) (S : Nat → Int) (m m' : Mm) (t w : Int) : Prop := m' 99 w.toNat = m 99 w.toNat ∧ bt (m' 98 7) w = 0 ∧ m' 103 w.toNat = t + mnS H S w (farS H w (m 99 w.toNat - 1)) ∧ m' 102 (4 * w + (m 99 w.toNat - 1)).toNat = t ∧ ∀ i : Int, 0 ≤ i → i < 4 → m' 100 (4 * w + i).toNat = m 100 (4 * w + i).toNat ∧ m' 101 (4 * w + i).toNat = m 101 (4 * w + i).toNat ∧ (i ≠ m 99 w.toNat - 1 → m' 102 (4 * w + i).toNat = m 102 (4 * w + i).toNat)
def LvP (H : Mm) (S : Nat → Int) (m m' : Mm) (t w : Int) : Prop := (m 103 w.toNat = t ∧ bt (m 98 7) w = 1 → LeftW H S m m' t w) ∧ (¬ (m 103 w.toNat = t ∧ bt (m 98 7) w = 1) → SameW m m' w)
theorem leaveAll_ok {c m0 H : Mm} {hc sc : Nat} {S : Nat → Int} {t : Int} (hg : GX c m0 hc sc) (hH : HD H) (hW : HW c hc H) (hS : SW c sc H S) (hS3 : S 3 = 0 ∨ S 3 = 1) (ht0 : 0 ≤ t) (ht1 : t < 240) (hv : ∀ w : Int, 0 ≤ w → w < H 205 1 → ThW H m0 w ∧ (m0 103 w.toNat = t ∧ bt (m0 98 7) w = 1 → m0 99 w.toNat < H 215 w.toNat ∧ farS H w (m0 99 w.toNat - 1) < 100000)) : TT (fn_Walk_leaveAll t m0) (fun _ m' => GX c m' hc sc ∧ ∀ w : Int, 0 ≤ w → w < H 205 1 → LvP H S m0 m' t w) := by
  have hn := hH.1
  have hc0 := hW.1
  unfold fn_Walk_leaveAll
  refine lp_inv1 (bo := bo_Walk_leaveAll_2 t) (fun _ => rfl) (fun a m => 0 ≤ a ∧ a ≤ H 205 1 ∧ GX c m hc sc ∧ (∀ w : Int, 0 ≤ w → w < a → LvP H S m0 m t w) ∧ (∀ w : Int, a ≤ w → w < 6 → SameW m0 m w)) (fun a _ => (6 - a).toNat) ?_ FU 0 m0 ⟨by omega, by omega, hg, fun w h1 h2 => by omega, fun w h1 h2 => SameW_refl⟩ (by decide)
  intro k a m hI hk
  obtain ⟨h0, h1, hgx, hlo, hhi⟩ := hI
  have hgx' := hgx
  obtain ⟨hfr, e0, e1, r0, r1⟩ := hgx
  have hf' := hfr
  unfold FW at hf'
  have hk0 : isK 0 (hc : Int) = true := isK0 (by omega)
  unfold bo_Walk_leaveAll_2
  rw [e0, Int.toNat_natCast, if_pos hk0, hf' hc (by omega), hW.2.2.1]
  refine TT_if (fun hb => ?_) (fun hb => ?_)
  · obtain ⟨k1, k2, k3, k4, k5, k6, k7, k8, k9, k10, k11, k12, k13⟩ := hH.2.1 a h0 hb
    obtain ⟨v1, v3⟩ := hv a h0 hb
    obtain ⟨s1, s2, s3, s4⟩ := hhi a (by omega) (by omega)
    have fin : ∀ m' : Mm, GX c m' hc sc → LvP H S m0 m' t a → (∀ w : Int, 0 ≤ w → w < 6 → w ≠ a → SameW m m' w) → TT (bo_Walk_leaveAll_88 t k a m') (fun _ m' => GX c m' hc sc ∧ ∀ w : Int, 0 ≤ w → w < H 205 1 → LvP H S m0 m' t w) := by
      intro m' z1 z2 z3
      unfold bo_Walk_leaveAll_88
      simp (disch := omega) only [w32_in]
      refine hk (a + 1) m' ⟨by omega, by omega, z1, fun w y1 y2 => ?_, fun w y1 y2 => ?_⟩ (by omega)
      · by_cases d : w = a
        · subst d; exact z2
        · have u := hlo w y1 (by omega)
          have u2 := z3 w y1 (by omega) d
          refine ⟨fun x => ?_, fun x => SameW_trans (u.2 x) u2⟩
          obtain ⟨p1, p2, p3, p4, p5⟩ := u.1 x
          obtain ⟨w1, w2, w3, w4⟩ := u2
          have v1' := (hv w y1 (by omega)).1 x.2
          have v4' : H 215 w.toNat ≤ 4 := (hH.2.1 w y1 (by omega)).2.2.2.2.2.2.2.2.2.1
          have w5 := w4 (m0 99 w.toNat - 1) (by omega) (by omega)
          exact ⟨w1.trans p1, w2.trans p2, w3.trans p3, w5.2.2.trans p4, fun i i0 i1 => ⟨(w4 i i0 i1).1.trans (p5 i i0 i1).1, (w4 i i0 i1).2.1.trans (p5 i i0 i1).2.1, fun i2 => (w4 i i0 i1).2.2.trans ((p5 i i0 i1).2.2 i2)⟩⟩
      · exact SameW_trans (hhi w (by omega) y2) (z3 w (by omega) y2 (by omega))
    have stay : ¬ (m0 103 a.toNat = t ∧ bt (m0 98 7) a = 1) → TT (bo_Walk_leaveAll_88 t k a m) (fun _ m' => GX c m' hc sc ∧ ∀ w : Int, 0 ≤ w → w < H 205 1 → LvP H S m0 m' t w) := fun x => fin m hgx' ⟨fun y => absurd y x, fun _ => ⟨s1, s2, s3, s4⟩⟩ (fun _ _ _ _ => SameW_refl)
    rw [isThere_eq, bd_some, s2]
    by_cases b0 : bt (m0 98 7) a = 0
    · rw [if_pos b0, if_pos rfl]
      exact stay (fun x => by omega)
    · rw [if_neg b0, if_neg (by decide)]
      have b1 : bt (m0 98 7) a = 1 := by
        have := bt_01 r0 r1 h0 (by omega : a < 6)
        rw [s2] at this
        omega
      obtain ⟨u1, u2, u3, u4, u5⟩ := v1 b1
      refine TT_gd (by omega) ?_
      rw [s3]
      refine TT_if (fun d => ?_) (fun d => stay (fun x => d x.1))
      obtain ⟨v4, v5⟩ := v3 ⟨d, b1⟩
      rw [visitOf_eq (v := m0 99 a.toNat) h0 (by omega) s1 (by omega) (by omega), bd_some]
      refine TT_gd (by omega) ?_
      have br := bt_clr_r r0 r1 h0 (by omega : a < 6)
      simp (disch := omega) only [bn_eq, mst_ne]
      have gx2 : GX c (mst (mst m 102 (4 * a + (m0 99 a.toNat - 1)).toNat t) 98 7 (iand (m 98 7) (ixor (ishl 1 a) (-1)))) hc sc := by
        refine ⟨fun x hx => ?_, ?_, ?_, ?_, ?_⟩
        · simp (disch := omega) only [mst_ne, hf']
        · simp (disch := omega) only [mst_ne, mst_miss, e0]
        · simp (disch := omega) only [mst_ne, mst_miss, e1]
        · simp only [mst_hit]; exact br.1
        · simp only [mst_hit]; exact br.2
      have y1 : mst (mst m 102 (4 * a + (m0 99 a.toNat - 1)).toNat t) 98 7 (iand (m 98 7) (ixor (ishl 1 a) (-1))) 98 0 = (hc : Int) := gx2.2.1
      have y2 : mst (mst m 102 (4 * a + (m0 99 a.toNat - 1)).toNat t) 98 7 (iand (m 98 7) (ixor (ishl 1 a) (-1))) 98 1 = (sc : Int) := gx2.2.2.1
      rw [y1, Int.toNat_natCast, if_pos hk0]
      refine TT_gd (by omega) ?_
      rw [nextWay_eq (v := m0 99 a.toNat) gx2 hH hW h0 hb (by simp (disch := omega) only [mst_ne, s1]) (by omega) (by omega), bd_some]
      have ew : wyS H a (m0 99 a.toNat - 1) = farS H a (m0 99 a.toNat - 1) := by unfold wyS; rw [if_pos (by omega), if_pos v5]
      have hsc := hS.1
      have hk6 : isK 6 (sc : Int) = true := by rcases hsc with h | h <;> subst h <;> decide
      rw [ew, y2, Int.toNat_natCast, if_pos hk6, gx2.1 sc (by omega), hS.2.2.2.2.1]
      rw [minutesFor_eq (S := S) gx2.1 hH hW h0 hb (by omega) (by omega) rfl hS3, bd_some]
      have r := mnS_r (S := S) hH h0 hb (st := m0 99 a.toNat - 1) (by omega) (by omega)
      refine TT_gd (by omega) ?_
      simp (disch := omega) only [bn_eq, w32_in]
      obtain ⟨x1, x2, x3, x4, x5⟩ := gx2
      refine fin _ ⟨fun z hz => ?_, ?_, ?_, ?_, ?_⟩ ⟨fun _ => ?_, fun y => absurd ⟨d, b1⟩ y⟩ (fun w z1 z2 z3 => ?_)
      · rw [mst_ne (by omega)]; exact x1 z hz
      · rw [mst_ne (by omega)]; exact x2
      · rw [mst_ne (by omega)]; exact x3
      · rw [mst_ne (by omega)]; exact x4
      · rw [mst_ne (by omega)]; exact x5
      · refine ⟨?_, ?_, ?_, ?_, fun i i0 i1 => ?_⟩
        · simp (disch := omega) only [mst_ne, s1]
        · simp (disch := omega) only [mst_ne, mst_hit, bt_clr, ↓reduceIte]
        · rw [mst_hit]
        · simp (disch := omega) only [mst_ne, mst_hit]
        · obtain ⟨j1, j2, j3⟩ := s4 i i0 i1
          refine ⟨?_, ?_, fun i2 => ?_⟩
          · simp (disch := omega) only [mst_ne, j1]
          · simp (disch := omega) only [mst_ne, j2]
          · simp (disch := omega) only [mst_ne, mst_miss, j3]
      · refine ⟨?_, ?_, ?_, fun i i0 i1 => ?_⟩
        · simp (disch := omega) only [mst_ne]
        · simp (disch := omega) only [mst_ne, mst_hit, bt_clr, if_neg z3]
        · simp (disch := omega) only [mst_ne, mst_miss]
        · simp (disch := omega) only [mst_ne, mst_miss, and_self]
  · have e : a = H 205 1 := by omega
    exact TT_some.mpr ⟨hgx', fun w y1 y2 => hlo w y1 (by omega)⟩
theorem nextMinute_ok {c m H : Mm} {hc sc : Nat} (hg : GX c m hc sc) (hH : HD H) (hW : HW c hc H) : ∃ x : Int, fn_Walk_nextMinute m = some (x, m) ∧ x ≤ 1000000 ∧ (∀ w : Int, 0 ≤ w → w < H 205 1 → x ≤ m 103 w.toNat) ∧ (x = 1000000 ∨ ∃ w : Int, 0 ≤ w ∧ w < H 205 1 ∧ x = m 103 w.toNat) := by
  have hn := hH.1
  have hc0 := hW.1
  obtain ⟨hf0, e0, e1, r0, r1⟩ := hg
  have hk0 : isK 0 (hc : Int) = true := isK0 (by omega)
  have key : TT (fn_Walk_nextMinute m) (fun x m' => m' = m ∧ x ≤ 1000000 ∧ (∀ w : Int, 0 ≤ w → w < H 205 1 → x ≤ m 103 w.toNat) ∧ (x = 1000000 ∨ ∃ w : Int, 0 ≤ w ∧ w < H 205 1 ∧ x = m 103 w.toNat)) := by
    unfold fn_Walk_nextMinute
    refine lp_inv2 (bo := bo_Walk_nextMinute_5) (fun _ => rfl) (fun x a m' => m' = m ∧ 0 ≤ a ∧ a ≤ H 205 1 ∧ x ≤ 1000000 ∧ (∀ w : Int, 0 ≤ w → w < a → x ≤ m 103 w.toNat) ∧ (x = 1000000 ∨ ∃ w : Int, 0 ≤ w ∧ w < H 205 1 ∧ x = m 103 w.toNat)) (fun _ a _ => (6 - a).toNat) ?_ FU 1000000 0 m ⟨rfl, by omega, by omega, by omega, fun w h1 h2 => by omega, Or.inl rfl⟩ (by decide)
    intro k x a m' hI hk
    obtain ⟨rfl, h0, h1, h2, h3, h4⟩ := hI
    unfold bo_Walk_nextMinute_5
    rw [e0, Int.toNat_natCast, if_pos hk0, hf0 hc (by omega), hW.2.2.1]
    refine TT_if (fun hb => ?_) (fun hb => ?_)
    · refine TT_gd (by omega) ?_
      simp (disch := omega) only [bn_eq, w32_in]
      refine hk _ _ _ ⟨rfl, by omega, by omega, ?_, fun w y1 y2 => ?_, ?_⟩ (by omega)
      · unfold imn; split <;> omega
      · by_cases d : w = a
        · subst d; unfold imn; split <;> omega
        · have := h3 w y1 (by omega)
          unfold imn; split <;> omega
      · unfold imn
        split
        · exact Or.inr ⟨a, h0, hb, rfl⟩
        · exact h4
    · have e : a = H 205 1 := by omega
      exact TT_some.mpr ⟨rfl, h2, fun w y1 y2 => h3 w y1 (by omega), h4⟩
  obtain ⟨x, m', hx, rfl, h⟩ := key
  exact ⟨x, hx, h⟩
end Cw
