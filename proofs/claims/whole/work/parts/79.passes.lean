/-! Meetings; the reference's costs and days. -/
section Pa
theorem MO_congr {H : Mm} {S : Nat → Int} {m m' : Mm} (h : MO H S m) (e : ∀ a, 205 ≤ a → (a ≤ 223 ∨ 236 ≤ a) → a ≤ 251 → (a ≤ 244 ∨ 250 ≤ a) → m' a = m a) : MO H S m' := by
  refine ⟨fun a a0 a1 => (e a a0 (by omega) (by omega) (by omega)).trans (h.1 a a0 a1), fun w u w0 w1 u0 u1 => ?_⟩
  rw [e 251 (by omega) (by omega) (by omega) (by omega)]
  exact h.2 w u w0 w1 u0 u1
section
variable {f : Int → Int → Int → Int} {H : Mm} {S : Nat → Int} {m : Mm}
theorem m_isWhen (hH : HD H) (hS : SD H S) (hm : MO H S m) (hs : m 245 = S) {h : Int} (h0 : 0 ≤ h) (h1 : h < H 205 2) : fn_Model_isWhen h m = some (whS H S h, m) := by
  have hn := hH.1
  have hy := hS.2.2.2.2.1 h h0 h1
  have e219 : m 219 = H 219 := hm.1 219 (by omega) (by omega)
  unfold fn_Model_isWhen
  rw [w32_in (by omega) (by omega), if_pos (by omega), if_pos (by omega), hs, e219, m_firstAt hH hm hy.1 hy.2, bd_some]
  rfl
theorem m_offBy (hH : HD H) (hm : MO H S m) {h x : Int} (h0 : 0 ≤ h) (h1 : h < H 205 2) (x0 : -1 ≤ x) (x1 : x < 240) : fn_Model_offBy h x m = some (ofS H h x, m) := by
  have hn := hH.1
  have hh := hH.2.2.2.2 h h0 h1
  have e220 : m 220 = H 220 := hm.1 220 (by omega) (by omega)
  unfold fn_Model_offBy ofS
  by_cases c : x < 0
  · rw [if_pos c, if_pos c]
  · rw [if_neg c, if_neg c, if_pos (by omega), e220]
    unfold fn_Model_away
    by_cases d : x < H 220 h.toNat
    · rw [if_pos d, if_pos d, w32_in (by omega) (by omega), bd_some]
    · rw [if_neg d, if_neg d, w32_in (by omega) (by omega), bd_some]
theorem m_between (x : Int) : fn_Model_between x 0 999 m = some (clp x, m) := by
  unfold fn_Model_between clp
  split
  · rfl
  · split <;> rfl
theorem m_costOf (hH : HD H) (hS : SD H S) (hL : LawM f H) (hm : MO H S m) (hs : m 245 = S) {h : Int} (h0 : 0 ≤ h) (h1 : h < H 205 2) : TT (fn_Model_costOf h m) (fun r m' => r = coS f H S h ∧ ∀ a, a < 226 ∨ 236 ≤ a → m' a = m a) := by
  have hr := whS_r (S := S) (h := h) hH
  have e221 : m 221 = H 221 := hm.1 221 (by omega) (by omega)
  have e222 : m 222 = H 222 := hm.1 222 (by omega) (by omega)
  have e223 : m 223 = H 223 := hm.1 223 (by omega) (by omega)
  unfold fn_Model_costOf
  rw [m_isWhen hH hS hm hs h0 h1, bd_some, m_offBy hH hm h0 h1 (by omega) (by omega), bd_some, e221, e222, tn0]
  refine TT_if (fun c => ?_) (fun c => ?_)
  · have fin : ∀ x : Int, x = (if whS H S h < 0 then 1 else 0) → TT (bo_Model_costOf_52 h 2 x (mst m 235 (1 : Int).toNat (ofS H h (whS H S h)))) (fun r m' => r = coS f H S h ∧ ∀ a, a < 226 ∨ 236 ≤ a → m' a = m a) := by
      intro x hx
      unfold bo_Model_costOf_52
      rw [if_pos (by omega)]
      simp only [bn_eq, tn0, tn1, tn2, tn3]
      refine TT_call (((hL _ (ofS H h (whS H S h)) x (S 0)) ?_ ?_ ?_ (by rw [hx]; split <;> omega) (ofS_r0 hH h0 h1) hS.2.2.2.2.2).2 c ?_ ?_ ?_) (fun r m' q => ?_)
      · simp (disch := omega) only [mst_ne, e221]
      · simp (disch := omega) only [mst_ne, e222]
      · intro j _
        simp (disch := omega) only [mst_ne, e223]
      · simp (disch := omega) only [mst_miss, mst_hit]
      · simp (disch := omega) only [mst_miss, mst_hit]
      · simp (disch := omega) only [mst_ne, mst_hit, hs]
      · unfold bo_Model_costOf_72
        rw [m_between, bd_some]
        refine TT_some.mpr ⟨?_, fun a ha => ?_⟩
        · rw [q.1, hx]
          rfl
        · rw [q.2 a (by omega)]
          simp (disch := omega) only [mst_ne]
    simp only [bn_eq]
    exact TT_if (fun d => fin 1 (by rw [if_pos d])) (fun d => fin 0 (by rw [if_neg d]))
  · unfold bo_Model_costOf_72
    rw [m_between, bd_some]
    refine TT_some.mpr ⟨?_, fun a ha => rfl⟩
    unfold coS
    rw [((hL m (ofS H h (whS H S h)) (if whS H S h < 0 then 1 else 0) (S 0)) (by rw [e221]) (by rw [e222]) (fun j _ => by rw [e223]) (by split <;> omega) (ofS_r0 hH h0 h1) hS.2.2.2.2.2).1 c]
/-- a state, when its day is over -/
def psS (S : Nat → Int) (x : Int) : Nat → Int := fun k => if k = 0 then w32 (S 0 + 1) else if k = 1 then w32 (S 1 + x) else if 3 ≤ k ∧ k ≤ 9 then 0 else S k
theorem psS_SD (hS : SD H S) (x : Int) : SD H (psS S x) := by
  obtain ⟨h1, h2, h3, h4, h5, h6⟩ := hS
  refine ⟨h1, h2, Or.inl rfl, fun w w0 w1 => ?_, fun h h0 h1 => ?_, ?_⟩
  · have : psS S x (4 + w).toNat = 0 := by
      unfold psS
      rw [if_neg (by omega), if_neg (by omega), if_pos (by omega)]
    omega
  · have : psS S x (10 + h).toNat = S (10 + h).toNat := by
      unfold psS
      rw [if_neg (by omega), if_neg (by omega), if_neg (by omega)]
    rw [this]
    exact h5 h h0 h1
  · show w32 (w32 (S 0 + 1)) = w32 (S 0 + 1)
    exact w32_id (okI_w _)
theorem m_passes {m0 : Mm} (hH : HD H) (hS : SD H S) (hL : LawM f H) (hf : FM2 H m0) (hs : m0 245 = S) : TT (fn_Model_passes m0) (fun r m => r = csS f H S ∧ m 203 64 = miS H S ∧ m 245 = psS S r ∧ MO H S m ∧ (∀ a, a ≠ 203 → a ≠ 245 → (a < 226 ∨ 236 ≤ a) → (a < 251 ∨ 254 < a) → m a = m0 a) ∧ ∀ j, j ≠ 64 → m 203 j = m0 203 j) := by
  have hn := hH.1
  unfold fn_Model_passes
  refine TT_call (laysDay_S hf hs hH hS) (fun r1 m1 q1 => ?_)
  obtain ⟨q1, q2⟩ := q1
  rw [bn_eq]
  refine lp_inv2 (bo := bo_Model_passes_13) (fun _ => rfl) (fun a i m => 0 ≤ i ∧ i ≤ H 205 2 ∧ a = fld (fun h a => a + coS f H S h) i.toNat 0 0 ∧ m 203 64 = fld (fun h a => if whS H S h < 0 then a + 1 else a) i.toNat 0 0 ∧ m 245 = S ∧ MO H S m ∧ (∀ a, a ≠ 203 → (a < 226 ∨ 236 ≤ a) → (a < 251 ∨ 254 < a) → m a = m0 a) ∧ ∀ j, j ≠ 64 → m 203 j = m0 203 j) (fun _ i _ => (6 - i).toNat) ?_ FU 0 0 _ ⟨by omega, by omega, rfl, by rw [mst_hit]; rfl, ?_, ⟨fun a a0 a1 => ?_, fun w u w0 w1 u0 u1 => ?_⟩, fun a a0 a1 a2 => ?_, fun j hj => ?_⟩ (by decide)
  · intro k a i m hI hk
    obtain ⟨i0, i1, ea, e64, e245, hm, hfr, hfr2⟩ := hI
    have e205 : m 205 = H 205 := hm.1 205 (by omega) (by omega)
    unfold bo_Model_passes_13
    rw [e205, tn2]
    refine TT_if (fun c => ?_) (fun c => ?_)
    · refine TT_call (m_costOf hH hS hL hm e245 i0 c) (fun r m2 q => ?_)
      obtain ⟨rfl, q2⟩ := q
      have hm2 : MO H S m2 := MO_congr hm (fun a a0 a1 a2 a3 => q2 a (by omega))
      have e2 : m2 245 = S := (q2 245 (by omega)).trans e245
      have r1 := cs_r (f := f) (H := H) (S := S) i i0
      have r2 := clp_r (f (ofS H i (whS H S i)) (if whS H S i < 0 then 1 else 0) (S 0))
      have r3 := mi_r (H := H) (S := S) i i0
      change 0 ≤ coS f H S i ∧ coS f H S i ≤ 999 at r2
      have e203 : m2 203 = m 203 := q2 203 (by omega)
      subst ea
      simp (disch := omega) only [bn_eq, w32_in]
      rw [m_isWhen hH hS hm2 e2 i0 c, bd_some, e203, e64]
      have fin : ∀ x : Int, (x = 0 ∨ x = 1) → fld (fun h a => if whS H S h < 0 then a + 1 else a) i.toNat 0 0 + x = fld (fun h a => if whS H S h < 0 then a + 1 else a) (i + 1).toNat 0 0 → TT (bo_Model_passes_49 k (fld (fun h a => a + coS f H S h) i.toNat 0 0 + coS f H S i) i (fld (fun h a => if whS H S h < 0 then a + 1 else a) i.toNat 0 0) x m2) (fun r m => r = csS f H S ∧ m 203 64 = miS H S ∧ m 245 = psS S r ∧ MO H S m ∧ (∀ a, a ≠ 203 → a ≠ 245 → (a < 226 ∨ 236 ≤ a) → (a < 251 ∨ 254 < a) → m a = m0 a) ∧ ∀ j, j ≠ 64 → m 203 j = m0 203 j) := by
        intro x x1 x2
        unfold bo_Model_passes_49
        simp (disch := omega) only [bn_eq, w32_in]
        refine hk _ _ _ ⟨by omega, by omega, by rw [fld_up i0], ?_, ?_, MO_congr hm2 (fun a a0 a1 a2 a3 => mst_ne (by omega)), fun a a0 a1 a2 => ?_, fun j hj => ?_⟩ (by omega)
        · rw [mst_hit]; exact x2
        · rw [mst_ne (by omega)]; exact e2
        · rw [mst_ne (by omega), q2 a (by omega)]; exact hfr a a0 a1 a2
        · rw [mst_miss hj, e203]; exact hfr2 j hj
      refine TT_if (fun d => fin 1 (by omega) ?_) (fun d => fin 0 (by omega) ?_)
      · rw [fld_up i0, if_pos d]
      · rw [fld_up i0, if_neg d]; omega
    · have e : i = H 205 2 := by omega
      subst e
      unfold bo_Model_passes_59
      simp only [bn_eq, tn1]
      have r1 := cs_r (f := f) (H := H) (S := S) (H 205 2) i0
      refine lp_inv2 (bo := bo_Model_passes_71) (fun _ => rfl) (fun a' i m' => a' = a ∧ 0 ≤ i ∧ i ≤ 6 ∧ (∀ b, b ≠ 245 → m' b = m b) ∧ ∀ j, m' 245 j = if j = 1 then w32 (S 1 + a) else if 4 ≤ j ∧ (j : Int) < 4 + i then 0 else S j) (fun _ i _ => (6 - i).toNat) ?_ FU a 0 _ ⟨rfl, by omega, by omega, fun b hb => mst_ne hb, fun j => ?_⟩ (by decide)
      · intro k2 a' i m' hI hk2
        obtain ⟨rfl, i0, i1, h1, h2⟩ := hI
        unfold bo_Model_passes_71
        refine TT_if (fun d => ?_) (fun d => ?_)
        · simp (disch := omega) only [bn_eq, w32_in, g_pos]
          refine hk2 _ _ _ ⟨rfl, by omega, by omega, fun b hb => by rw [mst_ne hb]; exact h1 b hb, fun j => ?_⟩ (by omega)
          by_cases g : j = (4 + i).toNat
          · subst g
            rw [mst_hit, if_neg (by omega), if_pos (by omega)]
          · rw [mst_miss g, h2 j]
            by_cases g1 : j = 1
            · rw [if_pos g1, if_pos g1]
            · rw [if_neg g1, if_neg g1]
              by_cases g2 : 4 ≤ j ∧ (j : Int) < 4 + i
              · rw [if_pos g2, if_pos (by omega)]
              · rw [if_neg g2, if_neg (by omega)]
        · unfold bo_Model_passes_92
          simp only [bn_eq, tn0, tn3]
          refine TT_some.mpr ⟨ea, ?_, ?_, MO_congr hm (fun a a0 a1 a2 a3 => ?_), fun b b0 b1 b2 b3 => ?_, fun j hj => ?_⟩
          · rw [mst_ne (by omega), mst_ne (by omega), h1 203 (by omega), e64]; rfl
          · funext j
            unfold psS
            by_cases g0 : j = 0
            · subst g0
              rw [mst_hit, if_pos rfl, mst_miss (by omega), h2 0, if_neg (by omega), if_neg (by omega)]
            · rw [mst_miss g0, if_neg g0]
              by_cases g3 : j = 3
              · subst g3
                rw [mst_hit, if_neg (by omega), if_pos (by omega)]
              · rw [mst_miss g3, h2 j]
                by_cases g1 : j = 1
                · rw [if_pos g1, if_pos g1]
                · rw [if_neg g1, if_neg g1]
                  by_cases g2 : 4 ≤ j ∧ (j : Int) < 4 + i
                  · rw [if_pos g2, if_pos (by omega)]
                  · rw [if_neg g2, if_neg (by omega)]
          · rw [mst_ne (by omega), mst_ne (by omega)]; exact h1 a (by omega)
          · rw [mst_ne (by omega), mst_ne (by omega), h1 b b1]; exact hfr b b0 b2 b3
          · rw [mst_ne (by omega), mst_ne (by omega), h1 203 (by omega)]; exact hfr2 j hj
      · by_cases g : j = 1
        · subst g; rw [mst_hit, if_pos rfl, e245]
        · rw [mst_miss g, if_neg g, if_neg (by omega), e245]
  · rw [mst_ne (by omega), q1 245 (by omega)]; exact hs
  · rw [mst_ne (by omega), q1 a (by omega)]; exact hf a a0 a1
  · rw [mst_ne (by omega)]; exact q2 w u w0 w1 u0 u1
  · rw [mst_ne a0]; exact q1 a a2
  · rw [mst_miss hj, q1 203 (by omega)]
/-! How many pairs meet. -/
theorem fmS_sym (a b : Int) : fmS H S a b = fmS H S b a := by
  refine fst_congr (fun t _ _ => ?_)
  by_cases c : atS H S t a = atS H S t b
  · rw [c]
  · have d : ¬ atS H S t b = atS H S t a := fun z => c z.symm
    simp [c, d]
def gfS (H : Mm) (S : Nat → Int) (a b : Int) : Int := if fmS H S a b < 0 then 0 else 1
theorem gfS_r (a b : Int) : 0 ≤ gfS H S a b ∧ gfS H S a b ≤ 1 := by unfold gfS; split <;> omega
theorem gfS_sym (a b : Int) : gfS H S a b = gfS H S b a := by unfold gfS; rw [fmS_sym]
def mtS' (H : Mm) (S : Nat → Int) : Int := fld (fun a acc => fld (fun b acc' => acc' + gfS H S a b) a.toNat 0 acc) (H 205 1).toNat 0 0
def mtC (H : Mm) (S : Nat → Int) : Int := fld (fun a acc => fld (fun b acc' => acc' + gfS H S a b) (H 205 1 - (a + 1)).toNat (a + 1) acc) (H 205 1).toNat 0 0
theorem fld_add {g : Int → Int} (hg : ∀ b, 0 ≤ g b ∧ g b ≤ 1) : ∀ (n : Nat) (v a : Int), a ≤ fld (fun b acc => acc + g b) n v a ∧ fld (fun b acc => acc + g b) n v a ≤ a + n := by
  intro n
  induction n with
  | zero => intro v a; simp [fld]
  | succ n ih =>
    intro v a
    have h1 := ih (v + 1) (a + g v)
    have h2 := hg v
    show a ≤ fld (fun b acc => acc + g b) n (v + 1) (a + g v) ∧ fld (fun b acc => acc + g b) n (v + 1) (a + g v) ≤ _
    omega
theorem fld_6 (F : Int → Int → Int) : fld F (6 : Int).toNat 0 0 = F 5 (F 4 (F 3 (F 2 (F 1 (F 0 0))))) := rfl
theorem fld_5 (F : Int → Int → Int) : fld F (5 : Int).toNat 0 0 = F 4 (F 3 (F 2 (F 1 (F 0 0)))) := rfl
theorem fld_4 (F : Int → Int → Int) : fld F (4 : Int).toNat 0 0 = F 3 (F 2 (F 1 (F 0 0))) := rfl
theorem fld_3 (F : Int → Int → Int) : fld F (3 : Int).toNat 0 0 = F 2 (F 1 (F 0 0)) := rfl
theorem fld_2 (F : Int → Int → Int) : fld F (2 : Int).toNat 0 0 = F 1 (F 0 0) := rfl
theorem fld_1 (F : Int → Int → Int) : fld F (1 : Int).toNat 0 0 = F 0 0 := rfl
theorem fld_0 (F : Int → Int → Int) : fld F (0 : Int).toNat 0 0 = 0 := rfl
def upS (g : Int → Int → Int) (n a acc : Int) : Int := fld (fun b acc' => acc' + g a b) (n - (a + 1)).toNat (a + 1) acc
def dnS (g : Int → Int → Int) (a acc : Int) : Int := fld (fun b acc' => acc' + g a b) a.toNat 0 acc
theorem mt_all {g : Int → Int → Int} (hs : ∀ a b, g a b = g b a) {n : Int} (h0 : 0 ≤ n) (h1 : n ≤ 6) : fld (upS g n) n.toNat 0 0 = fld (dnS g) n.toNat 0 0 := by
  have s10 := hs 1 0
  have s20 := hs 2 0
  have s30 := hs 3 0
  have s40 := hs 4 0
  have s50 := hs 5 0
  have s21 := hs 2 1
  have s31 := hs 3 1
  have s41 := hs 4 1
  have s51 := hs 5 1
  have s32 := hs 3 2
  have s42 := hs 4 2
  have s52 := hs 5 2
  have s43 := hs 4 3
  have s53 := hs 5 3
  have s54 := hs 5 4
  have hc : n = 0 ∨ n = 1 ∨ n = 2 ∨ n = 3 ∨ n = 4 ∨ n = 5 ∨ n = 6 := by omega
  rcases hc with rfl | rfl | rfl | rfl | rfl | rfl | rfl
  · rfl
  · rfl
  · rw [fld_2, fld_2]
    show 0 + g 0 1 = 0 + g 1 0
    rw [s10]
  · rw [fld_3, fld_3]
    show 0 + g 0 1 + g 0 2 + g 1 2 = 0 + g 1 0 + g 2 0 + g 2 1
    rw [s10, s20, s21]
  · rw [fld_4, fld_4]
    show 0 + g 0 1 + g 0 2 + g 0 3 + g 1 2 + g 1 3 + g 2 3 = 0 + g 1 0 + g 2 0 + g 2 1 + g 3 0 + g 3 1 + g 3 2
    rw [s10, s20, s21, s30, s31, s32]
    ac_rfl
  · rw [fld_5, fld_5]
    show 0 + g 0 1 + g 0 2 + g 0 3 + g 0 4 + g 1 2 + g 1 3 + g 1 4 + g 2 3 + g 2 4 + g 3 4 = 0 + g 1 0 + g 2 0 + g 2 1 + g 3 0 + g 3 1 + g 3 2 + g 4 0 + g 4 1 + g 4 2 + g 4 3
    rw [s10, s20, s21, s30, s31, s32, s40, s41, s42, s43]
    ac_rfl
  · rw [fld_6, fld_6]
    show 0 + g 0 1 + g 0 2 + g 0 3 + g 0 4 + g 0 5 + g 1 2 + g 1 3 + g 1 4 + g 1 5 + g 2 3 + g 2 4 + g 2 5 + g 3 4 + g 3 5 + g 4 5 = 0 + g 1 0 + g 2 0 + g 2 1 + g 3 0 + g 3 1 + g 3 2 + g 4 0 + g 4 1 + g 4 2 + g 4 3 + g 5 0 + g 5 1 + g 5 2 + g 5 3 + g 5 4
    rw [s10, s20, s21, s30, s31, s32, s40, s41, s42, s43, s50, s51, s52, s53, s54]
    ac_rfl
theorem mtC_eq (hH : HD H) : mtC H S = mtS' H S := mt_all (g := gfS H S) gfS_sym hH.1.2.2.1 hH.1.2.2.2.1
end
end Pa
