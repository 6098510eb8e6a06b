/-! Calls that ask: the plain ones. -/
section Ea
theorem q_rel {f : Int → Int → Int → Int} {oc om : Mm → Res} {m : Mm} (hR : RR f m m) (h : ∀ d, EqM m d → RR f d d → ∃ x, TT (oc m) (fun r c' => r = x ∧ FQ m c' ∧ EqM m c') ∧ TT (om d) (fun r d' => r = x ∧ FQM d d' ∧ EqC d d')) : Both oc om m := by
  obtain ⟨x, hc, -⟩ := h m (fun _ _ => rfl) hR
  refine q_both hR hc (fun d hE hd => ?_)
  obtain ⟨y, hc2, hm⟩ := h d hE hd
  have : x = y := by
    obtain ⟨r, m1, e1, h1, -⟩ := hc
    obtain ⟨r2, m2, e2, h2, -⟩ := hc2
    rw [e1] at e2
    cases e2
    exact h1.symm.trans h2
  subst this
  exact hm
theorem w32_l (x y : Int) : w32 (w32 x + y) = w32 (x + y) := by
  have e : Int32.ofInt (w32 x + y) = Int32.ofInt (x + y) := by rw [Int32.ofInt_add, of_w32, Int32.ofInt_add]
  show (Int32.ofInt (w32 x + y)).toInt = (Int32.ofInt (x + y)).toInt
  rw [e]
theorem w32_s (x y : Int) : w32 (w32 x - y) = w32 (x - y) := by
  have e : Int32.ofInt (w32 x - y) = Int32.ofInt (x - y) := by rw [Int32.ofInt_sub, of_w32, Int32.ofInt_sub]
  show (Int32.ofInt (w32 x - y)).toInt = (Int32.ofInt (x - y)).toInt
  rw [e]
/-- loops of both that only read, in step -/
theorem rel1 {lpC lpM : Nat → Int → Mm → Res} {boC boM : (Int → Mm → Res) → Int → Mm → Res} (hlC : ∀ n, lpC (n + 1) = boC (lpC n)) (hlM : ∀ n, lpM (n + 1) = boM (lpM n)) {N : Int} {mC mM : Mm} (hb : ∀ kC kM i, 0 ≤ i → i < N → (∃ x, boC kC i mC = some (x, mC) ∧ boM kM i mM = some (x, mM)) ∨ (boC kC i mC = kC (i + 1) mC ∧ boM kM i mM = kM (i + 1) mM)) (he : ∀ kC kM, ∃ x, boC kC N mC = some (x, mC) ∧ boM kM N mM = some (x, mM)) : ∀ (j n n' : Nat) (i : Int), i + j = N → 0 ≤ i → j < n → j < n' → ∃ x, lpC n i mC = some (x, mC) ∧ lpM n' i mM = some (x, mM) := by
  intro j
  induction j with
  | zero =>
    intro n n' i h1 h2 h3 h4
    obtain ⟨k, rfl⟩ : ∃ k, n = k + 1 := ⟨n - 1, by omega⟩
    obtain ⟨k', rfl⟩ : ∃ k, n' = k + 1 := ⟨n' - 1, by omega⟩
    have : i = N := by omega
    subst this
    rw [hlC, hlM]
    exact he _ _
  | succ j ih =>
    intro n n' i h1 h2 h3 h4
    obtain ⟨k, rfl⟩ : ∃ k, n = k + 1 := ⟨n - 1, by omega⟩
    obtain ⟨k', rfl⟩ : ∃ k, n' = k + 1 := ⟨n' - 1, by omega⟩
    rw [hlC, hlM]
    rcases hb (lpC k) (lpM k') i h2 (by omega) with h | h
    · exact h
    · rw [h.1, h.2]
      exact ih k k' (i + 1) (by omega) (by omega) (by omega) (by omega)
theorem rel4 {lpC lpM : Nat → Int → Int → Int → Int → Mm → Res} {boC boM : (Int → Int → Int → Int → Mm → Res) → Int → Int → Int → Int → Mm → Res} (hlC : ∀ n, lpC (n + 1) = boC (lpC n)) (hlM : ∀ n, lpM (n + 1) = boM (lpM n)) {N : Int} {mC mM : Mm} (I : Int → Int → Int → Int → Prop) (hb : ∀ kC kM a b c i, 0 ≤ i → i < N → I a b c i → ∃ a' b' c', I a' b' c' (i + 1) ∧ boC kC a b c i mC = kC a' b' c' (i + 1) mC ∧ boM kM a b c i mM = kM a' b' c' (i + 1) mM) (he : ∀ kC kM a b c, I a b c N → ∃ x, boC kC a b c N mC = some (x, mC) ∧ boM kM a b c N mM = some (x, mM)) : ∀ (j n n' : Nat) (a b c i : Int), i + j = N → 0 ≤ i → j < n → j < n' → I a b c i → ∃ x, lpC n a b c i mC = some (x, mC) ∧ lpM n' a b c i mM = some (x, mM) := by
  intro j
  induction j with
  | zero =>
    intro n n' a b c i h1 h2 h3 h4 hI
    obtain ⟨k, rfl⟩ : ∃ k, n = k + 1 := ⟨n - 1, by omega⟩
    obtain ⟨k', rfl⟩ : ∃ k, n' = k + 1 := ⟨n' - 1, by omega⟩
    have : i = N := by omega
    subst this
    rw [hlC, hlM]
    exact he _ _ _ _ _ hI
  | succ j ih =>
    intro n n' a b c i h1 h2 h3 h4 hI
    obtain ⟨k, rfl⟩ : ∃ k, n = k + 1 := ⟨n - 1, by omega⟩
    obtain ⟨k', rfl⟩ : ∃ k, n' = k + 1 := ⟨n' - 1, by omega⟩
    rw [hlC, hlM]
    obtain ⟨a', b', c', h5, h6, h7⟩ := hb (lpC k) (lpM k') a b c i h2 (by omega) hI
    rw [h6, h7]
    exact ih k k' a' b' c' (i + 1) (by omega) (by omega) (by omega) (by omega) h5
def iR (p n : Int) : Int := if p < 0 then 0 else if p < n then 1 else 0
theorem iR_0 {p n : Int} : iR p n = 0 ↔ ¬ (0 ≤ p ∧ p < n) := by unfold iR; split <;> (try split) <;> omega
theorem FW_FQ {c m : Mm} (h : FW c m) : FQ c m ∧ EqM c m := ⟨⟨fun a _ _ _ _ _ _ _ => h a (by omega), fun j _ => by rw [h 0 (by omega)], fun j _ => by rw [h 14 (by omega)], fun j _ => by rw [h 51 (by omega)]⟩, fun a ha => h a (by omega)⟩
theorem LwF_FQ {hc : Nat} {c m : Mm} (hc0 : hc = 4 ∨ hc = 41) (h : LwF hc c m) : FQ c m ∧ EqM c m := by
  obtain ⟨h1, h2⟩ := h
  refine ⟨⟨fun a _ _ _ _ _ _ _ => h1 a (by omega) (by omega), fun j _ => by rw [h1 0 (by omega) (by omega)], fun j hj => ?_, fun j hj => ?_⟩, fun a ha => h1 a (by omega) (by omega)⟩
  · rcases hc0 with rfl | rfl
    · exact h2 j hj
    · rw [h1 14 (by omega) (by omega)]
  · rcases hc0 with rfl | rfl
    · rw [h1 51 (by omega) (by omega)]
    · exact h2 j hj
theorem FR_FQM {d m : Mm} (h : FR d m) : FQM d m ∧ EqC d m := ⟨⟨fun a _ _ _ _ => h a (by omega), by rw [h 203 (by omega)], by rw [h 203 (by omega)]⟩, fun a ha => h a (by omega)⟩
theorem th_FQM {d : Mm} {x : Int} {j : Nat} (h1 : j ≠ 1) (h2 : j ≠ 58) : FQM d (mst d 203 j x) ∧ EqC d (mst d 203 j x) := ⟨⟨fun a _ _ _ _ => mst_ne (by omega), mst_miss (by omega), mst_miss (by omega)⟩, fun a ha => mst_ne (by omega)⟩
theorem EqC_trans {a b c : Mm} (h : EqC a b) (h' : EqC b c) : EqC a c := fun x hx => (h' x hx).trans (h x hx)
theorem EqM_trans {a b c : Mm} (h : EqM a b) (h' : EqM b c) : EqM a c := fun x hx => (h' x hx).trans (h x hx)
section
variable {f : Int → Int → Int → Int} {c H : Mm}
theorem RR_hc (h : RR f c H) : isK 0 (c 0 2) = true ∧ ((c 0 2).toNat = 4 ∨ (c 0 2).toNat = 41) := by
  rcases h.2.1 with z | z <;> rw [z.1] <;> exact ⟨by decide, by decide⟩
theorem c_isPlace (h : RR f c H) {p : Int} : fn_Clock_isPlace p c = some (iR p (H 205 0), c) := by
  unfold fn_Clock_isPlace iR
  rw [if_pos (RR_hc h).1, h.2.2.1.2.1.2.1]
  split
  · rfl
  · split <;> rfl
theorem c_isWalker (h : RR f c H) {p : Int} : fn_Clock_isWalker p c = some (iR p (H 205 1), c) := by
  unfold fn_Clock_isWalker iR
  rw [if_pos (RR_hc h).1, h.2.2.1.2.1.2.2.1]
  split
  · rfl
  · split <;> rfl
theorem c_isHour (h : RR f c H) {p : Int} : fn_Clock_isHour p c = some (iR p (H 205 2), c) := by
  unfold fn_Clock_isHour iR
  rw [if_pos (RR_hc h).1, h.2.2.1.2.1.2.2.2.1]
  split
  · rfl
  · split <;> rfl
theorem c_isMinute {p : Int} : fn_Clock_isMinute p c = some (iR p 240, c) := by
  unfold fn_Clock_isMinute iR
  split
  · rfl
  · split <;> rfl
theorem c_areTwo (h : RR f c H) {a b : Int} : fn_Clock_areTwo a b c = some (if iR a (H 205 1) = 0 then 0 else if iR b (H 205 1) = 0 then 0 else if a = b then 0 else 1, c) := by
  unfold fn_Clock_areTwo
  rw [c_isWalker h, bd_some]
  split
  · rfl
  · rw [c_isWalker h, bd_some]
    split
    · rfl
    · split <;> rfl
theorem m_isPlace {p : Int} : fn_Model_isPlace p c = some (iR p (c 205 0), c) := by
  unfold fn_Model_isPlace iR
  rw [tn0]
  split
  · rfl
  · split <;> rfl
theorem m_isWalker {p : Int} : fn_Model_isWalker p c = some (iR p (c 205 1), c) := by
  unfold fn_Model_isWalker iR
  rw [tn1]
  split
  · rfl
  · split <;> rfl
theorem m_isHour {p : Int} : fn_Model_isHour p c = some (iR p (c 205 2), c) := by
  unfold fn_Model_isHour iR
  rw [tn2]
  split
  · rfl
  · split <;> rfl
theorem m_within {p a b : Int} : fn_Model_within p a b c = some (if p < a then 0 else if b < p then 0 else 1, c) := by
  unfold fn_Model_within
  split
  · rfl
  · split <;> rfl
theorem c_go_w {S : Nat → Int} {hc sc : Nat} (h : HlR f c hc H) (hw : SW c sc H S) (hS : SD H S) : TT (fn_Walk_go hc sc c) (fun _ m' => WB f H S hc sc m' ∧ FW c m') := by
  obtain ⟨h1, h2, h3, h4, h5, h6, h7, h8, h9, h10, h11⟩ := h
  have hn := h1.1
  have hc0 := h2.1
  have hs := hw.1
  refine TT_mono (go_ok h1 hS h2 hw) (fun r m' hg => ?_)
  have hf : FW c m' := hg.1.1
  have hv := GI_VO hg
  refine ⟨⟨h1, hS, ⟨⟨fun _ _ => rfl, hv.1.2⟩, hv.2⟩, HW_congr (by omega) h2 (fun a a0 a1 _ => hf a (by omega)), SW_congr hw (hf _ (by omega)) (hf _ (by omega)) (hf _ (by omega)), HX_congr h3 (fun a a0 a1 => hf a (by omega)), LawC_congr h10 (by rw [hf _ (by omega)]) (hf _ (by omega))⟩, hf⟩
theorem c_go_g {S : Nat → Int} {hc sc : Nat} (hs : sc = 83 ∨ sc = 95) (h : HlR f c hc H) (hS : StR c sc H S) : TT (fn_Walk_go hc sc c) (fun _ m' => WB f H S hc sc m' ∧ FW c m') := c_go_w h (StW_SW hs hS.1) hS.2
theorem c_go (h : RR f c H) : TT (fn_Walk_go (c 0 2).toNat 83 c) (fun _ m' => WB f H (H 245) (c 0 2).toNat 83 m' ∧ FW c m') := c_go_g (Or.inl rfl) h.2.2.1 h.2.2.2.1
theorem EqM_FM2 {d : Mm} (h : EqM H d) : FM2 H d := fun a a0 _ => h a (by omega)
theorem FM2_mst {d : Mm} {j : Nat} {x : Int} (h : FM2 H d) : FM2 H (mst d 203 j x) := fun a a0 a1 => (mst_ne (by omega)).trans (h a a0 a1)
theorem m_go {d : Mm} (h : RR f c H) (hd : FM2 H d) (h245 : d 245 = H 245) : TT (fn_Model_laysDay d) (fun _ m' => MO H (H 245) m' ∧ FR d m') :=
  TT_mono (laysDay_S hd h245 h.2.2.1.1 h.2.2.2.1.2) (fun r m' q => ⟨⟨fun a a0 a1 => (q.1 a (by omega)).trans (hd a a0 a1), q.2⟩, q.1⟩)
end
section
variable {f : Int → Int → Int → Int} {m : Mm}
theorem call_way (hR : RR f m m) (a b : Int) : Both (fn_Clock_way a b) (fn_Model_way a b) m := by
  refine q_rel hR (fun d hE hd => ?_)
  have hH := hR.2.2.1.1
  have hn := hH.1
  have hc0 := RR_hc hR
  unfold fn_Clock_way fn_Model_way
  rw [c_isPlace hR, bd_some, bn_eq, m_isPlace, bd_some]
  have e205 : mst d 203 0 0 205 = m 205 := by rw [mst_ne (by omega)]; exact hE 205 (by omega)
  have e250 : mst d 203 0 0 250 = m 250 := by rw [mst_ne (by omega)]; exact hE 250 (by omega)
  have hq := th_FQM (d := d) (x := 0) (j := 0) (by omega) (by omega)
  rw [e205]
  by_cases c1 : iR a (m 205 0) = 0
  · rw [if_pos c1, if_pos c1]
    exact ⟨-1, TT_some.mpr ⟨rfl, FQ_refl, fun _ _ => rfl⟩, TT_some.mpr ⟨rfl, hq⟩⟩
  · rw [if_neg c1, if_neg c1, c_isPlace hR, bd_some, m_isPlace, bd_some, e205]
    by_cases c2 : iR b (m 205 0) = 0
    · rw [if_pos c2, if_pos c2]
      exact ⟨-1, TT_some.mpr ⟨rfl, FQ_refl, fun _ _ => rfl⟩, TT_some.mpr ⟨rfl, hq⟩⟩
    · rw [iR_0] at c1 c2
      have e : a * 6 + b = 6 * a + b := by omega
      have hw := hR.2.2.1.2.1.2.2.2.2.2 a b (by omega) (by omega) (by omega) (by omega)
      simp (disch := omega) only [if_neg (show ¬ iR b (m 205 0) = 0 from by rw [iR_0]; exact c2), hc0.1, ↓reduceIte, w32_in, g_pos, e, hw, e250, some_ite]
      exact ⟨wayS m a b, TT_some.mpr ⟨rfl, FQ_refl, fun _ _ => rfl⟩, TT_some.mpr ⟨rfl, hq⟩⟩
theorem call_where (hR : RR f m m) (a b : Int) : Both (fn_Clock_where a b) (fn_Model_where a b) m := by
  refine q_rel hR (fun d hE hd => ?_)
  have hH := hR.2.2.1.1
  have hn := hH.1
  have hc0 := RR_hc hR
  unfold fn_Clock_where fn_Model_where
  rw [c_isWalker hR, bd_some, bn_eq, m_isWalker, bd_some]
  have e205 : mst d 203 0 0 205 = m 205 := by rw [mst_ne (by omega)]; exact hE 205 (by omega)
  have e245 : mst d 203 0 0 245 = m 245 := by rw [mst_ne (by omega)]; exact hE 245 (by omega)
  have hq := th_FQM (d := d) (x := 0) (j := 0) (by omega) (by omega)
  rw [e205]
  by_cases c1 : iR a (m 205 1) = 0
  · rw [if_pos c1, if_pos c1]
    exact ⟨-1, TT_some.mpr ⟨rfl, FQ_refl, fun _ _ => rfl⟩, TT_some.mpr ⟨rfl, hq⟩⟩
  · rw [if_neg c1, if_neg c1, c_isMinute, bd_some, m_within, bd_some]
    rw [iR_0] at c1
    by_cases c2 : 0 ≤ b ∧ b < 240
    · have z1 : ¬ iR b 240 = 0 := by rw [iR_0]; omega
      rw [if_neg z1, if_neg (by omega : ¬ b < 0), if_neg (by omega : ¬ 239 < b), if_pos hc0.1, if_neg (by decide : ¬ (1 : Int) = 0)]
      refine ⟨atS m (m 245) b a, TT_call (c_go hR) (fun r m' q => ?_), TT_call (m_go hR (FM2_mst (EqM_FM2 hE)) e245) (fun r m' q => ?_)⟩
      · rw [placeOf_eq hH q.1.2.2.1 (by omega) (by omega) c2.1 c2.2, bd_some]
        exact TT_some.mpr ⟨rfl, FW_FQ q.2⟩
      · simp (disch := omega) only [w32_in, g_pos]
        have hf := FR_FQM q.2
        exact TT_some.mpr ⟨q.1.2 a b (by omega) (by omega) c2.1 c2.2, FQM_trans hq.1 hf.1, EqC_trans hq.2 hf.2⟩
    · have z1 : iR b 240 = 0 := by rw [iR_0]; omega
      have z2 : (if b < 0 then (0 : Int) else if 239 < b then 0 else 1) = 0 := by split <;> (try split) <;> omega
      rw [if_pos z1, z2, if_pos rfl]
      exact ⟨-1, TT_some.mpr ⟨rfl, FQ_refl, fun _ _ => rfl⟩, TT_some.mpr ⟨rfl, hq⟩⟩
theorem call_meet (hR : RR f m m) (a b x : Int) : Both (fn_Clock_meet a b x) (fn_Model_meet a b x) m := by
  refine q_rel hR (fun d hE hd => ?_)
  have hH := hR.2.2.1.1
  have hn := hH.1
  have hc0 := RR_hc hR
  unfold fn_Clock_meet fn_Model_meet
  rw [c_areTwo hR, bd_some, bn_eq, m_isWalker, bd_some]
  have e205 : mst d 203 0 0 205 = m 205 := by rw [mst_ne (by omega)]; exact hE 205 (by omega)
  have e245 : mst d 203 0 0 245 = m 245 := by rw [mst_ne (by omega)]; exact hE 245 (by omega)
  have hq := th_FQM (d := d) (x := 0) (j := 0) (by omega) (by omega)
  rw [e205]
  have no : ∃ x : Int, TT (some (-2, m)) (fun r c' => r = x ∧ FQ m c' ∧ EqM m c') ∧ TT (some (-2, mst d 203 0 0)) (fun r d' => r = x ∧ FQM d d' ∧ EqC d d') := ⟨-2, TT_some.mpr ⟨rfl, FQ_refl, fun _ _ => rfl⟩, TT_some.mpr ⟨rfl, hq⟩⟩
  by_cases c1 : iR a (m 205 1) = 0
  · simp only [if_pos c1, ↓reduceIte]
    exact no
  · simp only [if_neg c1]
    rw [m_isWalker, bd_some, e205]
    by_cases c2 : iR b (m 205 1) = 0
    · simp only [if_pos c2, ↓reduceIte]
      exact no
    · simp only [if_neg c2]
      by_cases c3 : a = b
      · simp only [if_pos c3, ↓reduceIte]
        exact no
      · simp only [if_neg c3, m_within, bd_some]
        rw [if_neg (by decide)]
        by_cases c4 : x < 0
        · simp only [if_pos c4, ↓reduceIte]
          exact no
        · by_cases c5 : 1 < x
          · simp only [if_neg c4, if_pos c5, ↓reduceIte]
            exact no
          · rw [iR_0] at c1 c2
            simp only [if_neg c4, if_neg c5, hc0.1, ↓reduceIte]
            rw [if_neg (by decide)]
            have hr := fmS_r (H := m) (S := m 245) a b
            refine ⟨if x = 0 then fmS m (m 245) a b else if fmS m (m 245) a b = -1 then -1 else atS m (m 245) (fmS m (m 245) a b) a, TT_call (c_go hR) (fun r m' q => ?_), TT_call (m_go hR (FM2_mst (EqM_FM2 hE)) e245) (fun r m' q => ?_)⟩
            · rw [firstMeeting_eq hH q.1.2.1 q.1.2.2.2.1 q.1.2.2.1 (by omega) (by omega) (by omega) (by omega), bd_some]
              refine TT_if (fun g => TT_some.mpr ⟨by rw [if_pos g], FW_FQ q.2⟩) (fun g => ?_)
              refine TT_if (fun g2 => TT_some.mpr ⟨by rw [if_neg g, if_pos g2]; exact g2, FW_FQ q.2⟩) (fun g2 => ?_)
              rw [placeOf_eq hH q.1.2.2.1 (by omega) (by omega) (by omega) (by omega), bd_some]
              exact TT_some.mpr ⟨by rw [if_neg g, if_neg g2], FW_FQ q.2⟩
            · have hf := FR_FQM q.2
              rw [m_firstMeeting hH q.1 (by omega) (by omega) (by omega) (by omega), bd_some]
              refine TT_if (fun g => TT_some.mpr ⟨?_, FQM_trans hq.1 hf.1, EqC_trans hq.2 hf.2⟩) (fun g => ?_)
              · by_cases g2 : x = 0
                · rw [if_pos g2]
                · rw [if_neg g2, if_pos (by omega)]; omega
              · refine TT_if (fun g2 => TT_some.mpr ⟨by rw [if_pos g2], FQM_trans hq.1 hf.1, EqC_trans hq.2 hf.2⟩) (fun g2 => ?_)
                simp (disch := omega) only [w32_in, g_pos]
                exact TT_some.mpr ⟨by rw [if_neg g2, if_neg (by omega)]; exact q.1.2 a _ (by omega) (by omega) (by omega) (by omega), FQM_trans hq.1 hf.1, EqC_trans hq.2 hf.2⟩
end
end Ea
