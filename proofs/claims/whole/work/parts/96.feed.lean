/-! feed. -/
section Fe
variable {f : Int → Int → Int → Int} {m : Mm}
def byt (p v : Int) : Int := land (lushr p v) 255
theorem byt_r (p v : Int) : 0 ≤ byt p v ∧ byt p v ≤ 255 := by
  unfold byt land
  generalize lushr p v = x
  have e : (Int64.ofInt 255).toBitVec.toNat = 255 := by decide
  have h : (Int64.ofInt x &&& Int64.ofInt 255).toBitVec.toNat ≤ 255 := by
    rw [Int64.toBitVec_and, BitVec.toNat_and, e]
    exact Nat.and_le_right
  show 0 ≤ (Int64.ofInt x &&& Int64.ofInt 255).toBitVec.toInt ∧ (Int64.ofInt x &&& Int64.ofInt 255).toBitVec.toInt ≤ 255
  rw [BitVec.toInt_eq_toNat_of_lt (by omega)]
  omega
theorem i2c_all : ∀ k : Nat, k < 256 → i2c (k : Int) = k := by decide +kernel
theorem i2c_in {x : Int} (h : 0 ≤ x ∧ x ≤ 255) : i2c x = x := by
  obtain ⟨k, rfl⟩ : ∃ k : Nat, x = k := ⟨x.toNat, by omega⟩
  exact i2c_all k (by omega)
/-- what is fed -/
abbrev isF (x : Int) : Prop := x = 10 ∨ (32 ≤ x ∧ x ≤ 126)
def fbC (c : Mm) (x : Int) : Mm := if isF x ∧ c 1 0 < 1000 then mst (mst c 2 (c 1 0).toNat x) 1 0 (c 1 0 + 1) else c
def fbM (d : Mm) (x : Int) : Mm := if isF x ∧ d 203 1 < 1000 then mst (mst d 204 (d 203 1).toNat x) 203 1 (d 203 1 + 1) else d
theorem fbC_r {c : Mm} {x : Int} (h : 0 ≤ c 1 0 ∧ c 1 0 ≤ 1000) : 0 ≤ fbC c x 1 0 ∧ fbC c x 1 0 ≤ 1000 := by
  unfold fbC
  split
  · rw [mst_hit]; omega
  · exact h
theorem fbM_r {c : Mm} {x : Int} (h : 0 ≤ c 203 1 ∧ c 203 1 ≤ 1000) : 0 ≤ fbM c x 203 1 ∧ fbM c x 203 1 ≤ 1000 := by
  unfold fbM
  split
  · rw [mst_hit]; omega
  · exact h
theorem c_feed1 {p v : Int} {k : Int → Mm → Res} {c : Mm} (h : 0 ≤ c 1 0 ∧ c 1 0 ≤ 1000) (v0 : 0 ≤ v) (v1 : v ≤ 56) : bo_Tape_append_3 p k v c = k (v - 8) (fbC c (byt p v)) := by
  have hb := byt_r p v
  have e71 : ∀ m', bo_Tape_append_71 p k v m' = k (v - 8) m' := fun m' => by unfold bo_Tape_append_71; rw [w32_in (by omega) (by omega)]; rfl
  unfold bo_Tape_append_3 bo_Tape_append_40 fn_Tape_isBlank
  rw [if_neg (by omega), w32_in (x := land (lushr p v) 255) (by unfold byt at hb; omega) (by unfold byt at hb; omega)]
  show bn (i2c (byt p v)) _ = _
  rw [i2c_in hb]
  generalize byt p v = x at *
  simp only [bn_eq, e71]
  have push : (if c 1 0 < 1000 then if 0 ≤ c 1 0 ∧ c 1 0 < 1000 then if 0 ≤ x ∧ x ≤ 65535 then k (v - 8) (mst (mst c 2 (c 1 0).toNat x) 1 0 (w32 (mst c 2 (c 1 0).toNat x 1 0 + 1))) else none else none else k (v - 8) c) = k (v - 8) (if c 1 0 < 1000 then mst (mst c 2 (c 1 0).toNat x) 1 0 (c 1 0 + 1) else c) := by
    by_cases y : c 1 0 < 1000
    · rw [if_pos y, if_pos (by omega), if_pos (by omega), if_pos y, mst_ne (by omega), w32_in (by omega) (by omega)]
    · rw [if_neg y, if_neg y]
  have res : fbC c x = if isF x then (if c 1 0 < 1000 then mst (mst c 2 (c 1 0).toNat x) 1 0 (c 1 0 + 1) else c) else c := by
    unfold fbC
    by_cases y : isF x
    · by_cases z : c 1 0 < 1000
      · rw [if_pos ⟨y, z⟩, if_pos y, if_pos z]
      · rw [if_neg (fun q => z q.2), if_pos y, if_neg z]
    · rw [if_neg (fun q => y q.1), if_neg y]
  rw [res]
  by_cases y1 : x = 10
  · rw [if_pos y1, bd_some, if_neg (by decide : ¬ (1 : Int) = 0), push, if_pos (Or.inl y1)]
  · rw [if_neg y1]
    by_cases y2 : x = 32
    · rw [if_pos y2, bd_some, if_neg (by decide : ¬ (1 : Int) = 0), push, if_pos (Or.inr (by omega))]
    · rw [if_neg y2, bd_some, if_pos rfl]
      by_cases y3 : 32 < x
      · rw [if_pos y3]
        by_cases y4 : x < 127
        · rw [if_pos y4, push, if_pos (Or.inr (by omega))]
        · rw [if_neg y4, if_neg (by unfold isF; omega)]
      · rw [if_neg y3, if_neg (by unfold isF; omega)]
theorem m_feed1 {p1 p3 p5 v s w : Int} {k : Int → Mm → Res} {d : Mm} (h : 0 ≤ d 203 1 ∧ d 203 1 ≤ 1000) (v0 : 0 ≤ v) (v1 : v < 24) (e : iand v 7 = w) (w0 : 0 ≤ w) (w1 : w ≤ 7) : bo_Model_feed_39 p1 p3 p5 k v s d = k (v + 1) (fbM d (byt s (56 - 8 * w))) := by
  have hb := byt_r s (56 - 8 * w)
  have e71 : ∀ m', bo_Model_feed_114 p1 p3 p5 k v m' = k (v + 1) m' := fun m' => by unfold bo_Model_feed_114; rw [w32_in (by omega) (by omega)]
  unfold bo_Model_feed_39 bo_Model_feed_93
  rw [e, w32_in (x := 8 * w) (by omega) (by omega), w32_in (x := 56 - 8 * w) (by omega) (by omega), w32_in (x := land (lushr s (56 - 8 * w)) 255) (by unfold byt at hb; omega) (by unfold byt at hb; omega)]
  show bn (byt s (56 - 8 * w)) _ = _
  generalize byt s (56 - 8 * w) = x at *
  simp only [bn_eq, e71]
  unfold fbM
  by_cases z : d 203 1 < 1000
  · rw [if_pos z]
    have push : (if 0 ≤ d 203 1 ∧ d 203 1 < 1000 then k (v + 1) (mst (mst d 204 (d 203 1).toNat x) 203 1 (w32 (mst d 204 (d 203 1).toNat x 203 1 + 1))) else none) = k (v + 1) (mst (mst d 204 (d 203 1).toNat x) 203 1 (d 203 1 + 1)) := by
      rw [if_pos (by omega), mst_ne (by omega), w32_in (by omega) (by omega)]
    rw [push]
    by_cases y1 : x = 10
    · rw [if_pos y1, if_pos ⟨Or.inl y1, z⟩]
    · rw [if_neg y1]
      by_cases y2 : x < 32
      · rw [if_pos y2, if_neg (by unfold isF; omega)]
      · rw [if_neg y2]
        by_cases y3 : 126 < x
        · rw [if_pos y3, if_neg (by unfold isF; omega)]
        · rw [if_neg y3, if_pos ⟨Or.inr (by omega), z⟩]
  · rw [if_neg z, if_neg (fun q => z q.2)]
def bl (p : Int) : List Int := [byt p 56, byt p 48, byt p 40, byt p 32, byt p 24, byt p 16, byt p 8, byt p 0]
theorem c_append {p : Int} {c : Mm} (h : 0 ≤ c 1 0 ∧ c 1 0 ≤ 1000) : fn_Tape_append p c = some (0, (bl p).foldl fbC c) := by
  have key : ∀ (j n : Nat) (v : Int) (c : Mm), v + 8 = 8 * j → j ≤ 8 → j < n → 0 ≤ c 1 0 ∧ c 1 0 ≤ 1000 → lp_Tape_append_3 p n v c = some (0, ((List.range j).map (fun i : Nat => byt p (8 * (j : Int) - 8 - 8 * (i : Int)))).foldl fbC c) := by
    intro j
    induction j with
    | zero =>
      intro n v c h1 _ h2 h3
      obtain ⟨n', rfl⟩ : ∃ n', n = n' + 1 := ⟨n - 1, by omega⟩
      show bo_Tape_append_3 p _ v c = _
      unfold bo_Tape_append_3
      rw [if_pos (by omega)]
      rfl
    | succ j ih =>
      intro n v c h1 h0 h2 h3
      obtain ⟨n', rfl⟩ : ∃ n', n = n' + 1 := ⟨n - 1, by omega⟩
      show bo_Tape_append_3 p (lp_Tape_append_3 p n') v c = _
      rw [c_feed1 h3 (by omega) (by omega), ih n' (v - 8) _ (by omega) (by omega) (by omega) (fbC_r h3), List.range_succ_eq_map, List.map_cons, List.map_map, List.foldl_cons]
      have e1 : 8 * ((j + 1 : Nat) : Int) - 8 - 8 * ((0 : Nat) : Int) = v := by omega
      have e2 : ((fun i : Nat => byt p (8 * ((j + 1 : Nat) : Int) - 8 - 8 * (i : Int))) ∘ Nat.succ) = fun i : Nat => byt p (8 * (j : Int) - 8 - 8 * (i : Int)) := by
        funext i
        show byt p _ = byt p _
        congr 1
        simp only [Nat.succ_eq_add_one]
        omega
      rw [e1, e2]
  have := key 8 FU 56 c (by omega) (by omega) (by show 8 < 2000; omega) h
  unfold fn_Tape_append
  rw [this]
  rfl
theorem fold_r {c : Mm} {l : List Int} (h : 0 ≤ c 1 0 ∧ c 1 0 ≤ 1000) : 0 ≤ (l.foldl fbC c) 1 0 ∧ (l.foldl fbC c) 1 0 ≤ 1000 := by
  induction l generalizing c with
  | nil => exact h
  | cons x l ih => exact ih (fbC_r h)
def bx (p1 p3 p5 v : Int) : Int := if v < 8 then byt p1 (56 - 8 * v) else if v < 16 then byt p3 (56 - 8 * (v - 8)) else byt p5 (56 - 8 * (v - 16))
theorem iand7 : ∀ k : Nat, k < 24 → iand (k : Int) 7 = ((k % 8 : Nat) : Int) := by decide +kernel
theorem m_feed {p1 p3 p5 : Int} {d : Mm} (h : 0 ≤ d 203 1 ∧ d 203 1 ≤ 1000) : fn_Model_feed p1 p3 p5 d = some (((bl p1 ++ bl p3 ++ bl p5).foldl fbM (mst d 203 0 0)) 203 1, (bl p1 ++ bl p3 ++ bl p5).foldl fbM (mst d 203 0 0)) := by
  have key : ∀ (j n : Nat) (v : Int) (d : Mm), v + j = 24 → j ≤ 24 → j < n → 0 ≤ d 203 1 ∧ d 203 1 ≤ 1000 → lp_Model_feed_8 p1 p3 p5 n v d = some ((((List.range j).map (fun i : Nat => bx p1 p3 p5 (24 - (j : Int) + (i : Int)))).foldl fbM d) 203 1, ((List.range j).map (fun i : Nat => bx p1 p3 p5 (24 - (j : Int) + (i : Int)))).foldl fbM d) := by
    intro j
    induction j with
    | zero =>
      intro n v d h1 _ h2 h3
      obtain ⟨n', rfl⟩ : ∃ n', n = n' + 1 := ⟨n - 1, by omega⟩
      show bo_Model_feed_8 p1 p3 p5 _ v d = _
      unfold bo_Model_feed_8
      rw [if_neg (by omega)]
      rfl
    | succ j ih =>
      intro n v d h1 h0 h2 h3
      obtain ⟨n', rfl⟩ : ∃ n', n = n' + 1 := ⟨n - 1, by omega⟩
      show bo_Model_feed_8 p1 p3 p5 (lp_Model_feed_8 p1 p3 p5 n') v d = _
      have ei : iand v 7 = v % 8 := by
        obtain ⟨k, rfl⟩ : ∃ k : Nat, v = k := ⟨v.toNat, by omega⟩
        rw [iand7 k (by omega)]
        omega
      have st : bo_Model_feed_8 p1 p3 p5 (lp_Model_feed_8 p1 p3 p5 n') v d = lp_Model_feed_8 p1 p3 p5 n' (v + 1) (fbM d (bx p1 p3 p5 v)) := by
        unfold bo_Model_feed_8 bx
        rw [if_pos (by omega : v < 24)]
        by_cases y1 : v < 8
        · rw [if_pos y1, if_pos y1, m_feed1 h3 (by omega) (by omega) ei (by omega) (by omega)]
          have : v % 8 = v := by omega
          rw [this]
        · rw [if_neg y1, if_neg y1]
          by_cases y2 : v < 16
          · rw [if_pos y2, if_pos y2, m_feed1 h3 (by omega) (by omega) ei (by omega) (by omega)]
            have : v % 8 = v - 8 := by omega
            rw [this]
          · rw [if_neg y2, if_neg y2, m_feed1 h3 (by omega) (by omega) ei (by omega) (by omega)]
            have : v % 8 = v - 16 := by omega
            rw [this]
      rw [st, ih n' (v + 1) _ (by omega) (by omega) (by omega) (fbM_r h3), List.range_succ_eq_map, List.map_cons, List.map_map, List.foldl_cons]
      have e1 : 24 - ((j + 1 : Nat) : Int) + ((0 : Nat) : Int) = v := by omega
      have e2 : ((fun i : Nat => bx p1 p3 p5 (24 - ((j + 1 : Nat) : Int) + (i : Int))) ∘ Nat.succ) = fun i : Nat => bx p1 p3 p5 (24 - (j : Int) + (i : Int)) := by
        funext i
        show bx p1 p3 p5 _ = bx p1 p3 p5 _
        congr 1
        simp only [Nat.succ_eq_add_one]
        omega
      rw [e1, e2]
  have hh : 0 ≤ mst d 203 0 0 203 1 ∧ mst d 203 0 0 203 1 ≤ 1000 := by rw [mst_miss (by omega)]; exact h
  have := key 24 FU 0 (mst d 203 0 0) (by omega) (by omega) (by show 24 < 2000; omega) hh
  unfold fn_Model_feed
  rw [bn_eq, this]
  rfl
theorem Tp_fb {c d : Mm} {x : Int} (h : TpR c d) : TpR (fbC c x) (fbM d x) := by
  obtain ⟨h1, h2, h3, h4⟩ := h
  unfold fbC fbM
  rw [← h1]
  by_cases y : isF x ∧ c 1 0 < 1000
  · rw [if_pos y, if_pos y]
    refine ⟨by rw [mst_hit, mst_hit], by rw [mst_hit]; omega, by rw [mst_hit]; omega, fun i i0 i1 => ?_⟩
    rw [mst_hit] at i1
    rw [mst_ne (a := 1) (b := 2) (by omega), mst_ne (a := 203) (b := 204) (by omega)]
    by_cases z : i = c 1 0
    · subst z
      rw [mst_hit, mst_hit]
      exact ⟨rfl, y.1⟩
    · rw [mst_miss (by omega), mst_miss (by omega)]
      exact h4 i i0 (by omega)
  · rw [if_neg y, if_neg y]
    exact ⟨h1, h2, h3, h4⟩
theorem Tp_fold {l : List Int} : ∀ {c d : Mm}, TpR c d → TpR (l.foldl fbC c) (l.foldl fbM d) := by
  induction l with
  | nil => intro c d h; exact h
  | cons x l ih => intro c d h; exact ih (Tp_fb h)
theorem fbC_ne {l : List Int} : ∀ {c : Mm}, (∀ a, a ≠ 1 → a ≠ 2 → l.foldl fbC c a = c a) := by
  induction l with
  | nil => intro c a _ _; rfl
  | cons x l ih =>
    intro c a h1 h2
    rw [List.foldl_cons, ih a h1 h2]
    unfold fbC
    split
    · rw [mst_ne h1, mst_ne h2]
    · rfl
theorem fbM_ne {l : List Int} : ∀ {c : Mm}, (∀ a, a ≠ 203 → a ≠ 204 → l.foldl fbM c a = c a) ∧ ∀ j, j ≠ 1 → l.foldl fbM c 203 j = c 203 j := by
  induction l with
  | nil => intro c; exact ⟨fun a _ _ => rfl, fun j _ => rfl⟩
  | cons x l ih =>
    intro c
    refine ⟨fun a h1 h2 => ?_, fun j hj => ?_⟩
    · rw [List.foldl_cons, ih.1 a h1 h2]
      unfold fbM
      split
      · rw [mst_ne h1, mst_ne h2]
      · rfl
    · rw [List.foldl_cons, ih.2 j hj]
      unfold fbM
      split
      · rw [mst_miss hj, mst_ne (by omega)]
      · rfl
theorem RR_tape {c c' d d' : Mm} (hR : RR f c d) (hT : TpR c' d') (hc : ∀ a, a ≠ 1 → a ≠ 2 → a < 203 → c' a = c a) (hm : ∀ a, 205 ≤ a → d' a = d a) (h58 : d' 203 58 = d 203 58) : RR f c' d' := by
  obtain ⟨h1, h2, h3, h4, h5, h6, h7, h8, h9, h10⟩ := hR
  have e205 : d' 205 = d 205 := hm 205 (by omega)
  have e0 := hc 0 (by omega) (by omega) (by omega)
  have e245 := hm 245 (by omega)
  have hc0 := h3.2.1.1
  refine ⟨hT, ?_, ?_, ?_, ?_, ?_, ?_, ?_, ?_, ?_⟩
  · rw [e0]; exact h2
  · rw [e0]
    refine HlR_congr h3 (fun a a0 a1 a2 a3 => hc a (by omega) (by omega) (by omega)) (fun j hj => ?_) (fun a a0 a1 => hm a (by omega))
    rw [hc _ (by omega) (by omega) (by omega)]
  · rw [e245]
    exact StR_congr h4 (hc _ (by omega) (by omega) (by omega)) (hc _ (by omega) (by omega) (by omega)) (hc _ (by omega) (by omega) (by omega)) e205
  · exact LnR_congr h5 (by rw [hc _ (by omega) (by omega) (by omega)]) (hc _ (by omega) (by omega) (by omega)) (hc _ (by omega) (by omega) (by omega)) (hc _ (by omega) (by omega) (by omega)) e205 (hm _ (by omega)) (hm _ (by omega)) (hm _ (by omega)) (hm _ (by omega))
  · exact SnR_congr h6 (by rw [hc _ (by omega) (by omega) (by omega)]) (by rw [hc _ (by omega) (by omega) (by omega)]) (hc _ (by omega) (by omega) (by omega)) (hc _ (by omega) (by omega) (by omega)) e205 (hm _ (by omega)) (hm _ (by omega)) (hm _ (by omega)) (hm _ (by omega))
  · exact TdR_congr h7 (hc _ (by omega) (by omega) (by omega)) e205 (hm _ (by omega))
  · exact MkR_congr h8 (fun a a0 a1 => hc a (by omega) (by omega) (by omega)) (fun a ha => hm a (by omega))
  · exact UnR_congr h9 (by rw [e0]) (by rw [e0]) (fun a a0 a1 => hc a (by omega) (by omega) (by omega)) e205 h58 (hm _ (by omega))
  · rw [hm 243 (by omega)]; exact h10
theorem call_feed (hR : RR f m m) (x y z : Int) : Both (fn_Clock_feed x y z) (fn_Model_feed x y z) m := by
  obtain ⟨t1, t2, t3, t4⟩ := hR.1
  have g0 : 0 ≤ m 1 0 ∧ m 1 0 ≤ 1000 := ⟨t2, t3⟩
  have eC : fn_Clock_feed x y z m = some (((bl x ++ bl y ++ bl z).foldl fbC m) 1 0, (bl x ++ bl y ++ bl z).foldl fbC m) := by
    unfold fn_Clock_feed
    rw [c_append g0, bd_some, c_append (fold_r g0), bd_some, c_append (fold_r (fold_r g0)), bd_some, List.foldl_append, List.foldl_append]
  refine s_both (f := f) (m := m) (x := ((bl x ++ bl y ++ bl z).foldl fbC m) 1 0) (C := fun c' => c' = (bl x ++ bl y ++ bl z).foldl fbC m) (TT_of eC ⟨rfl, fun a ha => fbC_ne a (by omega) (by omega), rfl⟩) (fun d hE => ?_)
  have e203 : d 203 = m 203 := hE 203 (by omega)
  have hT0 : TpR m (mst d 203 0 0) := TpR_congr hR.1 rfl rfl (by rw [mst_miss (by omega), e203]) (by rw [mst_ne (by omega), hE 204 (by omega)])
  have hT := Tp_fold (l := bl x ++ bl y ++ bl z) hT0
  refine TT_of (m_feed (by rw [e203, ← t1]; exact g0)) ⟨hT.1.symm, fun a ha => ?_, fun c' hc' => ?_⟩
  · rw [fbM_ne.1 a (by omega) (by omega), mst_ne (by omega)]
  · subst hc'
    refine RR_tape hR hT (fun a a1 a2 _ => fbC_ne a a1 a2) (fun a ha => ?_) ?_
    · rw [fbM_ne.1 a (by omega) (by omega), mst_ne (by omega), hE a (by omega)]
    · rw [fbM_ne.2 58 (by omega), mst_miss (by omega), e203]
end Fe
