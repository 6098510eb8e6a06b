/-! Shorter rows for printed walks: arrays by a checked index, Math, arraycopy, kinds of cells. -/
theorem ly_n {a kd n : Nat} (h : ly_k a = (kd, n)) : n < 2147483648 := by
  have hall : ∀ q ∈ ly_TY, q.2 < 2147483648 := by decide +kernel
  by_cases ha : a < ly_TY.length
  · have h1 : ly_TY[a] ∈ ly_TY := List.getElem_mem ha
    have h2 : ly_k a = ly_TY[a] := by unfold ly_k; rw [List.getD_eq_getElem?_getD, List.getElem?_eq_getElem ha]; rfl
    have := hall _ h1
    rw [← h2, h] at this
    exact this
  · have h2 : ly_k a = (99, 0) := by unfold ly_k; rw [List.getD_eq_getElem?_getD, List.getElem?_eq_none (Nat.le_of_not_lt ha)]; rfl
    rw [h2] at h
    cases h
    decide
def isK (ci : Nat) (x : Int) : Bool := decide (0 ≤ x) && Nat.beq (ly_k x.toNat).1 ci
theorem isK_0 {ci : Nat} {x : Int} (h : isK ci x = true) : 0 ≤ x := by
  unfold isK at h
  simp only [Bool.and_eq_true, decide_eq_true_eq] at h
  exact h.1
theorem isK_k {ci : Nat} {x : Int} (h : isK ci x = true) : (ly_k x.toNat).1 = ci := by
  unfold isK at h
  simp only [Bool.and_eq_true] at h
  exact Nat.eq_of_beq_eq_true h.2
/-- what a program decides of all cells -/
theorem ly_all (P : Nat → Nat × Nat → Bool) (h : (List.range ly_N).all (fun a => P a (ly_k a)) = true) {a kd n : Nat} (hk : ly_k a = (kd, n)) (hc : kd < 99) : P a (kd, n) = true := by
  have h1 := List.all_eq_true.mp h a (List.mem_range.mpr (ly_lt hk hc))
  rw [hk] at h1
  exact h1
theorem kd_of {ci n : Nat} (h : (List.range ly_N).all (fun a => !(Nat.beq (ly_k a).1 ci) || Nat.beq (ly_k a).2 n) = true) {x : Int} (hx : isK ci x = true) (hc : ci < 99) : ly_k x.toNat = (ci, n) := by
  have h1 := isK_k hx
  obtain ⟨k, m, hk⟩ : ∃ k m, ly_k x.toNat = (k, m) := ⟨_, _, rfl⟩
  rw [hk] at h1 ⊢
  have h1 : k = ci := h1
  subst h1
  have h2 := ly_all (fun _ q => !(Nat.beq q.1 k) || Nat.beq q.2 n) h hk hc
  have e : Nat.beq k k = true := Nat.beq_refl k
  simp only [e, Bool.not_true, Bool.false_or] at h2
  rw [Nat.eq_of_beq_eq_true h2]
theorem cl_of {ci n kd m off : Nat} (h : (List.range ly_N).all (fun a => !(Nat.beq (ly_k a).1 ci) || (Nat.beq (ly_k (a + off)).1 kd && Nat.beq (ly_k (a + off)).2 m)) = true) (hc : ci < 99) {a : Nat} (hk : ly_k a = (ci, n)) : ly_k (a + off) = (kd, m) := by
  have h2 := ly_all (fun a q => !(Nat.beq q.1 ci) || (Nat.beq (ly_k (a + off)).1 kd && Nat.beq (ly_k (a + off)).2 m)) h hk hc
  have e : Nat.beq ci ci = true := Nat.beq_refl ci
  simp only [e, Bool.not_true, Bool.false_or, Bool.and_eq_true] at h2
  exact Prod.ext (Nat.eq_of_beq_eq_true h2.1) (Nat.eq_of_beq_eq_true h2.2)
theorem el_of {kd n ci m : Nat} (h : (List.range ly_N).all (fun a => !(Nat.beq (ly_k a).1 kd) || (List.range n).all (fun i => Nat.beq (ly_k (a + (raO kd).1 + (raO kd).2 * i)).1 ci && Nat.beq (ly_k (a + (raO kd).1 + (raO kd).2 * i)).2 m)) = true) (hc : kd < 99) {a b : Nat} {i : Int} (hk : ly_k a = (kd, n)) (hi : 0 ≤ i ∧ i < (n : Int)) (hb : a + (raO kd).1 + (raO kd).2 * i.toNat = b) : ly_k b = (ci, m) := by
  have h2 := ly_all (fun a q => !(Nat.beq q.1 kd) || (List.range n).all (fun i => Nat.beq (ly_k (a + (raO kd).1 + (raO kd).2 * i)).1 ci && Nat.beq (ly_k (a + (raO kd).1 + (raO kd).2 * i)).2 m)) h hk hc
  have e : Nat.beq kd kd = true := Nat.beq_refl kd
  simp only [e, Bool.not_true, Bool.false_or] at h2
  have h3 := List.all_eq_true.mp h2 i.toNat (List.mem_range.mpr (by omega))
  simp only [Bool.and_eq_true] at h3
  rw [hb] at h3
  exact Prod.ext (Nat.eq_of_beq_eq_true h3.1) (Nat.eq_of_beq_eq_true h3.2)
def imx (x y : Int) : Int := if x < y then y else x
def imn (x y : Int) : Int := if y < x then y else x
def iab (x : Int) : Int := if x < 0 then w32 (0 - x) else x
def mcp (mem : Mm) (a sp b dp n : Nat) : Mm := fun c j => if c = b ∧ dp ≤ j ∧ j < dp + n then mem a (sp + (j - dp)) else mem c j
def FU : Nat := 2000
section Rows5
variable {E : EE} {M : MT} {o o1 o2 : Res} {pc : Nat} {lv : List (Nat × VV)} {st : List VV} {mem : Mm}
theorem RO_ia {a n : Nat} {i : Int} (hk : ly_k a = (12, n)) (hi : 0 ≤ i ∧ i < (n : Int)) (hd : decode M.2.1 pc = .ok (.iaload, 1)) (k : RO E M o (pc + 1) lv (vi (mem a i.toNat) :: st) mem) : RO E M o pc lv (vi i :: rf a :: st) mem := RO_iald hk (ly_n hk) hi.1 hi.2 hd k
theorem RO_la {a n : Nat} {i : Int} (hk : ly_k a = (13, n)) (hi : 0 ≤ i ∧ i < (n : Int)) (hd : decode M.2.1 pc = .ok (.laload, 1)) (k : RO E M o (pc + 1) lv (vl (mem a i.toNat) :: st) mem) : RO E M o pc lv (vi i :: rf a :: st) mem := RO_lald hk (ly_n hk) hi.1 hi.2 hd k
theorem RO_ca {a n : Nat} {i : Int} (hk : ly_k a = (14, n)) (hi : 0 ≤ i ∧ i < (n : Int)) (hd : decode M.2.1 pc = .ok (.caload, 1)) (k : RO E M o (pc + 1) lv (vi (mem a i.toNat) :: st) mem) : RO E M o pc lv (vi i :: rf a :: st) mem := RO_cald hk (ly_n hk) hi.1 hi.2 hd k
theorem RO_za {a n : Nat} {i : Int} (hk : ly_k a = (15, n)) (hi : 0 ≤ i ∧ i < (n : Int)) (hd : decode M.2.1 pc = .ok (.baload, 1)) (k : RO E M o (pc + 1) lv (vi (mem a i.toNat) :: st) mem) : RO E M o pc lv (vi i :: rf a :: st) mem := RO_zald hk (ly_n hk) hi.1 hi.2 hd k
theorem RO_aa {a n kd b : Nat} {i : Int} (hkd : kd = 16 ∨ kd = 17 ∨ kd = 18) (hk : ly_k a = (kd, n)) (hi : 0 ≤ i ∧ i < (n : Int)) (hb : a + (raO kd).1 + (raO kd).2 * i.toNat = b) (hd : decode M.2.1 pc = .ok (.aaload, 1)) (k : RO E M o (pc + 1) lv (rf b :: st) mem) : RO E M o pc lv (vi i :: rf a :: st) mem := RO_aald hkd hk (ly_n hk) hi.1 hi.2 hb hd k
theorem RO_is {a n : Nat} {i x : Int} (hk : ly_k a = (12, n)) (hi : 0 ≤ i ∧ i < (n : Int)) (hd : decode M.2.1 pc = .ok (.iastore, 1)) (k : RO E M o (pc + 1) lv st (mst mem a i.toNat x)) : RO E M o pc lv (vi x :: vi i :: rf a :: st) mem := RO_iast hk (ly_n hk) hi.1 hi.2 hd k
theorem RO_lst {a n : Nat} {i x : Int} (hk : ly_k a = (13, n)) (hi : 0 ≤ i ∧ i < (n : Int)) (hd : decode M.2.1 pc = .ok (.lastore, 1)) (k : RO E M o (pc + 1) lv st (mst mem a i.toNat x)) : RO E M o pc lv (vl x :: vi i :: rf a :: st) mem := RO_last hk (ly_n hk) hi.1 hi.2 hd k
theorem RO_zs {a n : Nat} {i x : Int} (hk : ly_k a = (15, n)) (hi : 0 ≤ i ∧ i < (n : Int)) (hx : x = 0 ∨ x = 1) (hd : decode M.2.1 pc = .ok (.bastore, 1)) (k : RO E M o (pc + 1) lv st (mst mem a i.toNat x)) : RO E M o pc lv (vi x :: vi i :: rf a :: st) mem := RO_zast hk (ly_n hk) hi.1 hi.2 hx hd k
theorem RO_cs {a n : Nat} {i x : Int} (hk : ly_k a = (14, n)) (hi : 0 ≤ i ∧ i < (n : Int)) (hx : 0 ≤ x ∧ x ≤ 65535) (hd : decode M.2.1 pc = .ok (.castore, 1)) (k : RO E M o (pc + 1) lv st (mst mem a i.toNat x)) : RO E M o pc lv (vi x :: vi i :: rf a :: st) mem := RO_cast hk (ly_n hk) hi.1 hi.2 hx hd k
def mathW (nm : MethodName) (cd : ByteArray) (k : Nat) : Prop := Cond.static nm ∈ TBL ∧ Cond.initialized "java/lang/Math" ∈ TBL ∧ Cond.code nm cd k (some .int) ∈ TBL
theorem RO_max {x y : Int} {idx : Nat} (hm : mathW Lib.Math.max.name Lib.Math.max.code 2) (hl : Cond.methodLink M.1 idx Lib.Math.max.name ∈ TBL) (hr : argsW st ≤ 8) (hdd : 0 < M.2.2.2.2) (hd : decode M.2.1 pc = .ok (.invokestatic idx, 3)) (k : RO E M o (pc + 3) lv (vi (imx x y) :: st) mem) : RO E M o pc lv (vi y :: vi x :: st) mem :=
  RO_go (fun p e R s m args below meth c H locs ls Q hF hL hs hw hS kk => by
    have hts := hF.2.2.2.2.2.1
    have hR := hF.2.2.2.2.2.2.2.2
    have iff := of_lt (x := x) (y := y) (okS_h (okS_t hs)) (okS_h hs)
    refine va_mmax (x := Int32.ofInt x) (y := Int32.ofInt y) (rest := st.map (cv E)) hF.1 hF.2.1 (hF.2.2.1.trans hL.1.symm) hF.2.2.2.2.1 (hts _ hl) (hts _ hm.1) (hts _ hm.2.1) (hts _ hm.2.2) (by rw [hR]; exact hdd) (by rw [hR, cat_sum]; show _ ≤ 40 * M.2.2.2.2; omega) (Nat.zero_le _) (Nat.zero_le _) hd ?_
    have e1 : (if Int32.ofInt x < Int32.ofInt y then Int32.ofInt y else Int32.ofInt x) = Int32.ofInt (imx x y) := by
      unfold imx
      by_cases h : x < y
      · rw [if_pos (iff.mpr h), if_pos h]
      · rw [if_neg (fun z => h (iff.mp z)), if_neg h]
    have e2 : okI (imx x y) := by
      unfold imx
      split
      · exact okS_h hs
      · exact okS_h (okS_t hs)
    rw [e1]
    exact kk ls hL (okS_i e2 (okS_t (okS_t hs)))) k
theorem RO_min {x y : Int} {idx : Nat} (hm : mathW Lib.Math.min.name Lib.Math.min.code 2) (hl : Cond.methodLink M.1 idx Lib.Math.min.name ∈ TBL) (hr : argsW st ≤ 8) (hdd : 0 < M.2.2.2.2) (hd : decode M.2.1 pc = .ok (.invokestatic idx, 3)) (k : RO E M o (pc + 3) lv (vi (imn x y) :: st) mem) : RO E M o pc lv (vi y :: vi x :: st) mem :=
  RO_go (fun p e R s m args below meth c H locs ls Q hF hL hs hw hS kk => by
    have hts := hF.2.2.2.2.2.1
    have hR := hF.2.2.2.2.2.2.2.2
    have iff := of_lt (x := y) (y := x) (okS_h hs) (okS_h (okS_t hs))
    refine va_mmin (x := Int32.ofInt x) (y := Int32.ofInt y) (rest := st.map (cv E)) hF.1 hF.2.1 (hF.2.2.1.trans hL.1.symm) hF.2.2.2.2.1 (hts _ hl) (hts _ hm.1) (hts _ hm.2.1) (hts _ hm.2.2) (by rw [hR]; exact hdd) (by rw [hR, cat_sum]; show _ ≤ 40 * M.2.2.2.2; omega) (Nat.zero_le _) (Nat.zero_le _) hd ?_
    have e1 : (if Int32.ofInt y < Int32.ofInt x then Int32.ofInt y else Int32.ofInt x) = Int32.ofInt (imn x y) := by
      unfold imn
      by_cases h : y < x
      · rw [if_pos (iff.mpr h), if_pos h]
      · rw [if_neg (fun z => h (iff.mp z)), if_neg h]
    have e2 : okI (imn x y) := by
      unfold imn
      split
      · exact okS_h hs
      · exact okS_h (okS_t hs)
    rw [e1]
    exact kk ls hL (okS_i e2 (okS_t (okS_t hs)))) k
theorem RO_abs {x : Int} {idx : Nat} (hm : mathW Lib.Math.abs.name Lib.Math.abs.code 1) (hl : Cond.methodLink M.1 idx Lib.Math.abs.name ∈ TBL) (hr : argsW st ≤ 8) (hdd : 0 < M.2.2.2.2) (hd : decode M.2.1 pc = .ok (.invokestatic idx, 3)) (k : RO E M o (pc + 3) lv (vi (iab x) :: st) mem) : RO E M o pc lv (vi x :: st) mem :=
  RO_go (fun p e R s m args below meth c H locs ls Q hF hL hs hw hS kk => by
    have hts := hF.2.2.2.2.2.1
    have hR := hF.2.2.2.2.2.2.2.2
    have iff : (0 : Int32) ≤ Int32.ofInt x ↔ 0 ≤ x := of_le (x := 0) (y := x) okI_0 (okS_h hs)
    refine va_mabs (x := Int32.ofInt x) (rest := st.map (cv E)) hF.1 hF.2.1 (hF.2.2.1.trans hL.1.symm) hF.2.2.2.2.1 (hts _ hl) (hts _ hm.1) (hts _ hm.2.1) (hts _ hm.2.2) (by rw [hR]; exact hdd) (by rw [hR, cat_sum]; show _ ≤ 40 * M.2.2.2.2; omega) (Nat.zero_le _) (Nat.zero_le _) hd ?_
    have e1 : (if (0 : Int32) ≤ Int32.ofInt x then Int32.ofInt x else 0 - Int32.ofInt x) = Int32.ofInt (iab x) := by
      unfold iab
      by_cases h : x < 0
      · rw [if_neg (fun z => by have := iff.mp z; omega), if_pos h]
        exact of_sub 0 x
      · rw [if_pos (iff.mpr (by omega)), if_neg h]
    have e2 : okI (iab x) := by
      unfold iab
      split
      · exact okI_w _
      · exact okS_h hs
    rw [e1]
    exact kk ls hL (okS_i e2 (okS_t hs))) k
def copyW : Prop := Cond.native arraycopyName ∈ TBL ∧ Cond.static arraycopyName ∈ TBL ∧ Cond.initialized "java/lang/System" ∈ TBL
theorem RO_copy {a b na nb : Nat} {sp dp n : Int} {idx : Nat} (hm : copyW) (hl : Cond.methodLink M.1 idx arraycopyName ∈ TBL) (hka : ly_k a = (12, na)) (hkb : ly_k b = (12, nb)) (h0 : 0 ≤ sp ∧ 0 ≤ dp ∧ 0 ≤ n ∧ sp + n ≤ (na : Int) ∧ dp + n ≤ (nb : Int)) (hr : argsW st ≤ 8) (hdd : 0 < M.2.2.2.2) (hd : decode M.2.1 pc = .ok (.invokestatic idx, 3))
    (k : RO E M o (pc + 3) lv st (mcp mem a sp.toNat b dp.toNat n.toNat)) : RO E M o pc lv (vi n :: vi dp :: rf b :: vi sp :: rf a :: st) mem := by
  intro r mem' ho p e R s m args below meth c hF H locs ls hL hs hw hS
  have hts := hF.2.2.2.2.2.1
  have hR := hF.2.2.2.2.2.2.2.2
  have hla := ly_lt hka (by omega)
  have hlb := ly_lt hkb (by omega)
  have na2 := ly_n hka
  have nb2 := ly_n hkb
  obtain ⟨i1, i2, i3, i4, i5⟩ := h0
  have cl : ∀ z : Int, 0 ≤ z → z ≤ 2147483647 → (Int32.ofInt z).toNatClampNeg = z.toNat := fun z z0 z1 => by
    show (Int32.ofInt z).toInt.toNat = _
    rw [toI ⟨by omega, by omega⟩]
  have ng : ∀ z : Int, 0 ≤ z → z ≤ 2147483647 → ¬ Int32.ofInt z < 0 := fun z z0 z1 q => by
    have := (of_lt (x := z) (y := 0) ⟨by omega, by omega⟩ okI_0).mp q
    omega
  have hnw : nativeFrameWords "java/lang/System" "arraycopy" 5 ≤ 20 := by decide +kernel
  refine va_copyi (D := eD E) (cl := ly_cl) (tys := tyL E) (c0 := eA E 12) (c1 := eA E 12) (n0 := na) (n1 := nb) (f := fun j => Int32.ofInt (mem a j)) (g := fun j => Int32.ofInt (mem b j)) (ty := .int) (sp := Int32.ofInt sp) (dp := Int32.ofInt dp) (n := Int32.ofInt n) (rest := st.map (cv E)) hF.1 hF.2.1 (hF.2.2.1.trans hL.1.symm) hF.2.2.2.2.1 (hts _ hl) (hts _ hm.1) (hts _ hm.2.1) (hts _ hm.2.2) hF.2.2.2.2.2.2.2.1.1 hw.1 wL_D hS a b 0 0 ((wL_get hla).trans (by rw [ent_arr hka (by decide)]; rfl)) ((wL_get hlb).trans (by rw [ent_arr hkb (by decide)]; rfl)) rfl rfl rfl (ng sp i1 (by omega)) (ng dp i2 (by omega)) (ng n i3 (by omega)) (by rw [cl sp i1 (by omega), cl n i3 (by omega)]; omega) (by rw [cl dp i2 (by omega), cl n i3 (by omega)]; omega) (fun i _ => rfl) (by rw [hR]; exact hdd) (by rw [hR, cat_sum]; show _ ≤ 40 * M.2.2.2.2; omega) hd (fun H1 locs1 hP1 _ hS1 => ?_)
  rw [cl sp i1 (by omega), cl dp i2 (by omega), cl n i3 (by omega)] at hP1
  refine k r mem' ho p e R s m args below meth c hF H1 locs1 ls hL (okS_t (okS_t (okS_t (okS_t (okS_t hs))))) ⟨?_, ?_⟩ hS1
  · rw [← wL_set (mem := mem) (mem' := mcp mem a sp.toNat b dp.toNat n.toNat) (k := b) hlb rfl (fun c hc => by funext j; simp [mcp, hc])]
    rw [ent_arr hkb (by decide)]
    have e1 : (fun j => Int32.ofInt (mcp mem a sp.toNat b dp.toNat n.toNat b j)) = va_cpy (fun j => Int32.ofInt (mem a j)) (fun j => Int32.ofInt (mem b j)) sp.toNat dp.toNat n.toNat := by
      funext j
      unfold mcp va_cpy
      by_cases h : dp.toNat ≤ j ∧ j < dp.toNat + n.toNat
      · rw [if_pos ⟨rfl, h⟩, if_pos h]
      · rw [if_neg (fun z => h z.2), if_neg h]
    show va_P (eD E) ly_cl ((wL E mem).set b (eB E + b, .inl (eA E 12, nb, .inl (fun j => Int32.ofInt (mcp mem a sp.toNat b dp.toNat n.toNat b j))))) H1
    rw [e1]
    exact hP1
  · intro c j
    unfold mcp
    split
    · next h =>
      rw [h.1, hkb]
      have := hw.2 a (sp.toNat + (j - dp.toNat))
      rw [hka] at this
      exact this
    · exact hw.2 c j
end Rows5
