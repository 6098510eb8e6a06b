/-! Numbers: an int is an Int in range, the machine's is Int32.ofInt of it. -/
def w32 (x : Int) : Int := (Int32.ofInt x).toInt
def w64 (x : Int) : Int := (Int64.ofInt x).toInt
theorem of_w32 (x : Int) : Int32.ofInt (w32 x) = Int32.ofInt x := Int32.ofInt_toInt _
theorem of_w64 (x : Int) : Int64.ofInt (w64 x) = Int64.ofInt x := Int64.ofInt_toInt _
theorem okI_32 (x : Int32) : okI x.toInt := by
  have h1 := x.le_toInt
  have h2 := x.toInt_lt
  constructor <;> omega
theorem okL_64 (x : Int64) : okL x.toInt := by
  have h1 := x.le_toInt
  have h2 := x.toInt_lt
  constructor <;> omega
theorem okI_w (x : Int) : okI (w32 x) := okI_32 _
theorem okL_w (x : Int) : okL (w64 x) := okL_64 _
theorem toI {x : Int} (h : okI x) : (Int32.ofInt x).toInt = x := by
  obtain ⟨h1, h2⟩ := h
  exact Int32.toInt_ofInt_of_le (by simpa using h1) (by omega)
theorem toL {x : Int} (h : okL x) : (Int64.ofInt x).toInt = x := by
  obtain ⟨h1, h2⟩ := h
  exact Int64.toInt_ofInt_of_le (by simpa using h1) (by omega)
theorem w32_id {x : Int} (h : okI x) : w32 x = x := toI h
theorem w64_id {x : Int} (h : okL x) : w64 x = x := toL h
theorem w32_in {x : Int} (h1 : -2147483648 ≤ x) (h2 : x ≤ 2147483647) : w32 x = x := toI ⟨h1, h2⟩
theorem w64_in {x : Int} (h1 : -9223372036854775808 ≤ x) (h2 : x ≤ 9223372036854775807) : w64 x = x := toL ⟨h1, h2⟩
theorem of_add (x y : Int) : Int32.ofInt x + Int32.ofInt y = Int32.ofInt (w32 (x + y)) := by rw [of_w32, Int32.ofInt_add]
theorem of_sub (x y : Int) : Int32.ofInt x - Int32.ofInt y = Int32.ofInt (w32 (x - y)) := by rw [of_w32, Int32.ofInt_sub]
theorem of_mul (x y : Int) : Int32.ofInt x * Int32.ofInt y = Int32.ofInt (w32 (x * y)) := by rw [of_w32, Int32.ofInt_mul]
theorem of_neg (x : Int) : -Int32.ofInt x = Int32.ofInt (w32 (-x)) := by rw [of_w32, Int32.ofInt_neg]
theorem ol_add (x y : Int) : Int64.ofInt x + Int64.ofInt y = Int64.ofInt (w64 (x + y)) := by rw [of_w64, Int64.ofInt_add]
theorem ol_sub (x y : Int) : Int64.ofInt x - Int64.ofInt y = Int64.ofInt (w64 (x - y)) := by rw [of_w64, Int64.ofInt_sub]
theorem ol_mul (x y : Int) : Int64.ofInt x * Int64.ofInt y = Int64.ofInt (w64 (x * y)) := by rw [of_w64, Int64.ofInt_mul]
def iand (x y : Int) : Int := (Int32.ofInt x &&& Int32.ofInt y).toInt
def ior (x y : Int) : Int := (Int32.ofInt x ||| Int32.ofInt y).toInt
def ixor (x y : Int) : Int := (Int32.ofInt x ^^^ Int32.ofInt y).toInt
def ishl (x y : Int) : Int := (Int32.ofInt x <<< (Int32.ofInt y &&& 31)).toInt
def ishr (x y : Int) : Int := (Int32.ofInt x >>> (Int32.ofInt y &&& 31)).toInt
def iushr (x y : Int) : Int := ((Int32.ofInt x).toUInt32 >>> ((Int32.ofInt y).toUInt32 &&& Int32.toUInt32 31)).toInt32.toInt
def idv (x y : Int) : Int := (Int32.ofInt x / Int32.ofInt y).toInt
def irm (x y : Int) : Int := (Int32.ofInt x - Int32.ofInt x / Int32.ofInt y * Int32.ofInt y).toInt
def i2c (x : Int) : Int := ((Int32.ofInt x).toUInt32 % 65536).toInt32.toInt
def land (x y : Int) : Int := (Int64.ofInt x &&& Int64.ofInt y).toInt
def lor (x y : Int) : Int := (Int64.ofInt x ||| Int64.ofInt y).toInt
def lshl (x y : Int) : Int := (Int64.ofInt x <<< ((Int32.ofInt y).toInt64 &&& 63)).toInt
def lshr (x y : Int) : Int := (Int64.ofInt x >>> ((Int32.ofInt y).toInt64 &&& 63)).toInt
def lushr (x y : Int) : Int := ((Int64.ofInt x).toUInt64 >>> ((Int32.ofInt y).toInt64.toUInt64 &&& Int64.toUInt64 63)).toInt64.toInt
def ldv (x y : Int) : Int := (Int64.ofInt x / Int64.ofInt y).toInt
def lrm (x y : Int) : Int := (Int64.ofInt x - Int64.ofInt x / Int64.ofInt y * Int64.ofInt y).toInt
def lcm (x y : Int) : Int := if x > y then 1 else if x = y then 0 else -1
theorem of_lt {x y : Int} (hx : okI x) (hy : okI y) : Int32.ofInt x < Int32.ofInt y ↔ x < y := by rw [Int32.lt_iff_toInt_lt, toI hx, toI hy]
theorem of_le {x y : Int} (hx : okI x) (hy : okI y) : Int32.ofInt x ≤ Int32.ofInt y ↔ x ≤ y := by rw [Int32.le_iff_toInt_le, toI hx, toI hy]
theorem of_eq {x y : Int} (hx : okI x) (hy : okI y) : Int32.ofInt x = Int32.ofInt y ↔ x = y := by rw [← Int32.toInt_inj, toI hx, toI hy]
theorem ol_lt {x y : Int} (hx : okL x) (hy : okL y) : Int64.ofInt x < Int64.ofInt y ↔ x < y := by rw [Int64.lt_iff_toInt_lt, toL hx, toL hy]
theorem ol_eq {x y : Int} (hx : okL x) (hy : okL y) : Int64.ofInt x = Int64.ofInt y ↔ x = y := by rw [← Int64.toInt_inj, toL hx, toL hy]
theorem okI_0 : okI 0 := ⟨by decide, by decide⟩
theorem okL_0 : okL 0 := ⟨by decide, by decide⟩
theorem of_cmp {x y : Int} (hx : okL x) (hy : okL y) : lg_cmp (Int64.ofInt x) (Int64.ofInt y) = Int32.ofInt (lcm x y) := by
  have h1 : (Int64.ofInt x > Int64.ofInt y) ↔ x > y := ol_lt hy hx
  have h2 := ol_eq hx hy
  unfold lg_cmp lcm
  by_cases a : x > y
  · rw [if_pos (h1.mpr a), if_pos a]; rfl
  · rw [if_neg (fun z => a (h1.mp z)), if_neg a]
    by_cases b : x = y
    · rw [if_pos (h2.mpr b), if_pos b]; rfl
    · rw [if_neg (fun z => b (h2.mp z)), if_neg b]; rfl
theorem okI_lcm (x y : Int) : okI (lcm x y) := by unfold lcm; split <;> (try split) <;> exact ⟨by decide, by decide⟩
theorem of_i2l {x : Int} (hx : okI x) : (Int32.ofInt x).toInt64 = Int64.ofInt x := by
  rw [← Int64.toInt_inj, Int32.toInt_toInt64, toI hx, toL ⟨by have := hx.1; omega, by have := hx.2; omega⟩]
theorem of_l2i (x : Int) : (Int64.ofInt x).toInt32 = Int32.ofInt x := by
  first
    | simp
    | rw [← Int32.toInt_inj, Int64.toInt_toInt32]; simp
theorem of_ix {i : Int} {n : Nat} (hn : n < 2147483648) (h0 : 0 ≤ i) (h1 : i < n) : vp_in (Int32.ofInt i) n ∧ (Int32.ofInt i).toNatClampNeg = i.toNat := by
  have e : (Int32.ofInt i).toInt = i := toI ⟨by omega, by omega⟩
  have e2 : (Int32.ofInt i).toNatClampNeg = i.toNat := by
    show (Int32.ofInt i).toInt.toNat = _
    rw [e]
  refine ⟨vp_in_iff.mpr ⟨by rw [e]; exact h0, by rw [e]; exact h1⟩, e2⟩
/-! Locals. -/
theorem beq_f {a b : Nat} (h : ¬ a = b) : Nat.beq a b = false := by
  cases hb : Nat.beq a b with
  | false => rfl
  | true => exact absurd (Nat.eq_of_beq_eq_true hb) h
def lget : List (Nat × VV) → Nat → Option VV
  | [], _ => none
  | (j, w) :: lv, i => bif Nat.beq i j then some w else bif (Nat.beq w.1 1 && Nat.beq i (j + 1)) then none else match lget lv i with
    | none => none
    | some v => bif (Nat.beq v.1 1 && Nat.beq j (i + 1)) then none else some v
def LO (E : EE) (ls : Array Slot) (nL : Nat) (lv : List (Nat × VV)) : Prop := ls.size = nL ∧ lv_wf ls ∧ ∀ i v, lget lv i = some v → ls[i]? = some (.val (cv E v)) ∧ okv v
def lhas (lv : List (Nat × VV)) : List (Nat × VV) → Prop
  | [] => True
  | q :: r => lget lv q.1 = some q.2 ∧ lhas lv r
def KL (E : EE) (nL : Nat) (lv : List (Nat × VV)) : List (Nat × Value) := (List.range nL).filterMap (fun i => (lget lv i).map (fun v => (i, cv E v)))
theorem cv_cat (E : EE) (v : VV) : (cv E v).category = if v.1 = 1 then 2 else 1 := by
  obtain ⟨t, x⟩ := v
  match t with
  | 0 => rfl
  | 1 => rfl
  | 2 => rfl
  | 3 =>
    show (wv E x).category = _
    unfold wv
    split <;> simp [Value.category]
  | n + 4 => rfl
theorem LO_has {E : EE} {ls : Array Slot} {nL : Nat} {lv : List (Nat × VV)} (h : LO E ls nL lv) : lv_has ls nL (KL E nL lv) := by
  refine ⟨h.1, h.2.1, fun q hq => ?_⟩
  obtain ⟨i, -, hi⟩ := List.mem_filterMap.mp hq
  cases hg : lget lv i with
  | none => rw [hg] at hi; cases hi
  | some v => rw [hg] at hi; cases hi; exact (h.2.2 i v hg).1
theorem KL_mem {E : EE} {ls : Array Slot} {nL : Nat} {lv : List (Nat × VV)} (h : LO E ls nL lv) {i : Nat} {v : VV} (hg : lget lv i = some v) : (i, cv E v) ∈ KL E nL lv := by
  have hlt : i < nL := by
    have h1 := lv_lt (h.2.2 i v hg).1
    rw [h.1] at h1
    exact h1
  refine List.mem_filterMap.mpr ⟨i, List.mem_range.mpr hlt, by rw [hg]; rfl⟩
theorem LO_store1 {E : EE} {ls ls' : Array Slot} {nL i : Nat} {lv : List (Nat × VV)} {v : VV} (h : LO E ls nL lv) (hv : v.1 ≠ 1) (ok : okv v)
    (h' : lv_has ls' nL ((i, cv E v) :: (KL E nL lv).filter (fun q => !(q.1 == i) && !(q.1 + 1 == i && q.2.category == 2)))) : LO E ls' nL ((i, v) :: lv) := by
  refine ⟨h'.1, h'.2.1, fun j w hj => ?_⟩
  simp only [lget] at hj
  by_cases hij : j = i
  · subst hij
    simp at hj
    subst hj
    exact ⟨h'.2.2 (j, cv E v) List.mem_cons_self, ok⟩
  · have e1 : Nat.beq j i = false := beq_f hij
    have e2 : Nat.beq v.1 1 = false := beq_f hv
    rw [e1, e2] at hj
    simp only [cond_false, Bool.false_and] at hj
    cases hg : lget lv j with
    | none => rw [hg] at hj; cases hj
    | some w2 =>
      rw [hg] at hj
      simp only at hj
      cases hc : (Nat.beq w2.1 1 && Nat.beq i (j + 1)) with
      | true => rw [hc] at hj; cases hj
      | false =>
        rw [hc] at hj
        simp only [cond_false] at hj
        cases hj
        refine ⟨h'.2.2 (j, cv E w) (List.mem_cons_of_mem _ (List.mem_filter.mpr ⟨KL_mem h hg, ?_⟩)), (h.2.2 j w hg).2⟩
        simp only [cv_cat]
        simp only [Bool.and_eq_false_iff] at hc
        have e3 : (j == i) = false := by simpa using hij
        rw [e3]
        rcases hc with hc | hc
        · have : w.1 ≠ 1 := fun z => by rw [z] at hc; cases hc
          simp [this]
        · have : ¬ i = j + 1 := fun z => by rw [z] at hc; simp at hc
          have : ¬ j + 1 = i := fun z => this z.symm
          simp [this]
theorem LO_store2 {E : EE} {ls ls' : Array Slot} {nL i : Nat} {lv : List (Nat × VV)} {v : VV} (h : LO E ls nL lv) (hv : v.1 = 1) (ok : okv v)
    (h' : lv_has ls' nL ((i, cv E v) :: (KL E nL lv).filter (fun q => !(q.1 == i) && (!(q.1 == i + 1) && !(q.1 + 1 == i && q.2.category == 2))))) : LO E ls' nL ((i, v) :: lv) := by
  refine ⟨h'.1, h'.2.1, fun j w hj => ?_⟩
  simp only [lget] at hj
  by_cases hij : j = i
  · subst hij
    simp at hj
    subst hj
    exact ⟨h'.2.2 (j, cv E v) List.mem_cons_self, ok⟩
  · have e1 : Nat.beq j i = false := beq_f hij
    have e2 : Nat.beq v.1 1 = true := by simpa using hv
    rw [e1, e2] at hj
    simp only [cond_false, Bool.true_and] at hj
    by_cases hj1 : j = i + 1
    · subst hj1
      simp at hj
    have e4 : Nat.beq j (i + 1) = false := beq_f hj1
    rw [e4] at hj
    simp only [cond_false] at hj
    cases hg : lget lv j with
    | none => rw [hg] at hj; cases hj
    | some w2 =>
      rw [hg] at hj
      simp only at hj
      cases hc : (Nat.beq w2.1 1 && Nat.beq i (j + 1)) with
      | true => rw [hc] at hj; cases hj
      | false =>
        rw [hc] at hj
        simp only [cond_false] at hj
        cases hj
        refine ⟨h'.2.2 (j, cv E w) (List.mem_cons_of_mem _ (List.mem_filter.mpr ⟨KL_mem h hg, ?_⟩)), (h.2.2 j w hg).2⟩
        simp only [cv_cat]
        simp only [Bool.and_eq_false_iff] at hc
        have e3 : (j == i) = false := by simpa using hij
        have e5 : (j == i + 1) = false := by simpa using hj1
        rw [e3, e5]
        rcases hc with hc | hc
        · have : w.1 ≠ 1 := fun z => by rw [z] at hc; cases hc
          simp [this]
        · have : ¬ i = j + 1 := fun z => by rw [z] at hc; simp at hc
          have : ¬ j + 1 = i := fun z => this z.symm
          simp [this]
theorem lhas_get {lv lv' : List (Nat × VV)} (h : lhas lv lv') : ∀ i v, lget lv' i = some v → lget lv i = some v := by
  induction lv' with
  | nil => intro i v hv; cases hv
  | cons q r ih =>
    obtain ⟨j, w⟩ := q
    intro i v hv
    simp only [lget] at hv
    by_cases hij : i = j
    · subst hij
      simp at hv
      subst hv
      exact h.1
    · have e1 : Nat.beq i j = false := beq_f hij
      rw [e1] at hv
      simp only [cond_false] at hv
      cases hc : (Nat.beq w.1 1 && Nat.beq i (j + 1)) with
      | true => rw [hc] at hv; cases hv
      | false =>
        rw [hc] at hv
        simp only [cond_false] at hv
        cases hg : lget r i with
        | none => rw [hg] at hv; cases hv
        | some w2 =>
          rw [hg] at hv
          simp only at hv
          cases hc2 : (Nat.beq w2.1 1 && Nat.beq j (i + 1)) with
          | true => rw [hc2] at hv; cases hv
          | false => rw [hc2] at hv; simp only [cond_false] at hv; cases hv; exact ih h.2 i v hg
theorem LO_sub {E : EE} {ls : Array Slot} {nL : Nat} {lv lv' : List (Nat × VV)} (h : LO E ls nL lv) (hs : lhas lv lv') : LO E ls nL lv' := ⟨h.1, h.2.1, fun i v hv => h.2.2 i v (lhas_get hs i v hv)⟩
