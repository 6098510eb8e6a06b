/-! The raw world, while the two objects are being made: cells 0 .. mN mem - 1 exist, every reference is in the memory. -/
def mN (mem : Mm) : Nat := (mem 1000 0).toNat
def cS : Nat → Nat
  | 0 => 0
  | n + 1 => cS n + (ly_k n).2
theorem cS_mono {a b : Nat} (h : a ≤ b) : cS a ≤ cS b := by
  induction b with
  | zero => rw [show a = 0 by omega]; exact Nat.le_refl _
  | succ b ih =>
    by_cases e : a = b + 1
    · rw [e]; exact Nat.le_refl _
    · exact Nat.le_trans (ih (by omega)) (Nat.le_add_right _ _)
def rfR (E : EE) (x : Int) : Option Nat := if x < 0 then none else some (eB E + x.toNat)
def fvR (E : EE) (t : Nat) (x : Int) : Value := match t with
  | 0 => .int (Int32.ofInt x)
  | 1 => .long (Int64.ofInt x)
  | 3 => wv E x
  | 4 => .int (Int32.ofInt x)
  | _ => va_rf (rfR E x)
def rowR (E : EE) (ci : Nat) (row : Nat → Int) : List Value := (List.range (ly_tg ci).length).map (fun j => fvR E ((ly_tg ci).getD j (5, 0)).1 (row j))
def entAR (E : EE) (kd n : Nat) (row : Nat → Int) : vp_A := (n, match kd with
  | 13 => .inr (.inl (fun j => Int64.ofInt (row j)))
  | 16 => .inr (.inr (.inr (.inr (fun j => rfR E (row j)))))
  | 17 => .inr (.inr (.inr (.inr (fun j => rfR E (row j)))))
  | 18 => .inr (.inr (.inr (.inr (fun j => rfR E (row j)))))
  | _ => .inl (fun j => Int32.ofInt (row j)))
def entR (E : EE) (k : Nat) (row : Nat → Int) : va_E := if (ly_k k).1 < 12 then .inr ((ly_k k).1, rowR E (ly_k k).1 row) else .inl (eA E (ly_k k).1, entAR E (ly_k k).1 (ly_k k).2 row)
def wR (E : EE) (mem : Mm) : va_W := (List.range (mN mem)).map (fun k => (eB E + k, entR E k (mem k)))
def Wc (E : EE) (mem : Mm) (H : Heap) : Prop := va_P (eD E) ly_cl (wR E mem) H ∧ okm mem ∧ mN mem ≤ 261
def mnw (mem : Mm) (d : Nat → Int) : Mm := fun b j => if b = 1000 then (if j = 0 then (mN mem : Int) + 1 else mem 1000 j) else if b = mN mem then d j else mem b j
def dfO (ci : Nat) : Nat → Int := fun j => match ((ly_tg ci).getD j (0, 0)).1 with
  | 0 => 0
  | 1 => 0
  | 4 => 0
  | _ => -1
theorem mN_nw (mem : Mm) (d : Nat → Int) : mN (mnw mem d) = mN mem + 1 := by
  show (mnw mem d 1000 0).toNat = _
  simp only [mnw, if_true]
  omega
theorem mN_st {mem : Mm} {a i : Nat} {x : Int} (h : a < 1000) : mN (mst mem a i x) = mN mem := by
  unfold mN mst
  rw [if_neg (by omega)]
theorem wR_get {E : EE} {mem : Mm} {k : Nat} (h : k < mN mem) : (wR E mem)[k]? = some (eB E + k, entR E k (mem k)) := by
  simp [wR, List.getElem?_map, List.getElem?_range h]
theorem wR_len {E : EE} {mem : Mm} : (wR E mem).length = mN mem := by simp [wR]
theorem wR_set {E : EE} {mem mem' : Mm} {k : Nat} {en : va_E} (hN : mN mem' = mN mem) (h : k < mN mem) (he : en = entR E k (mem' k)) (ho : ∀ b, b ≠ k → b < 1000 → mem' b = mem b) (h261 : mN mem ≤ 261) : (wR E mem).set k (eB E + k, en) = wR E mem' := by
  apply List.ext_getElem?
  intro i
  by_cases hi : i < mN mem
  · rw [wR_get (mem := mem') (by omega)]
    by_cases hk : i = k
    · subst hk
      rw [List.getElem?_set_self (by rw [wR_len]; exact h), he]
    · rw [List.getElem?_set_ne (fun q => hk q.symm), wR_get hi, ho i hk (by omega)]
  · rw [List.getElem?_eq_none (by rw [List.length_set, wR_len]; omega), List.getElem?_eq_none (by rw [wR_len]; omega)]
theorem wR_D {E : EE} {mem : Mm} : va_D (nw E) (wR E mem) := by
  have key : ∀ (k : Nat) (q : Nat × va_E), (wR E mem)[k]? = some q → q.1 = eB E + k := by
    intro k q hk
    have hlt := (List.getElem?_eq_some_iff.mp hk).1
    rw [wR_len] at hlt
    rw [wR_get hlt] at hk
    cases hk
    rfl
  refine ⟨fun i j p q hp hq e => ?_, fun k q hk => ?_⟩
  · rw [key i p hp, key j q hq] at e
    omega
  · show eB E ≤ q.1
    rw [key k q hk]
    omega
theorem entR_obj {E : EE} {a ci n : Nat} {row : Nat → Int} (h : ly_k a = (ci, n)) (hc : ci < 12) : entR E a row = .inr (ci, rowR E ci row) := by
  simp only [entR, h, hc, if_true]
theorem entR_arr {E : EE} {a kd n : Nat} {row : Nat → Int} (h : ly_k a = (kd, n)) (hc : ¬ kd < 12) : entR E a row = .inl (eA E kd, entAR E kd n row) := by
  simp only [entR, h, hc, if_false]
theorem rowR_get {E : EE} {ci j : Nat} {row : Nat → Int} {t : Nat × Int} (h : (ly_tg ci)[j]? = some t) : (rowR E ci row)[j]? = some (fvR E t.1 (row j)) := by
  have hlt := (List.getElem?_eq_some_iff.mp h).1
  simp [rowR, List.getElem?_map, List.getElem?_range hlt, h]
theorem rowR_len {E : EE} {ci : Nat} {row : Nat → Int} : (rowR E ci row).length = (ly_tg ci).length := by simp [rowR]
theorem rowR_set {E : EE} {a ci j : Nat} {mem : Mm} {x : Int} {t : Nat × Int} (h : (ly_tg ci)[j]? = some t) : (rowR E ci (mem a)).set j (fvR E t.1 x) = rowR E ci (mst mem a j x a) := by
  have hlt := (List.getElem?_eq_some_iff.mp h).1
  apply List.ext_getElem?
  intro i
  by_cases hi : i < (ly_tg ci).length
  · obtain ⟨t2, ht2⟩ : ∃ t2, (ly_tg ci)[i]? = some t2 := ⟨_, List.getElem?_eq_getElem hi⟩
    rw [rowR_get ht2]
    by_cases hk : i = j
    · subst hk
      rw [List.getElem?_set_self (by rw [rowR_len]; exact hlt)]
      cases h.symm.trans ht2
      rw [mst_at]
    · rw [List.getElem?_set_ne (fun q => hk q.symm), rowR_get ht2]
      simp [mst, hk]
  · rw [List.getElem?_eq_none (by rw [List.length_set, rowR_len]; omega), List.getElem?_eq_none (by rw [rowR_len]; omega)]
theorem wR_nw {E : EE} {mem : Mm} {d : Nat → Int} (h : mN mem ≤ 261) : wR E (mnw mem d) = wR E mem ++ [(eB E + mN mem, entR E (mN mem) d)] := by
  apply List.ext_getElem?
  intro i
  have hrow : ∀ b, b < 1000 → b ≠ mN mem → mnw mem d b = mem b := fun b h1 h2 => by funext j; simp only [mnw]; rw [if_neg (by omega), if_neg h2]
  by_cases hi : i < mN mem
  · rw [wR_get (by rw [mN_nw]; omega), List.getElem?_append_left (by rw [wR_len]; exact hi), wR_get hi, hrow i (by omega) (by omega)]
  · by_cases he : i = mN mem
    · subst he
      rw [wR_get (by rw [mN_nw]; omega), List.getElem?_append_right (by rw [wR_len]; exact Nat.le_refl _), wR_len, Nat.sub_self]
      have : mnw mem d (mN mem) = d := by funext j; simp only [mnw]; rw [if_neg (by omega), if_true]
      rw [this]; rfl
    · rw [List.getElem?_eq_none (by rw [wR_len, mN_nw]; omega), List.getElem?_eq_none (by rw [List.length_append, wR_len]; simp; omega)]
theorem okm_nw {mem : Mm} {d : Nat → Int} (h : okm mem) (h261 : mN mem ≤ 261) (hd : ∀ j, okc (ly_k (mN mem)) j (d j)) : okm (mnw mem d) := by
  intro k j
  unfold mnw
  split
  · next hk =>
    have : ly_k k = (99, 0) := by rw [hk]; decide +kernel
    rw [this]
    exact trivial
  · split
    · next hk => rw [hk]; exact hd j
    · exact h k j
def rmC (d c s : Nat) : Room := { frames := d, cells := c, slots := s, locals := 40 * d }
def AO3 (U : State) : Prop := va_AO "HillClock$Walker" U ∧ va_AO "HillClock$Standing" U ∧ va_AO "HillClock$State" U
theorem AO3.moved {u U : State} (hvm : u.vm.Alike U.vm) (h : AO3 u) : AO3 U := ⟨va_AO.moved hvm h.1, va_AO.moved hvm h.2.1, va_AO.moved hvm h.2.2⟩
def FrK (E : EE) (M : MT) (n0 tN : Nat) (p : Program) (R : Room) (s : State) (m : MethodId) (args : Array Value) (meth : Method) (c : Code) : Prop :=
  p.tables.exec = Jvm.exec ∧ c.code = M.2.1 ∧ c.maxLocals = M.2.2.1 ∧ meth.sig.returnType = M.2.2.2.1 ∧ s.vm.findClass M.1 = some m.cls ∧ (∀ w ∈ TBL, w.before args s = true) ∧ meth.locks = false ∧ EV E s ∧ R = rmC M.2.2.2.2 (tN - n0) (cS tN - cS n0) ∧ s.heap.size = eB E + n0 ∧ AO3 s
def QC (E : EE) (tN : Nat) (ret : Option FieldType) (r : Int) (mem' : Mm) : Array Value → State → Outcome → State → Prop := fun _ st oc t => oc = .returned (rv ret r) ∧ okr ret r ∧ Wc E mem' t.heap ∧ va_F (nw E) st t ∧ mN mem' = tN
def RC (E : EE) (n0 tN : Nat) (nm : String) (M : MT) (o : Res) (pc : Nat) (lv : List (Nat × VV)) (st : List VV) (mem : Mm) : Prop :=
  ∀ r mem', o = some (r, mem') → ∀ (p : Program) (e : Env) (R : Room) (s : State) (m : MethodId) (args : Array Value) (below : List Frame) (meth : Method) (c : Code), FrK E M n0 tN p R s m args meth c → meth.name = nm →
    ∀ (H : Heap) (locs : List Loc) (ls : Array Slot), LO E ls M.2.2.1 lv → okS st → Wc E mem H → n0 ≤ mN mem → va_S (nw E) s.heap H locs →
      W p (eL E) e R s m args below meth c H locs (mN mem - n0) (cS (mN mem) - cS n0) (MQ below (QC E tN M.2.2.2.1 r mem') args s (tN - n0) (cS tN - cS n0) (nw E)) (F0 m pc ls (st.map (cv E)))
def MetC (E : EE) (n0 tN : Nat) (d : Nat) (y : MethodName) (bytes : ByteArray) (maxL : Nat) (ret : Option FieldType) (as : List VV) (mem : Mm) (r : Int) (mem' : Mm) : Prop :=
  Met (eL E) y (.code y bytes maxL ret :: TBL) (rmC d (tN - n0) (cS tN - cS n0)) (va_Pc (as.map (cv E)) (fun U => okS as ∧ Wc E mem U.heap ∧ EV E U ∧ mN mem = n0 ∧ U.heap.size = eB E + n0 ∧ AO3 U)) (QC E tN ret r mem') (tN - n0) (cS tN - cS n0) (nw E)
section RowsC
variable {E : EE} {n0 tN : Nat} {nm : String} {M : MT} {o o1 o2 : Res} {pc : Nat} {lv : List (Nat × VV)} {st : List VV} {mem : Mm}
/-- one instruction that leaves the memory -/
theorem RC_go {pc' : Nat} {st' : List VV} {lv' : List (Nat × VV)}
    (h : ∀ (p : Program) (e : Env) (R : Room) (s : State) (m : MethodId) (args : Array Value) (below : List Frame) (meth : Method) (c : Code) (H : Heap) (locs : List Loc) (ls : Array Slot) (Q : State → Prop), FrK E M n0 tN p R s m args meth c → LO E ls M.2.2.1 lv → okS st → Wc E mem H → va_S (nw E) s.heap H locs →
      (∀ ls' : Array Slot, LO E ls' M.2.2.1 lv' → okS st' → W p (eL E) e R s m args below meth c H locs (mN mem - n0) (cS (mN mem) - cS n0) Q (F0 m pc' ls' (st'.map (cv E)))) → W p (eL E) e R s m args below meth c H locs (mN mem - n0) (cS (mN mem) - cS n0) Q (F0 m pc ls (st.map (cv E))))
    (k : RC E n0 tN nm M o pc' lv' st' mem) : RC E n0 tN nm M o pc lv st mem :=
  fun r mem' ho p e R s m args below meth c hF hnm H locs ls hL hs hw hn0 hS => h p e R s m args below meth c H locs ls _ hF hL hs hw hS (fun ls' hL' hs' => k r mem' ho p e R s m args below meth c hF hnm H locs ls' hL' hs' hw hn0 hS)
/-- the same place, with fewer locals told -/
theorem RC_sub {lv' : List (Nat × VV)} (hl : lhas lv lv') (k : RC E n0 tN nm M o pc lv' st mem) : RC E n0 tN nm M o pc lv st mem :=
  fun r mem' ho p e R s m args below meth c hF hnm H locs ls hL hs hw hn0 hS => k r mem' ho p e R s m args below meth c hF hnm H locs ls (LO_sub hL hl) hs hw hn0 hS
theorem RC_none : RC E n0 tN nm M none pc lv st mem := fun r mem' ho => by cases ho
theorem RC_chk {c : Prop} {inst : Decidable c} (k : c → RC E n0 tN nm M o pc lv st mem) : RC E n0 tN nm M (@ite _ c inst o none) pc lv st mem := by
  by_cases h : c
  · rw [if_pos h]; exact k h
  · rw [if_neg h]; exact RC_none
theorem RC_bnM {e : Mm} {k : Mm → Res} (h : ∀ x, RC E n0 tN nm M (k x) pc lv st x) : RC E n0 tN nm M (bn e k) pc lv st e := h e
theorem RC_bnT {e : Int} {t : Nat} {k : Int → Res} (h : ∀ x, RC E n0 tN nm M (k x) pc lv ((t, x) :: st) mem) : RC E n0 tN nm M (bn e k) pc lv ((t, e) :: st) mem := h e
theorem RC_eq {pc' : Nat} (h : pc = pc') (k : RC E n0 tN nm M o pc' lv st mem) : RC E n0 tN nm M o pc lv st mem := h ▸ k
theorem RC_iconst {n : Int} (hd : decode M.2.1 pc = .ok (.iconst n, 1)) (k : RC E n0 tN nm M o (pc + 1) lv (vi n :: st) mem) (hn : okI n := by exact ⟨by decide, by decide⟩) : RC E n0 tN nm M o pc lv st mem :=
  RC_go (fun p e R s m args below meth c H locs ls Q hF hL hs hw hS kk => lv_iconst hF.1 hF.2.1 hd rfl (kk ls hL (okS_i hn hs))) k
theorem RC_bipush {n : Int} (hd : decode M.2.1 pc = .ok (.bipush n, 2)) (k : RC E n0 tN nm M o (pc + 2) lv (vi n :: st) mem) (hn : okI n ∧ (Int8.ofInt n).toInt32 = Int32.ofInt n := by exact ⟨⟨by decide, by decide⟩, by decide⟩) : RC E n0 tN nm M o pc lv st mem :=
  RC_go (fun p e R s m args below meth c H locs ls Q hF hL hs hw hS kk => lv_bipush hF.1 hF.2.1 hd hn.2 (kk ls hL (okS_i hn.1 hs))) k
theorem RC_sipush {n : Int} (hd : decode M.2.1 pc = .ok (.sipush n, 3)) (k : RC E n0 tN nm M o (pc + 3) lv (vi n :: st) mem) (hn : okI n ∧ (Int16.ofInt n).toInt32 = Int32.ofInt n := by exact ⟨⟨by decide, by decide⟩, by decide⟩) : RC E n0 tN nm M o pc lv st mem :=
  RC_go (fun p e R s m args below meth c H locs ls Q hF hL hs hw hS kk => lv_sipush hF.1 hF.2.1 hd hn.2 (kk ls hL (okS_i hn.1 hs))) k
theorem RC_lconst {n : Fin 2} {x : Int} (hd : decode M.2.1 pc = .ok (.lconst n, 1)) (hx : Int64.ofNat (n : Nat) = Int64.ofInt x ∧ okL x) (k : RC E n0 tN nm M o (pc + 1) lv (vl x :: st) mem) : RC E n0 tN nm M o pc lv st mem :=
  RC_go (fun p e R s m args below meth c H locs ls Q hF hL hs hw hS kk => lv_lconst hF.1 hF.2.1 hd hx.1 (kk ls hL (okS_l hx.2 hs))) k
theorem RC_ldc {idx : Nat} {v : Int32} {x : Int} (hw0 : Cond.constant M.1 idx v ∈ TBL) (hx : v = Int32.ofInt x ∧ okI x) (hd : decode M.2.1 pc = .ok (.ldc idx, 2)) (k : RC E n0 tN nm M o (pc + 2) lv (vi x :: st) mem) : RC E n0 tN nm M o pc lv st mem :=
  RC_go (fun p e R s m args below meth c H locs ls Q hF hL hs hw hS kk => by
    refine lv_ldc hF.1 hF.2.1 hF.2.2.2.2.1 (hF.2.2.2.2.2.1 _ hw0) hd ?_
    rw [hx.1]
    exact kk ls hL (okS_c hx.2 hs)) k
theorem RC_ldcw {idx : Nat} {v : Int32} {x : Int} (hw0 : Cond.constant M.1 idx v ∈ TBL) (hx : v = Int32.ofInt x ∧ okI x) (hd : decode M.2.1 pc = .ok (.ldc_w idx, 3)) (k : RC E n0 tN nm M o (pc + 3) lv (vi x :: st) mem) : RC E n0 tN nm M o pc lv st mem :=
  RC_go (fun p e R s m args below meth c H locs ls Q hF hL hs hw hS kk => by
    refine lv_ldcw hF.1 hF.2.1 hF.2.2.2.2.1 (hF.2.2.2.2.2.1 _ hw0) hd ?_
    rw [hx.1]
    exact kk ls hL (okS_c hx.2 hs)) k
theorem RC_ldc2 {idx : Nat} {v : Int64} {x : Int} (hw0 : Cond.constantLong M.1 idx v ∈ TBL) (hx : v = Int64.ofInt x ∧ okL x) (hd : decode M.2.1 pc = .ok (.ldc2_w idx, 3)) (k : RC E n0 tN nm M o (pc + 3) lv (vl x :: st) mem) : RC E n0 tN nm M o pc lv st mem :=
  RC_go (fun p e R s m args below meth c H locs ls Q hF hL hs hw hS kk => by
    refine lv_ldc2 hF.1 hF.2.1 hF.2.2.2.2.1 (hF.2.2.2.2.2.1 _ hw0) hd ?_
    rw [hx.1]
    exact kk ls hL (okS_c hx.2 hs)) k
theorem RC_iload_n {j : Fin 4} {i : Nat} {x : Int} (hd : decode M.2.1 pc = .ok (.iload_n j, 1)) (hi : (j : Nat) = i) (hg : lget lv i = some (vi x)) (k : RC E n0 tN nm M o (pc + 1) lv (vi x :: st) mem) : RC E n0 tN nm M o pc lv st mem :=
  RC_go (fun p e R s m args below meth c H locs ls Q hF hL hs hw hS kk => lv_iload_n hF.1 hF.2.1 hd hi (hL.2.2 _ _ hg).1 (kk ls hL (okS_c (hL.2.2 _ _ hg).2 hs))) k
theorem RC_iload {i : Nat} {x : Int} (hd : decode M.2.1 pc = .ok (.iload i, 2)) (hg : lget lv i = some (vi x)) (k : RC E n0 tN nm M o (pc + 2) lv (vi x :: st) mem) : RC E n0 tN nm M o pc lv st mem :=
  RC_go (fun p e R s m args below meth c H locs ls Q hF hL hs hw hS kk => lv_iload hF.1 hF.2.1 hd (hL.2.2 _ _ hg).1 (kk ls hL (okS_c (hL.2.2 _ _ hg).2 hs))) k
theorem RC_lload_n {j : Fin 4} {i : Nat} {x : Int} (hd : decode M.2.1 pc = .ok (.lload_n j, 1)) (hi : (j : Nat) = i) (hg : lget lv i = some (vl x)) (k : RC E n0 tN nm M o (pc + 1) lv (vl x :: st) mem) : RC E n0 tN nm M o pc lv st mem :=
  RC_go (fun p e R s m args below meth c H locs ls Q hF hL hs hw hS kk => lv_lload_n hF.1 hF.2.1 hd hi (hL.2.2 _ _ hg).1 (kk ls hL (okS_c (hL.2.2 _ _ hg).2 hs))) k
theorem RC_lload {i : Nat} {x : Int} (hd : decode M.2.1 pc = .ok (.lload i, 2)) (hg : lget lv i = some (vl x)) (k : RC E n0 tN nm M o (pc + 2) lv (vl x :: st) mem) : RC E n0 tN nm M o pc lv st mem :=
  RC_go (fun p e R s m args below meth c H locs ls Q hF hL hs hw hS kk => lv_lload hF.1 hF.2.1 hd (hL.2.2 _ _ hg).1 (kk ls hL (okS_c (hL.2.2 _ _ hg).2 hs))) k
theorem RC_aload_n {j : Fin 4} {i : Nat} {a : Nat} (hd : decode M.2.1 pc = .ok (.aload_n j, 1)) (hi : (j : Nat) = i) (hg : lget lv i = some (rf a)) (k : RC E n0 tN nm M o (pc + 1) lv (rf a :: st) mem) : RC E n0 tN nm M o pc lv st mem :=
  RC_go (fun p e R s m args below meth c H locs ls Q hF hL hs hw hS kk => lv_aload_n hF.1 hF.2.1 hd hi (hL.2.2 _ _ hg).1 (kk ls hL (okS_c (hL.2.2 _ _ hg).2 hs))) k
theorem RC_aload {i : Nat} {a : Nat} (hd : decode M.2.1 pc = .ok (.aload i, 2)) (hg : lget lv i = some (rf a)) (k : RC E n0 tN nm M o (pc + 2) lv (rf a :: st) mem) : RC E n0 tN nm M o pc lv st mem :=
  RC_go (fun p e R s m args below meth c H locs ls Q hF hL hs hw hS kk => lv_aload hF.1 hF.2.1 hd (hL.2.2 _ _ hg).1 (kk ls hL (okS_c (hL.2.2 _ _ hg).2 hs))) k
theorem RC_wload_n {j : Fin 4} {i : Nat} {x : Int} (hd : decode M.2.1 pc = .ok (.aload_n j, 1)) (hi : (j : Nat) = i) (hg : lget lv i = some (vw x)) (k : RC E n0 tN nm M o (pc + 1) lv (vw x :: st) mem) : RC E n0 tN nm M o pc lv st mem :=
  RC_go (fun p e R s m args below meth c H locs ls Q hF hL hs hw hS kk => by
    have h1 := (hL.2.2 _ _ hg).1
    have h2 := kk ls hL (okS_c (hL.2.2 _ _ hg).2 hs)
    change ls[i]? = some (.val (wv E x)) at h1
    change W p (eL E) e R s m args below meth c H locs (mN mem - n0) (cS (mN mem) - cS n0) Q (F0 m (pc + 1) ls (wv E x :: st.map (cv E))) at h2
    rcases wv_or E x with ⟨-, e1⟩ | ⟨-, e1⟩
    · rw [e1] at h1 h2
      exact lv_aload_nN hF.1 hF.2.1 hd hi h1 h2
    · rw [e1] at h1 h2
      exact lv_aload_n hF.1 hF.2.1 hd hi h1 h2) k
theorem RC_istore_n {j : Fin 4} {i : Nat} {x : Int} (hd : decode M.2.1 pc = .ok (.istore_n j, 1)) (hi : (j : Nat) = i) (hn : i < M.2.2.1) (k : RC E n0 tN nm M o (pc + 1) ((i, vi x) :: lv) st mem) : RC E n0 tN nm M o pc lv (vi x :: st) mem :=
  RC_go (fun p e R s m args below meth c H locs ls Q hF hL hs hw hS kk => lv_istore_n hF.1 hF.2.1 hd hi (LO_has hL) hn rfl (fun ls' h' => kk ls' (LO_store1 (v := vi x) hL (by show (0 : Nat) ≠ 1; decide) (okS_h hs) h') (okS_t hs))) k
theorem RC_istore {i : Nat} {x : Int} (hd : decode M.2.1 pc = .ok (.istore i, 2)) (hn : i < M.2.2.1) (k : RC E n0 tN nm M o (pc + 2) ((i, vi x) :: lv) st mem) : RC E n0 tN nm M o pc lv (vi x :: st) mem :=
  RC_go (fun p e R s m args below meth c H locs ls Q hF hL hs hw hS kk => lv_istore hF.1 hF.2.1 hd (LO_has hL) hn rfl (fun ls' h' => kk ls' (LO_store1 (v := vi x) hL (by show (0 : Nat) ≠ 1; decide) (okS_h hs) h') (okS_t hs))) k
theorem RC_astore_n {j : Fin 4} {i : Nat} {a : Nat} (hd : decode M.2.1 pc = .ok (.astore_n j, 1)) (hi : (j : Nat) = i) (hn : i < M.2.2.1) (k : RC E n0 tN nm M o (pc + 1) ((i, rf a) :: lv) st mem) : RC E n0 tN nm M o pc lv (rf a :: st) mem :=
  RC_go (fun p e R s m args below meth c H locs ls Q hF hL hs hw hS kk => lv_astore_n hF.1 hF.2.1 hd hi (LO_has hL) hn rfl (fun ls' h' => kk ls' (LO_store1 (v := rf a) hL (by show (2 : Nat) ≠ 1; decide) (okS_h hs) h') (okS_t hs))) k
theorem RC_astore {i : Nat} {a : Nat} (hd : decode M.2.1 pc = .ok (.astore i, 2)) (hn : i < M.2.2.1) (k : RC E n0 tN nm M o (pc + 2) ((i, rf a) :: lv) st mem) : RC E n0 tN nm M o pc lv (rf a :: st) mem :=
  RC_go (fun p e R s m args below meth c H locs ls Q hF hL hs hw hS kk => lv_astore hF.1 hF.2.1 hd (LO_has hL) hn rfl (fun ls' h' => kk ls' (LO_store1 (v := rf a) hL (by show (2 : Nat) ≠ 1; decide) (okS_h hs) h') (okS_t hs))) k
theorem RC_wstore_n {j : Fin 4} {i : Nat} {x : Int} (hd : decode M.2.1 pc = .ok (.astore_n j, 1)) (hi : (j : Nat) = i) (hn : i < M.2.2.1) (k : RC E n0 tN nm M o (pc + 1) ((i, vw x) :: lv) st mem) : RC E n0 tN nm M o pc lv (vw x :: st) mem :=
  RC_go (fun p e R s m args below meth c H locs ls Q hF hL hs hw hS kk => by
    have hk : ∀ ls' : Array Slot, lv_has ls' M.2.2.1 ((i, wv E x) :: (KL E M.2.2.1 lv).filter (fun q => !(q.1 == i) && !(q.1 + 1 == i && q.2.category == 2))) → W p (eL E) e R s m args below meth c H locs (mN mem - n0) (cS (mN mem) - cS n0) Q (F0 m (pc + 1) ls' (st.map (cv E))) := fun ls' h' => kk ls' (LO_store1 (v := vw x) hL (by show (3 : Nat) ≠ 1; decide) (okS_h hs) h') (okS_t hs)
    show W p (eL E) e R s m args below meth c H locs (mN mem - n0) (cS (mN mem) - cS n0) Q (F0 m pc ls (wv E x :: st.map (cv E)))
    rcases wv_or E x with ⟨-, e1⟩ | ⟨-, e1⟩
    · rw [e1] at hk ⊢
      exact lv_astore_nN hF.1 hF.2.1 hd hi (LO_has hL) hn rfl hk
    · rw [e1] at hk ⊢
      exact lv_astore_n hF.1 hF.2.1 hd hi (LO_has hL) hn rfl hk) k
theorem RC_lstore_n {j : Fin 4} {i : Nat} {x : Int} (hd : decode M.2.1 pc = .ok (.lstore_n j, 1)) (hi : (j : Nat) = i) (hn : i + 1 < M.2.2.1) (k : RC E n0 tN nm M o (pc + 1) ((i, vl x) :: lv) st mem) : RC E n0 tN nm M o pc lv (vl x :: st) mem :=
  RC_go (fun p e R s m args below meth c H locs ls Q hF hL hs hw hS kk => lv_lstore_n hF.1 hF.2.1 hd hi (LO_has hL) hn rfl (fun ls' h' => kk ls' (LO_store2 (v := vl x) hL rfl (okS_h hs) h') (okS_t hs))) k
theorem RC_lstore {i : Nat} {x : Int} (hd : decode M.2.1 pc = .ok (.lstore i, 2)) (hn : i + 1 < M.2.2.1) (k : RC E n0 tN nm M o (pc + 2) ((i, vl x) :: lv) st mem) : RC E n0 tN nm M o pc lv (vl x :: st) mem :=
  RC_go (fun p e R s m args below meth c H locs ls Q hF hL hs hw hS kk => lv_lstore hF.1 hF.2.1 hd (LO_has hL) hn rfl (fun ls' h' => kk ls' (LO_store2 (v := vl x) hL rfl (okS_h hs) h') (okS_t hs))) k
theorem RC_iinc {i : Nat} {n x : Int} (hd : decode M.2.1 pc = .ok (.iinc i n, 3)) (hg : lget lv i = some (vi x)) (hn : i < M.2.2.1) (k : RC E n0 tN nm M o (pc + 3) ((i, vi (w32 (x + n))) :: lv) st mem) : RC E n0 tN nm M o pc lv st mem :=
  RC_go (fun p e R s m args below meth c H locs ls Q hF hL hs hw hS kk => by
    obtain ⟨q, hq⟩ := List.mem_iff_getElem?.mp (KL_mem hL hg)
    exact lv_iinc (k := q) hF.1 hF.2.1 hd (LO_has hL) hq (of_add x n) hn rfl (fun ls' h' => kk ls' (LO_store1 (v := vi (w32 (x + n))) hL (by show (0 : Nat) ≠ 1; decide) (okI_w _) h') hs)) k
theorem RC_iadd {x y : Int} (hd : decode M.2.1 pc = .ok (.iadd, 1)) (k : RC E n0 tN nm M o (pc + 1) lv (vi (w32 (x + y)) :: st) mem) : RC E n0 tN nm M o pc lv (vi y :: vi x :: st) mem :=
  RC_go (fun p e R s m args below meth c H locs ls Q hF hL hs hw hS kk => by
    refine lv_iadd (x := Int32.ofInt x) (y := Int32.ofInt y) (rest := st.map (cv E)) hF.1 hF.2.1 hd ?_
    rw [of_add]
    exact kk ls hL (okS_i (okI_w _) (okS_t (okS_t hs)))) k
theorem RC_isub {x y : Int} (hd : decode M.2.1 pc = .ok (.isub, 1)) (k : RC E n0 tN nm M o (pc + 1) lv (vi (w32 (x - y)) :: st) mem) : RC E n0 tN nm M o pc lv (vi y :: vi x :: st) mem :=
  RC_go (fun p e R s m args below meth c H locs ls Q hF hL hs hw hS kk => by
    refine lv_isub (x := Int32.ofInt x) (y := Int32.ofInt y) (rest := st.map (cv E)) hF.1 hF.2.1 hd ?_
    rw [of_sub]
    exact kk ls hL (okS_i (okI_w _) (okS_t (okS_t hs)))) k
theorem RC_imul {x y : Int} (hd : decode M.2.1 pc = .ok (.imul, 1)) (k : RC E n0 tN nm M o (pc + 1) lv (vi (w32 (x * y)) :: st) mem) : RC E n0 tN nm M o pc lv (vi y :: vi x :: st) mem :=
  RC_go (fun p e R s m args below meth c H locs ls Q hF hL hs hw hS kk => by
    refine lv_imul (x := Int32.ofInt x) (y := Int32.ofInt y) (rest := st.map (cv E)) hF.1 hF.2.1 hd ?_
    rw [of_mul]
    exact kk ls hL (okS_i (okI_w _) (okS_t (okS_t hs)))) k
theorem RC_ladd {x y : Int} (hd : decode M.2.1 pc = .ok (.ladd, 1)) (k : RC E n0 tN nm M o (pc + 1) lv (vl (w64 (x + y)) :: st) mem) : RC E n0 tN nm M o pc lv (vl y :: vl x :: st) mem :=
  RC_go (fun p e R s m args below meth c H locs ls Q hF hL hs hw hS kk => by
    refine lv_ladd (x := Int64.ofInt x) (y := Int64.ofInt y) (rest := st.map (cv E)) hF.1 hF.2.1 hd ?_
    rw [ol_add]
    exact kk ls hL (okS_l (okL_w _) (okS_t (okS_t hs)))) k
theorem RC_lsub {x y : Int} (hd : decode M.2.1 pc = .ok (.lsub, 1)) (k : RC E n0 tN nm M o (pc + 1) lv (vl (w64 (x - y)) :: st) mem) : RC E n0 tN nm M o pc lv (vl y :: vl x :: st) mem :=
  RC_go (fun p e R s m args below meth c H locs ls Q hF hL hs hw hS kk => by
    refine lv_lsub (x := Int64.ofInt x) (y := Int64.ofInt y) (rest := st.map (cv E)) hF.1 hF.2.1 hd ?_
    rw [ol_sub]
    exact kk ls hL (okS_l (okL_w _) (okS_t (okS_t hs)))) k
theorem RC_lmul {x y : Int} (hd : decode M.2.1 pc = .ok (.lmul, 1)) (k : RC E n0 tN nm M o (pc + 1) lv (vl (w64 (x * y)) :: st) mem) : RC E n0 tN nm M o pc lv (vl y :: vl x :: st) mem :=
  RC_go (fun p e R s m args below meth c H locs ls Q hF hL hs hw hS kk => by
    refine lv_lmul (x := Int64.ofInt x) (y := Int64.ofInt y) (rest := st.map (cv E)) hF.1 hF.2.1 hd ?_
    rw [ol_mul]
    exact kk ls hL (okS_l (okL_w _) (okS_t (okS_t hs)))) k
theorem RC_iand {x y : Int} (hd : decode M.2.1 pc = .ok (.iand, 1)) (k : RC E n0 tN nm M o (pc + 1) lv (vi (iand x y) :: st) mem) : RC E n0 tN nm M o pc lv (vi y :: vi x :: st) mem :=
  RC_go (fun p e R s m args below meth c H locs ls Q hF hL hs hw hS kk => by
    refine lv_iand (x := Int32.ofInt x) (y := Int32.ofInt y) (rest := st.map (cv E)) hF.1 hF.2.1 hd ?_
    rw [← Int32.ofInt_toInt (Int32.ofInt x &&& Int32.ofInt y)]
    exact kk ls hL (okS_i (okI_32 _) (okS_t (okS_t hs)))) k
theorem RC_ior {x y : Int} (hd : decode M.2.1 pc = .ok (.ior, 1)) (k : RC E n0 tN nm M o (pc + 1) lv (vi (ior x y) :: st) mem) : RC E n0 tN nm M o pc lv (vi y :: vi x :: st) mem :=
  RC_go (fun p e R s m args below meth c H locs ls Q hF hL hs hw hS kk => by
    refine lv_ior (x := Int32.ofInt x) (y := Int32.ofInt y) (rest := st.map (cv E)) hF.1 hF.2.1 hd ?_
    rw [← Int32.ofInt_toInt (Int32.ofInt x ||| Int32.ofInt y)]
    exact kk ls hL (okS_i (okI_32 _) (okS_t (okS_t hs)))) k
theorem RC_ixor {x y : Int} (hd : decode M.2.1 pc = .ok (.ixor, 1)) (k : RC E n0 tN nm M o (pc + 1) lv (vi (ixor x y) :: st) mem) : RC E n0 tN nm M o pc lv (vi y :: vi x :: st) mem :=
  RC_go (fun p e R s m args below meth c H locs ls Q hF hL hs hw hS kk => by
    refine lv_ixor (x := Int32.ofInt x) (y := Int32.ofInt y) (rest := st.map (cv E)) hF.1 hF.2.1 hd ?_
    rw [← Int32.ofInt_toInt (Int32.ofInt x ^^^ Int32.ofInt y)]
    exact kk ls hL (okS_i (okI_32 _) (okS_t (okS_t hs)))) k
theorem RC_ishl {x y : Int} (hd : decode M.2.1 pc = .ok (.ishl, 1)) (k : RC E n0 tN nm M o (pc + 1) lv (vi (ishl x y) :: st) mem) : RC E n0 tN nm M o pc lv (vi y :: vi x :: st) mem :=
  RC_go (fun p e R s m args below meth c H locs ls Q hF hL hs hw hS kk => by
    refine lv_ishl (x := Int32.ofInt x) (y := Int32.ofInt y) (rest := st.map (cv E)) hF.1 hF.2.1 hd ?_
    rw [← Int32.ofInt_toInt (Int32.ofInt x <<< (Int32.ofInt y &&& 31))]
    exact kk ls hL (okS_i (okI_32 _) (okS_t (okS_t hs)))) k
theorem RC_ishr {x y : Int} (hd : decode M.2.1 pc = .ok (.ishr, 1)) (k : RC E n0 tN nm M o (pc + 1) lv (vi (ishr x y) :: st) mem) : RC E n0 tN nm M o pc lv (vi y :: vi x :: st) mem :=
  RC_go (fun p e R s m args below meth c H locs ls Q hF hL hs hw hS kk => by
    refine lv_ishr (x := Int32.ofInt x) (y := Int32.ofInt y) (rest := st.map (cv E)) hF.1 hF.2.1 hd ?_
    rw [← Int32.ofInt_toInt (Int32.ofInt x >>> (Int32.ofInt y &&& 31))]
    exact kk ls hL (okS_i (okI_32 _) (okS_t (okS_t hs)))) k
theorem RC_land {x y : Int} (hd : decode M.2.1 pc = .ok (.land, 1)) (k : RC E n0 tN nm M o (pc + 1) lv (vl (land x y) :: st) mem) : RC E n0 tN nm M o pc lv (vl y :: vl x :: st) mem :=
  RC_go (fun p e R s m args below meth c H locs ls Q hF hL hs hw hS kk => by
    refine lv_land (x := Int64.ofInt x) (y := Int64.ofInt y) (rest := st.map (cv E)) hF.1 hF.2.1 hd ?_
    rw [← Int64.ofInt_toInt (Int64.ofInt x &&& Int64.ofInt y)]
    exact kk ls hL (okS_l (okL_64 _) (okS_t (okS_t hs)))) k
theorem RC_lor {x y : Int} (hd : decode M.2.1 pc = .ok (.lor, 1)) (k : RC E n0 tN nm M o (pc + 1) lv (vl (lor x y) :: st) mem) : RC E n0 tN nm M o pc lv (vl y :: vl x :: st) mem :=
  RC_go (fun p e R s m args below meth c H locs ls Q hF hL hs hw hS kk => by
    refine lv_lor (x := Int64.ofInt x) (y := Int64.ofInt y) (rest := st.map (cv E)) hF.1 hF.2.1 hd ?_
    rw [← Int64.ofInt_toInt (Int64.ofInt x ||| Int64.ofInt y)]
    exact kk ls hL (okS_l (okL_64 _) (okS_t (okS_t hs)))) k
theorem RC_iushr {x y : Int} (hd : decode M.2.1 pc = .ok (.iushr, 1)) (k : RC E n0 tN nm M o (pc + 1) lv (vi (iushr x y) :: st) mem) : RC E n0 tN nm M o pc lv (vi y :: vi x :: st) mem :=
  RC_go (fun p e R s m args below meth c H locs ls Q hF hL hs hw hS kk => lv_iushr (x := Int32.ofInt x) (y := Int32.ofInt y) (rest := st.map (cv E)) hF.1 hF.2.1 hd (Int32.ofInt_toInt _).symm (kk ls hL (okS_i (okI_32 _) (okS_t (okS_t hs))))) k
theorem RC_lshl {x y : Int} (hd : decode M.2.1 pc = .ok (.lshl, 1)) (k : RC E n0 tN nm M o (pc + 1) lv (vl (lshl x y) :: st) mem) : RC E n0 tN nm M o pc lv (vi y :: vl x :: st) mem :=
  RC_go (fun p e R s m args below meth c H locs ls Q hF hL hs hw hS kk => lv_lshl (x := Int64.ofInt x) (y := Int32.ofInt y) (rest := st.map (cv E)) hF.1 hF.2.1 hd (Int64.ofInt_toInt _).symm (kk ls hL (okS_l (okL_64 _) (okS_t (okS_t hs))))) k
theorem RC_lshr {x y : Int} (hd : decode M.2.1 pc = .ok (.lshr, 1)) (k : RC E n0 tN nm M o (pc + 1) lv (vl (lshr x y) :: st) mem) : RC E n0 tN nm M o pc lv (vi y :: vl x :: st) mem :=
  RC_go (fun p e R s m args below meth c H locs ls Q hF hL hs hw hS kk => lv_lshr (x := Int64.ofInt x) (y := Int32.ofInt y) (rest := st.map (cv E)) hF.1 hF.2.1 hd (Int64.ofInt_toInt _).symm (kk ls hL (okS_l (okL_64 _) (okS_t (okS_t hs))))) k
theorem RC_lushr {x y : Int} (hd : decode M.2.1 pc = .ok (.lushr, 1)) (k : RC E n0 tN nm M o (pc + 1) lv (vl (lushr x y) :: st) mem) : RC E n0 tN nm M o pc lv (vi y :: vl x :: st) mem :=
  RC_go (fun p e R s m args below meth c H locs ls Q hF hL hs hw hS kk => lv_lushr (x := Int64.ofInt x) (y := Int32.ofInt y) (rest := st.map (cv E)) hF.1 hF.2.1 hd (Int64.ofInt_toInt _).symm (kk ls hL (okS_l (okL_64 _) (okS_t (okS_t hs))))) k
theorem RC_ineg {x : Int} (hd : decode M.2.1 pc = .ok (.ineg, 1)) (k : RC E n0 tN nm M o (pc + 1) lv (vi (w32 (-x)) :: st) mem) : RC E n0 tN nm M o pc lv (vi x :: st) mem :=
  RC_go (fun p e R s m args below meth c H locs ls Q hF hL hs hw hS kk => by
    refine lv_ineg (x := Int32.ofInt x) (rest := st.map (cv E)) hF.1 hF.2.1 hd ?_
    rw [of_neg]
    exact kk ls hL (okS_i (okI_w _) (okS_t hs))) k
theorem RC_i2l {x : Int} (hd : decode M.2.1 pc = .ok (.i2l, 1)) (k : RC E n0 tN nm M o (pc + 1) lv (vl x :: st) mem) : RC E n0 tN nm M o pc lv (vi x :: st) mem :=
  RC_go (fun p e R s m args below meth c H locs ls Q hF hL hs hw hS kk => by
    have h0 : okI x := okS_h hs
    exact lv_i2l (x := Int32.ofInt x) (rest := st.map (cv E)) hF.1 hF.2.1 hd (of_i2l h0) (kk ls hL (okS_l (show okL x from ⟨by have := h0.1; omega, by have := h0.2; omega⟩) (okS_t hs)))) k
theorem RC_l2i {x : Int} (hd : decode M.2.1 pc = .ok (.l2i, 1)) (k : RC E n0 tN nm M o (pc + 1) lv (vi (w32 x) :: st) mem) : RC E n0 tN nm M o pc lv (vl x :: st) mem :=
  RC_go (fun p e R s m args below meth c H locs ls Q hF hL hs hw hS kk => lv_l2i (x := Int64.ofInt x) (rest := st.map (cv E)) hF.1 hF.2.1 hd ((of_l2i x).trans (of_w32 x).symm) (kk ls hL (okS_i (okI_w x) (okS_t hs)))) k
theorem RC_i2c {x : Int} (hd : decode M.2.1 pc = .ok (.i2c, 1)) (k : RC E n0 tN nm M o (pc + 1) lv (vi (i2c x) :: st) mem) : RC E n0 tN nm M o pc lv (vi x :: st) mem :=
  RC_go (fun p e R s m args below meth c H locs ls Q hF hL hs hw hS kk => lv_i2c (x := Int32.ofInt x) (rest := st.map (cv E)) hF.1 hF.2.1 hd (Int32.ofInt_toInt _).symm (kk ls hL (okS_i (okI_32 _) (okS_t hs)))) k
theorem RC_lcmp {x y : Int} (hd : decode M.2.1 pc = .ok (.lcmp, 1)) (k : RC E n0 tN nm M o (pc + 1) lv (vi (lcm x y) :: st) mem) : RC E n0 tN nm M o pc lv (vl y :: vl x :: st) mem :=
  RC_go (fun p e R s m args below meth c H locs ls Q hF hL hs hw hS kk => by
    refine W.lcmp (x := Int64.ofInt x) (y := Int64.ofInt y) (rest := st.map (cv E)) hF.1 hF.2.1 hd ?_
    rw [of_cmp (okS_h (okS_t hs)) (okS_h hs)]
    exact kk ls hL (okS_i (okI_lcm x y) (okS_t (okS_t hs)))) k
theorem RC_idiv {x y : Int} (hd : decode M.2.1 pc = .ok (.idiv, 1)) (k : RC E n0 tN nm M o (pc + 1) lv (vi (idv x y) :: st) mem) : RC E n0 tN nm M (if y = 0 then none else o) pc lv (vi y :: vi x :: st) mem := by
  by_cases hy : y = 0
  · rw [if_pos hy]; exact RC_none
  rw [if_neg hy]
  exact RC_go (fun p e R s m args below meth c H locs ls Q hF hL hs hw hS kk => by
    refine lv_idiv (x := Int32.ofInt x) (y := Int32.ofInt y) (rest := st.map (cv E)) hF.1 hF.2.1 hd (fun z => hy ((of_eq (y := 0) (okS_h hs) okI_0).mp z)) ?_
    rw [← Int32.ofInt_toInt (Int32.ofInt x / Int32.ofInt y)]
    exact kk ls hL (okS_i (okI_32 _) (okS_t (okS_t hs)))) k
theorem RC_irem {x y : Int} (hd : decode M.2.1 pc = .ok (.irem, 1)) (k : RC E n0 tN nm M o (pc + 1) lv (vi (irm x y) :: st) mem) : RC E n0 tN nm M (if y = 0 then none else o) pc lv (vi y :: vi x :: st) mem := by
  by_cases hy : y = 0
  · rw [if_pos hy]; exact RC_none
  rw [if_neg hy]
  exact RC_go (fun p e R s m args below meth c H locs ls Q hF hL hs hw hS kk => by
    refine lv_irem (x := Int32.ofInt x) (y := Int32.ofInt y) (rest := st.map (cv E)) hF.1 hF.2.1 hd (fun z => hy ((of_eq (y := 0) (okS_h hs) okI_0).mp z)) ?_
    rw [← Int32.ofInt_toInt (Int32.ofInt x - Int32.ofInt x / Int32.ofInt y * Int32.ofInt y)]
    exact kk ls hL (okS_i (okI_32 _) (okS_t (okS_t hs)))) k
theorem RC_ldiv {x y : Int} (hd : decode M.2.1 pc = .ok (.ldiv, 1)) (k : RC E n0 tN nm M o (pc + 1) lv (vl (ldv x y) :: st) mem) : RC E n0 tN nm M (if y = 0 then none else o) pc lv (vl y :: vl x :: st) mem := by
  by_cases hy : y = 0
  · rw [if_pos hy]; exact RC_none
  rw [if_neg hy]
  exact RC_go (fun p e R s m args below meth c H locs ls Q hF hL hs hw hS kk => by
    refine lv_ldiv (x := Int64.ofInt x) (y := Int64.ofInt y) (rest := st.map (cv E)) hF.1 hF.2.1 hd (fun z => hy ((ol_eq (y := 0) (okS_h hs) okL_0).mp z)) ?_
    rw [← Int64.ofInt_toInt (Int64.ofInt x / Int64.ofInt y)]
    exact kk ls hL (okS_l (okL_64 _) (okS_t (okS_t hs)))) k
theorem RC_lrem {x y : Int} (hd : decode M.2.1 pc = .ok (.lrem, 1)) (k : RC E n0 tN nm M o (pc + 1) lv (vl (lrm x y) :: st) mem) : RC E n0 tN nm M (if y = 0 then none else o) pc lv (vl y :: vl x :: st) mem := by
  by_cases hy : y = 0
  · rw [if_pos hy]; exact RC_none
  rw [if_neg hy]
  exact RC_go (fun p e R s m args below meth c H locs ls Q hF hL hs hw hS kk => by
    refine lv_lrem (x := Int64.ofInt x) (y := Int64.ofInt y) (rest := st.map (cv E)) hF.1 hF.2.1 hd (fun z => hy ((ol_eq (y := 0) (okS_h hs) okL_0).mp z)) ?_
    rw [← Int64.ofInt_toInt (Int64.ofInt x - Int64.ofInt x / Int64.ofInt y * Int64.ofInt y)]
    exact kk ls hL (okS_l (okL_64 _) (okS_t (okS_t hs)))) k
theorem RC_dup {v : VV} (hd : decode M.2.1 pc = .ok (.dup, 1)) (hv : v.1 ≠ 1) (k : RC E n0 tN nm M o (pc + 1) lv (v :: v :: st) mem) : RC E n0 tN nm M o pc lv (v :: st) mem :=
  RC_go (fun p e R s m args below meth c H locs ls Q hF hL hs hw hS kk => lv_dup hF.1 hF.2.1 hd (cat1 hv) (kk ls hL (okS_c (okS_h hs) hs))) k
theorem RC_pop {v : VV} (hd : decode M.2.1 pc = .ok (.pop, 1)) (hv : v.1 ≠ 1) (k : RC E n0 tN nm M o (pc + 1) lv st mem) : RC E n0 tN nm M o pc lv (v :: st) mem :=
  RC_go (fun p e R s m args below meth c H locs ls Q hF hL hs hw hS kk => lv_pop hF.1 hF.2.1 hd (cat1 hv) (kk ls hL (okS_t hs))) k
theorem RC_dup2 {v u : VV} (hd : decode M.2.1 pc = .ok (.dup2, 1)) (hv : v.1 ≠ 1) (hu : u.1 ≠ 1) (k : RC E n0 tN nm M o (pc + 1) lv (v :: u :: v :: u :: st) mem) : RC E n0 tN nm M o pc lv (v :: u :: st) mem :=
  RC_go (fun p e R s m args below meth c H locs ls Q hF hL hs hw hS kk => lv_dup2_11 hF.1 hF.2.1 hd (cat1 hv) (cat1 hu) (kk ls hL (okS_c (okS_h hs) (okS_c (okS_h (okS_t hs)) hs)))) k
theorem RC_goto {off : Int} {tgt : Nat} (hd : decode M.2.1 pc = .ok (.goto off, 3)) (ht : (pc : Int) + off = (tgt : Int)) (k : RC E n0 tN nm M o tgt lv st mem) : RC E n0 tN nm M o pc lv st mem :=
  RC_go (fun p e R s m args below meth c H locs ls Q hF hL hs hw hS kk => lv_goto hF.1 hF.2.1 hd ht (kk ls hL hs)) k
/-- two ways on -/
theorem RC_two {P : Prop} {inst : Decidable P} {pa pb : Nat} {st' : List VV}
    (h : ∀ (p : Program) (e : Env) (R : Room) (s : State) (m : MethodId) (args : Array Value) (below : List Frame) (meth : Method) (c : Code) (H : Heap) (locs : List Loc) (ls : Array Slot) (Q : State → Prop), FrK E M n0 tN p R s m args meth c → okS st →
      (P → W p (eL E) e R s m args below meth c H locs (mN mem - n0) (cS (mN mem) - cS n0) Q (F0 m pa ls (st'.map (cv E)))) → (¬ P → W p (eL E) e R s m args below meth c H locs (mN mem - n0) (cS (mN mem) - cS n0) Q (F0 m pb ls (st'.map (cv E)))) → W p (eL E) e R s m args below meth c H locs (mN mem - n0) (cS (mN mem) - cS n0) Q (F0 m pc ls (st.map (cv E))))
    (hst : okS st → okS st') (ka : P → RC E n0 tN nm M o1 pa lv st' mem) (kb : ¬ P → RC E n0 tN nm M o2 pb lv st' mem) : RC E n0 tN nm M (@ite _ P inst o1 o2) pc lv st mem :=
  fun r mem' ho p e R s m args below meth c hF hnm H locs ls hL hs hw hn0 hS => h p e R s m args below meth c H locs ls _ hF hs
    (fun hP => ka hP r mem' (by rw [if_pos hP] at ho; exact ho) p e R s m args below meth c hF hnm H locs ls hL (hst hs) hw hn0 hS)
    (fun hP => kb hP r mem' (by rw [if_neg hP] at ho; exact ho) p e R s m args below meth c hF hnm H locs ls hL (hst hs) hw hn0 hS)
theorem RC_if_eq {x : Int} {off : Int} {tgt : Nat} (hd : decode M.2.1 pc = .ok (.ifCond .eq off, 3)) (ht : (pc : Int) + off = (tgt : Int)) (ka : RC E n0 tN nm M o1 tgt lv st mem) (kb : RC E n0 tN nm M o2 (pc + 3) lv st mem) : RC E n0 tN nm M (if x = 0 then o1 else o2) pc lv (vi x :: st) mem :=
  RC_two (fun p e R s m args below meth c H locs ls Q hF hs ka kb => by
    have iff := (of_eq (x := x) (y := 0) (okS_h hs) okI_0)
    exact lv_if_eq (x := Int32.ofInt x) (rest := st.map (cv E)) hF.1 hF.2.1 hd ht (fun z => ka (iff.mp z)) (fun z => kb (fun q => z (iff.mpr q)))) (fun hs => okS_t hs) (fun _ => ka) (fun _ => kb)
theorem RC_if_ne {x : Int} {off : Int} {tgt : Nat} (hd : decode M.2.1 pc = .ok (.ifCond .ne off, 3)) (ht : (pc : Int) + off = (tgt : Int)) (ka : RC E n0 tN nm M o1 (pc + 3) lv st mem) (kb : RC E n0 tN nm M o2 tgt lv st mem) : RC E n0 tN nm M (if x = 0 then o1 else o2) pc lv (vi x :: st) mem :=
  RC_two (fun p e R s m args below meth c H locs ls Q hF hs ka kb => by
    have iff := (of_eq (x := x) (y := 0) (okS_h hs) okI_0)
    exact lv_if_ne (x := Int32.ofInt x) (rest := st.map (cv E)) hF.1 hF.2.1 hd ht (fun z => kb (fun q => z (iff.mpr q))) (fun z => ka (iff.mp z))) (fun hs => okS_t hs) (fun _ => ka) (fun _ => kb)
theorem RC_if_lt {x : Int} {off : Int} {tgt : Nat} (hd : decode M.2.1 pc = .ok (.ifCond .lt off, 3)) (ht : (pc : Int) + off = (tgt : Int)) (ka : RC E n0 tN nm M o1 tgt lv st mem) (kb : RC E n0 tN nm M o2 (pc + 3) lv st mem) : RC E n0 tN nm M (if x < 0 then o1 else o2) pc lv (vi x :: st) mem :=
  RC_two (fun p e R s m args below meth c H locs ls Q hF hs ka kb => by
    have iff := (of_lt (x := x) (y := 0) (okS_h hs) okI_0)
    exact lv_if_lt (x := Int32.ofInt x) (rest := st.map (cv E)) hF.1 hF.2.1 hd ht (fun z => ka (iff.mp z)) (fun z => kb (fun q => z (iff.mpr q)))) (fun hs => okS_t hs) (fun _ => ka) (fun _ => kb)
theorem RC_if_ge {x : Int} {off : Int} {tgt : Nat} (hd : decode M.2.1 pc = .ok (.ifCond .ge off, 3)) (ht : (pc : Int) + off = (tgt : Int)) (ka : RC E n0 tN nm M o1 (pc + 3) lv st mem) (kb : RC E n0 tN nm M o2 tgt lv st mem) : RC E n0 tN nm M (if x < 0 then o1 else o2) pc lv (vi x :: st) mem :=
  RC_two (fun p e R s m args below meth c H locs ls Q hF hs ka kb => by
    have iff := (of_lt (x := x) (y := 0) (okS_h hs) okI_0)
    exact lv_if_ge (x := Int32.ofInt x) (rest := st.map (cv E)) hF.1 hF.2.1 hd ht (fun z => kb (fun q => absurd z (nle (iff.mpr q)))) (fun z => ka (iff.mp (nlt z)))) (fun hs => okS_t hs) (fun _ => ka) (fun _ => kb)
theorem RC_if_gt {x : Int} {off : Int} {tgt : Nat} (hd : decode M.2.1 pc = .ok (.ifCond .gt off, 3)) (ht : (pc : Int) + off = (tgt : Int)) (ka : RC E n0 tN nm M o1 tgt lv st mem) (kb : RC E n0 tN nm M o2 (pc + 3) lv st mem) : RC E n0 tN nm M (if 0 < x then o1 else o2) pc lv (vi x :: st) mem :=
  RC_two (fun p e R s m args below meth c H locs ls Q hF hs ka kb => by
    have iff := (of_lt (x := 0) (y := x) okI_0 (okS_h hs))
    exact lv_if_gt (x := Int32.ofInt x) (rest := st.map (cv E)) hF.1 hF.2.1 hd ht (fun z => ka (iff.mp z)) (fun z => kb (fun q => z (iff.mpr q)))) (fun hs => okS_t hs) (fun _ => ka) (fun _ => kb)
theorem RC_if_le {x : Int} {off : Int} {tgt : Nat} (hd : decode M.2.1 pc = .ok (.ifCond .le off, 3)) (ht : (pc : Int) + off = (tgt : Int)) (ka : RC E n0 tN nm M o1 (pc + 3) lv st mem) (kb : RC E n0 tN nm M o2 tgt lv st mem) : RC E n0 tN nm M (if 0 < x then o1 else o2) pc lv (vi x :: st) mem :=
  RC_two (fun p e R s m args below meth c H locs ls Q hF hs ka kb => by
    have iff := (of_lt (x := 0) (y := x) okI_0 (okS_h hs))
    exact lv_if_le (x := Int32.ofInt x) (rest := st.map (cv E)) hF.1 hF.2.1 hd ht (fun z => kb (fun q => absurd z (nle (iff.mpr q)))) (fun z => ka (iff.mp (nlt z)))) (fun hs => okS_t hs) (fun _ => ka) (fun _ => kb)
theorem RC_icmp_eq {x y : Int} {off : Int} {tgt : Nat} (hd : decode M.2.1 pc = .ok (.if_icmp .eq off, 3)) (ht : (pc : Int) + off = (tgt : Int)) (ka : RC E n0 tN nm M o1 tgt lv st mem) (kb : RC E n0 tN nm M o2 (pc + 3) lv st mem) : RC E n0 tN nm M (if x = y then o1 else o2) pc lv (vi y :: vi x :: st) mem :=
  RC_two (fun p e R s m args below meth c H locs ls Q hF hs ka kb => by
    have iff := (of_eq (x := x) (y := y) (okS_h (okS_t hs)) (okS_h hs))
    exact lv_icmp_eq (x := Int32.ofInt x) (y := Int32.ofInt y) (rest := st.map (cv E)) hF.1 hF.2.1 hd ht (fun z => ka (iff.mp z)) (fun z => kb (fun q => z (iff.mpr q)))) (fun hs => okS_t (okS_t hs)) (fun _ => ka) (fun _ => kb)
theorem RC_icmp_ne {x y : Int} {off : Int} {tgt : Nat} (hd : decode M.2.1 pc = .ok (.if_icmp .ne off, 3)) (ht : (pc : Int) + off = (tgt : Int)) (ka : RC E n0 tN nm M o1 (pc + 3) lv st mem) (kb : RC E n0 tN nm M o2 tgt lv st mem) : RC E n0 tN nm M (if x = y then o1 else o2) pc lv (vi y :: vi x :: st) mem :=
  RC_two (fun p e R s m args below meth c H locs ls Q hF hs ka kb => by
    have iff := (of_eq (x := x) (y := y) (okS_h (okS_t hs)) (okS_h hs))
    exact lv_icmp_ne (x := Int32.ofInt x) (y := Int32.ofInt y) (rest := st.map (cv E)) hF.1 hF.2.1 hd ht (fun z => kb (fun q => z (iff.mpr q))) (fun z => ka (iff.mp z))) (fun hs => okS_t (okS_t hs)) (fun _ => ka) (fun _ => kb)
theorem RC_icmp_lt {x y : Int} {off : Int} {tgt : Nat} (hd : decode M.2.1 pc = .ok (.if_icmp .lt off, 3)) (ht : (pc : Int) + off = (tgt : Int)) (ka : RC E n0 tN nm M o1 tgt lv st mem) (kb : RC E n0 tN nm M o2 (pc + 3) lv st mem) : RC E n0 tN nm M (if x < y then o1 else o2) pc lv (vi y :: vi x :: st) mem :=
  RC_two (fun p e R s m args below meth c H locs ls Q hF hs ka kb => by
    have iff := (of_lt (x := x) (y := y) (okS_h (okS_t hs)) (okS_h hs))
    exact lv_icmp_lt (x := Int32.ofInt x) (y := Int32.ofInt y) (rest := st.map (cv E)) hF.1 hF.2.1 hd ht (fun z => ka (iff.mp z)) (fun z => kb (fun q => z (iff.mpr q)))) (fun hs => okS_t (okS_t hs)) (fun _ => ka) (fun _ => kb)
theorem RC_icmp_ge {x y : Int} {off : Int} {tgt : Nat} (hd : decode M.2.1 pc = .ok (.if_icmp .ge off, 3)) (ht : (pc : Int) + off = (tgt : Int)) (ka : RC E n0 tN nm M o1 (pc + 3) lv st mem) (kb : RC E n0 tN nm M o2 tgt lv st mem) : RC E n0 tN nm M (if x < y then o1 else o2) pc lv (vi y :: vi x :: st) mem :=
  RC_two (fun p e R s m args below meth c H locs ls Q hF hs ka kb => by
    have iff := (of_lt (x := x) (y := y) (okS_h (okS_t hs)) (okS_h hs))
    exact lv_icmp_ge (x := Int32.ofInt x) (y := Int32.ofInt y) (rest := st.map (cv E)) hF.1 hF.2.1 hd ht (fun z => kb (fun q => absurd z (nle (iff.mpr q)))) (fun z => ka (iff.mp (nlt z)))) (fun hs => okS_t (okS_t hs)) (fun _ => ka) (fun _ => kb)
theorem RC_icmp_gt {x y : Int} {off : Int} {tgt : Nat} (hd : decode M.2.1 pc = .ok (.if_icmp .gt off, 3)) (ht : (pc : Int) + off = (tgt : Int)) (ka : RC E n0 tN nm M o1 tgt lv st mem) (kb : RC E n0 tN nm M o2 (pc + 3) lv st mem) : RC E n0 tN nm M (if y < x then o1 else o2) pc lv (vi y :: vi x :: st) mem :=
  RC_two (fun p e R s m args below meth c H locs ls Q hF hs ka kb => by
    have iff := (of_lt (x := y) (y := x) (okS_h hs) (okS_h (okS_t hs)))
    exact lv_icmp_gt (x := Int32.ofInt x) (y := Int32.ofInt y) (rest := st.map (cv E)) hF.1 hF.2.1 hd ht (fun z => ka (iff.mp z)) (fun z => kb (fun q => z (iff.mpr q)))) (fun hs => okS_t (okS_t hs)) (fun _ => ka) (fun _ => kb)
theorem RC_icmp_le {x y : Int} {off : Int} {tgt : Nat} (hd : decode M.2.1 pc = .ok (.if_icmp .le off, 3)) (ht : (pc : Int) + off = (tgt : Int)) (ka : RC E n0 tN nm M o1 (pc + 3) lv st mem) (kb : RC E n0 tN nm M o2 tgt lv st mem) : RC E n0 tN nm M (if y < x then o1 else o2) pc lv (vi y :: vi x :: st) mem :=
  RC_two (fun p e R s m args below meth c H locs ls Q hF hs ka kb => by
    have iff := (of_lt (x := y) (y := x) (okS_h hs) (okS_h (okS_t hs)))
    exact lv_icmp_le (x := Int32.ofInt x) (y := Int32.ofInt y) (rest := st.map (cv E)) hF.1 hF.2.1 hd ht (fun z => kb (fun q => absurd z (nle (iff.mpr q)))) (fun z => ka (iff.mp (nlt z)))) (fun hs => okS_t (okS_t hs)) (fun _ => ka) (fun _ => kb)


end RowsC
