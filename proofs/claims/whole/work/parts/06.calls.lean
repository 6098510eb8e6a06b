/-! Words, returns, calls, a method's entry. -/
theorem okw {x : Int} (h1 : -30 ≤ x) (h2 : x ≤ -1) : okv (vw x) := And.intro h1 h2
section Rows3
variable {E : EE} {M : MT} {o o1 o2 : Res} {pc : Nat} {lv : List (Nat × VV)} {st : List VV} {mem : Mm}
theorem RO_idivc {x y : Int} (hy : y ≠ 0) (hd : decode M.2.1 pc = .ok (.idiv, 1)) (k : RO E M o (pc + 1) lv (vi (idv x y) :: st) mem) : RO E M o pc lv (vi y :: vi x :: st) mem := by
  have h := RO_idiv (x := x) (y := y) hd k
  rwa [if_neg hy] at h
theorem RO_iremc {x y : Int} (hy : y ≠ 0) (hd : decode M.2.1 pc = .ok (.irem, 1)) (k : RO E M o (pc + 1) lv (vi (irm x y) :: st) mem) : RO E M o pc lv (vi y :: vi x :: st) mem := by
  have h := RO_irem (x := x) (y := y) hd k
  rwa [if_neg hy] at h
theorem RO_ldivc {x y : Int} (hy : y ≠ 0) (hd : decode M.2.1 pc = .ok (.ldiv, 1)) (k : RO E M o (pc + 1) lv (vl (ldv x y) :: st) mem) : RO E M o pc lv (vl y :: vl x :: st) mem := by
  have h := RO_ldiv (x := x) (y := y) hd k
  rwa [if_neg hy] at h
theorem RO_lremc {x y : Int} (hy : y ≠ 0) (hd : decode M.2.1 pc = .ok (.lrem, 1)) (k : RO E M o (pc + 1) lv (vl (lrm x y) :: st) mem) : RO E M o pc lv (vl y :: vl x :: st) mem := by
  have h := RO_lrem (x := x) (y := y) hd k
  rwa [if_neg hy] at h
theorem RO_null (hd : decode M.2.1 pc = .ok (.aconst_null, 1)) (k : RO E M o (pc + 1) lv (vw (-1) :: st) mem) : RO E M o pc lv st mem :=
  RO_go (fun p e R s m args below meth c H locs ls Q hF hL hs hw hS kk => lv_null hF.1 hF.2.1 hd (kk ls hL (okS_c (v := vw (-1)) (okw (by decide) (by decide)) hs))) k
theorem RO_getsW {idx : Nat} (i : Nat) (hi : i < 29) {x : Int} (hx : x = -(i : Int) - 2) (hl : Cond.fieldLink M.1 idx "HillClock$Word" (wdN.getD i "") "LHillClock$Word;" ∈ TBL) (hd : decode M.2.1 pc = .ok (.getstatic idx, 3)) (k : RO E M o (pc + 3) lv (vw x :: st) mem) : RO E M o pc lv st mem :=
  RO_go (fun p e R s m args below meth c H locs ls Q hF hL hs hw hS kk => by
    have hkk := kk ls hL (okS_c (v := vw x) (show -30 ≤ x ∧ x ≤ -1 from ⟨by omega, by omega⟩) hs)
    have e1 : cv E (vw x) = .ref (eW E i) := by
      show wv E x = _
      unfold wv
      rw [if_neg (by omega), show (-x - 2).toNat = i by omega]
    refine va_gets (v := .ref (eW E i)) hF.1 hF.2.1 (hF.2.2.2.2.2.2.2.1.2.2.2.1.1 i hi).1 hS hF.2.2.2.2.1 (hF.2.2.2.2.2.1 _ hl) (fun _ h => h) hd ?_
    rw [← e1]
    exact hkk) k
def wr (E : EE) (x : Int) : Option Nat := if x = -1 then none else some (eW E (-x - 2).toNat)
theorem wv_rf (E : EE) (x : Int) : wv E x = va_rf (wr E x) := by
  unfold wv wr
  split <;> rfl
theorem wr_inj {s : State} (h : EV E s) {x y : Int} (hx : -30 ≤ x ∧ x ≤ -1) (hy : -30 ≤ y ∧ y ≤ -1) : wr E x = wr E y ↔ x = y := by
  constructor
  · intro e
    unfold wr at e
    by_cases h1 : x = -1 <;> by_cases h2 : y = -1
    · omega
    · rw [if_pos h1, if_neg h2] at e; cases e
    · rw [if_neg h1, if_pos h2] at e; cases e
    · rw [if_neg h1, if_neg h2] at e
      have := h.2.2.2.1.2.1 _ _ (by omega) (by omega) (Option.some.inj e)
      omega
  · intro e; rw [e]
theorem RO_acmp_eq {x y : Int} {off : Int} {tgt : Nat} (hd : decode M.2.1 pc = .ok (.if_acmp .eq off, 3)) (ht : (pc : Int) + off = (tgt : Int)) (ka : RO E M o1 tgt lv st mem) (kb : RO E M o2 (pc + 3) lv st mem) : RO E M (if x = y then o1 else o2) pc lv (vw y :: vw x :: st) mem :=
  RO_two (fun p e R s m args below meth c H locs ls Q hF hs ka kb => by
    have iff := wr_inj hF.2.2.2.2.2.2.2.1 (okS_h (okS_t hs)) (okS_h hs)
    show W p (eL E) e R s m args below meth c H locs 0 0 Q (F0 m pc ls (wv E y :: wv E x :: st.map (cv E)))
    rw [wv_rf, wv_rf]
    exact lv_acmp_eq (rest := st.map (cv E)) hF.1 hF.2.1 hd ht (fun z => ka (iff.mp z)) (fun z => kb (fun q => z (iff.mpr q)))) (fun hs => okS_t (okS_t hs)) (fun _ => ka) (fun _ => kb)
theorem RO_acmp_ne {x y : Int} {off : Int} {tgt : Nat} (hd : decode M.2.1 pc = .ok (.if_acmp .ne off, 3)) (ht : (pc : Int) + off = (tgt : Int)) (ka : RO E M o1 (pc + 3) lv st mem) (kb : RO E M o2 tgt lv st mem) : RO E M (if x = y then o1 else o2) pc lv (vw y :: vw x :: st) mem :=
  RO_two (fun p e R s m args below meth c H locs ls Q hF hs ka kb => by
    have iff := wr_inj hF.2.2.2.2.2.2.2.1 (okS_h (okS_t hs)) (okS_h hs)
    show W p (eL E) e R s m args below meth c H locs 0 0 Q (F0 m pc ls (wv E y :: wv E x :: st.map (cv E)))
    rw [wv_rf, wv_rf]
    exact lv_acmp_ne (rest := st.map (cv E)) hF.1 hF.2.1 hd ht (fun z => kb (fun q => z (iff.mpr q))) (fun z => ka (iff.mp z))) (fun hs => okS_t (okS_t hs)) (fun _ => ka) (fun _ => kb)
theorem RO_ifnull {x : Int} {off : Int} {tgt : Nat} (hd : decode M.2.1 pc = .ok (.ifnull off, 3)) (ht : (pc : Int) + off = (tgt : Int)) (ka : RO E M o1 tgt lv st mem) (kb : RO E M o2 (pc + 3) lv st mem) : RO E M (if x = -1 then o1 else o2) pc lv (vw x :: st) mem :=
  RO_two (fun p e R s m args below meth c H locs ls Q hF hs ka kb => by
    show W p (eL E) e R s m args below meth c H locs 0 0 Q (F0 m pc ls (wv E x :: st.map (cv E)))
    rcases wv_or E x with ⟨h, e1⟩ | ⟨h, e1⟩
    · rw [e1]; exact lv_ifnullN hF.1 hF.2.1 hd ht (ka h)
    · rw [e1]; exact lv_ifnull hF.1 hF.2.1 hd (kb h)) (fun hs => okS_t hs) (fun _ => ka) (fun _ => kb)
/-! a switch -/
def swi (x lo : Int) (os : List Res) (od : Res) : Res := if lo ≤ x ∧ x < lo + os.length then os.getD (x - lo).toNat od else od
theorem RO_table {dflt lo hi : Int} {offs : Array Int} {len : Nat} {x : Int} {os : List Res} {od : Res} {td : Nat} {ts : List Nat} (hd : decode M.2.1 pc = .ok (.tableswitch dflt lo hi offs, len)) (hh : hi + 1 = lo + os.length) (htd : (pc : Int) + dflt = (td : Int)) (hto : offs.toList.map (fun z => (pc : Int) + z) = ts.map (fun z : Nat => (z : Int)))
    (k : ∀ (i t : Nat) (q : Res), ts[i]? = some t → os[i]? = some q → RO E M q t lv st mem) (hl : ts.length = os.length) (kd : RO E M od td lv st mem) : RO E M (swi x lo os od) pc lv (vi x :: st) mem := by
  intro r mem' ho p e R s m args below meth c hF H locs ls hL hs hw hS
  have hx : (Int32.ofInt x).toInt = x := toI (okS_h hs)
  unfold swi at ho
  by_cases hr : lo ≤ x ∧ x < lo + os.length
  · rw [if_pos hr] at ho
    have hi1 : (x - lo).toNat < os.length := by omega
    obtain ⟨q, hq⟩ : ∃ q, os[(x - lo).toNat]? = some q := ⟨_, List.getElem?_eq_getElem hi1⟩
    obtain ⟨t, ht⟩ : ∃ t, ts[(x - lo).toNat]? = some t := ⟨_, List.getElem?_eq_getElem (by omega)⟩
    have h1 : (offs.toList.map (fun z => (pc : Int) + z))[(x - lo).toNat]? = some (t : Int) := by rw [hto, List.getElem?_map, ht]; rfl
    rw [List.getElem?_map] at h1
    cases h2 : offs.toList[(x - lo).toNat]? with
    | none => rw [h2] at h1; cases h1
    | some off =>
      rw [h2] at h1
      have h3 : (pc : Int) + off = (t : Int) := by simpa using h1
      have ho2 : q = some (r, mem') := by rw [List.getD_eq_getElem?_getD, hq] at ho; exact ho
      exact lv_tableIn (x := Int32.ofInt x) (rest := st.map (cv E)) hF.1 hF.2.1 hd (by rw [hx]; omega) (by rw [hx]; omega) (by rw [hx, ← Array.getElem?_toList]; exact h2) h3 (k _ t q ht hq r mem' ho2 p e R s m args below meth c hF H locs ls hL (okS_t hs) hw hS)
  · rw [if_neg hr] at ho
    exact lv_tableOut (x := Int32.ofInt x) (rest := st.map (cv E)) hF.1 hF.2.1 hd (by rw [hx]; omega) htd (kd r mem' ho p e R s m args below meth c hF H locs ls hL (okS_t hs) hw hS)
/-! returns -/
theorem RO_iret {x : Int} (hr : M.2.2.2.1 = some .int) (hd : decode M.2.1 pc = .ok (.ireturn, 1)) : RO E M (some (x, mem)) pc lv [vi x] mem := by
  intro r mem' ho p e R s m args below meth c hF H locs ls hL hs hw hS
  cases ho
  have hk : meth.locks = false := hF.2.2.2.2.2.2.1
  refine W.iret hF.1 hF.2.1 (hF.2.2.2.1.trans hr) (fun t ht hW => ⟨?_, ?_, by rw [ht]; exact hw, hS.F ht⟩) hS.2.2 hd
  · rw [hr]; rfl
  · rw [hr]; exact okS_h hs
theorem RO_zret {x : Int} (hr : M.2.2.2.1 = some .boolean) (hx : x = 0 ∨ x = 1) (hd : decode M.2.1 pc = .ok (.ireturn, 1)) : RO E M (some (x, mem)) pc lv [vi x] mem := by
  intro r mem' ho p e R s m args below meth c hF H locs ls hL hs hw hS
  cases ho
  have hk : meth.locks = false := hF.2.2.2.2.2.2.1
  refine W.zret (ty := .boolean) hF.1 hF.2.1 (hF.2.2.2.1.trans hr) (by rcases hx with rfl | rfl <;> rfl) (fun t ht hW => ⟨?_, ?_, by rw [ht]; exact hw, hS.F ht⟩) hS.2.2 hd
  · rw [hr]; rfl
  · rw [hr]; exact hx
theorem RO_lret {x : Int} (hr : M.2.2.2.1 = some .long) (hd : decode M.2.1 pc = .ok (.lreturn, 1)) : RO E M (some (x, mem)) pc lv [vl x] mem := by
  intro r mem' ho p e R s m args below meth c hF H locs ls hL hs hw hS
  cases ho
  have hk : meth.locks = false := hF.2.2.2.2.2.2.1
  refine W.lret hF.1 hF.2.1 (hF.2.2.2.1.trans hr) (fun t ht hW => ⟨?_, ?_, by rw [ht]; exact hw, hS.F ht⟩) hS.2.2 hd
  · rw [hr]; rfl
  · rw [hr]; exact okS_h hs
theorem RO_vret (hr : M.2.2.2.1 = none) (hd : decode M.2.1 pc = .ok (.return_, 1)) : RO E M (some (0, mem)) pc lv [] mem := by
  intro r mem' ho p e R s m args below meth c hF H locs ls hL hs hw hS
  cases ho
  have hk : meth.locks = false := hF.2.2.2.2.2.2.1
  refine W.vret hF.1 hF.2.1 (hF.2.2.2.1.trans hr) (fun t ht hW => ⟨?_, ?_, by rw [ht]; exact hw, hS.F ht⟩) hS.2.2 hd
  · rw [hr]; rfl
  · rw [hr]; trivial
end Rows3
/-! calls -/
def argsL : Nat → List VV → List (Nat × VV)
  | _, [] => []
  | i, v :: vs => (i, v) :: argsL (i + (bif Nat.beq v.1 1 then 2 else 1)) vs
def argsW : List VV → Nat
  | [] => 0
  | v :: vs => (bif Nat.beq v.1 1 then 2 else 1) + argsW vs
theorem beq_t1 (v : VV) (E : EE) : (bif Nat.beq v.1 1 then 2 else 1) = (cv E v).category := by
  rw [cv_cat]
  by_cases h : v.1 = 1
  · rw [if_pos h, h]; rfl
  · rw [if_neg h, beq_f h]; rfl
theorem cat_sum (E : EE) (st : List VV) : ((st.map (cv E)).map fun v => v.category).sum = argsW st := by
  induction st with
  | nil => rfl
  | cons v vs ih =>
    simp only [List.map_cons, List.sum_cons]
    rw [ih]
    show _ = (bif Nat.beq v.1 1 then 2 else 1) + argsW vs
    rw [beq_t1 v E]

def MI (y : MethodName) (bytes : ByteArray) (maxL : Nat) (ret : Option FieldType) (n : Nat) : Prop :=
  Cond.code y bytes maxL ret ∈ TBL ∧ Cond.initialized y.cls ∈ TBL ∧ y.cls ≠ "java/lang/invoke/MethodHandle" ∧ y.cls ≠ "java/lang/invoke/VarHandle" ∧ (parseMethodDescriptor y.desc).map (fun d => d.parameters.length) = some n ∧ maxL ≤ 21
def MV (y : MethodName) (ci : Nat) : Prop := Cond.instanceMethod y ∈ TBL ∧ Cond.selects y.cls y y ∈ TBL ∧ ci < 12 ∧ ly_cn ci = y.cls
def rvs (ret : Option FieldType) (r : Int) : List VV := match ret with
  | none => []
  | some .long => [vl r]
  | some _ => [vi r]
theorem rvs_ok {ret : Option FieldType} {r : Int} {st : List VV} (h : okr ret r) (hs : okS st) : okS (rvs ret r ++ st) := by
  cases ret with
  | none => exact hs
  | some ty =>
    cases ty <;> first
      | exact okS_l h hs
      | exact okS_i h hs
      | exact okS_i (by rcases h with h | h <;> rw [h] <;> exact ⟨by decide, by decide⟩) hs
theorem rvs_cv {E : EE} (ret : Option FieldType) (r : Int) (st : List VV) : (rv ret r).toList ++ st.map (cv E) = (rvs ret r ++ st).map (cv E) := by
  cases ret with
  | none => rfl
  | some ty => cases ty <;> rfl
theorem W_run {E : EE} {p : Program} {e : Env} {R : Room} {s : State} {m : MethodId} {args : Array Value} {below : List Frame} {meth : Method} {c : Code} {H : Heap} {locs : List Loc} {Q : State → Prop} {pc : Nat} {ls : Array Slot} {st0 rest : List Value} {ret : Option FieldType} {r : Int} {mem' : Mm} {a : Array Value}
    (hr : va_Run p (eL E) e R s m args below meth c H locs 0 0 0 0 (F0 m pc ls st0) rest (QR E ret r mem' a) (nw E)) (hS : va_S (nw E) s.heap H locs)
    (kk : ∀ (H1 : Heap) (locs1 : List Loc), okr ret r → Wd E mem' H1 → va_S (nw E) s.heap H1 locs1 → W p (eL E) e R s m args below meth c H1 locs1 0 0 Q (F0 m (pc + 3) ls ((rv ret r).toList ++ rest))) : W p (eL E) e R s m args below meth c H locs 0 0 Q (F0 m pc ls st0) := by
  intro T hT X
  obtain ⟨v, st₀, t, T', L, h0, X', hL, e1, e2, ⟨hv, hok, hw, hz, hk⟩, st⟩ := hr T hT X
  cases hv
  rw [h0] at hz hk
  obtain ⟨t2, a1, b1⟩ := kk T'.heap (locs ++ L) hok (by rw [e1]; exact hw)
    ⟨Nat.le_trans hS.1 (by rw [e1]; exact hz), fun q h1 h2 => by rw [e1, hk q (Nat.lt_of_lt_of_le h1 hS.1) h2]; exact hS.2.1 q h1 h2, fun q hq => by
      rcases List.mem_append.mp hq with h | h
      · exact hS.2.2 q h
      · exact hL q h⟩ T' rfl X'
  exact ⟨t2, st t2 a1, b1⟩
theorem Pc_blind {E : EE} {as : List VV} {mem : Mm} : FrameBlind (va_Pc (as.map (cv E)) (fun U => okS as ∧ Wd E mem U.heap ∧ EV E U)) := by
  intro a U g mk q
  obtain ⟨q0, q1, q2, q3⟩ := q
  exact ⟨q0, q1, q2, EV_same q3 rfl rfl⟩
theorem callB_X {E : EE} {M : MT} {p : Program} {R : Room} {s : State} {m : MethodId} {args : Array Value} {meth : Method} {c : Code} {idx n d : Nat} {y : MethodName} {bytes : ByteArray} {maxL : Nat} {ret : Option FieldType} (hF : FrC E M p R s m args meth c) (hmi : MI y bytes maxL ret n) (hl : Cond.methodLink M.1 idx y ∈ TBL) (hdd : d < M.2.2.2.2) :
    CallB R s args M.1 idx y bytes maxL ret (.code y bytes maxL ret :: TBL) (rmD d) 0 0 n := by
  obtain ⟨h1, h2, h3, h4, h5, h6⟩ := hmi
  have hts := hF.2.2.2.2.2.1
  have hR := hF.2.2.2.2.2.2.2.2
  refine ⟨rfl, rfl, ?_, ?_, ?_, List.mem_cons_self, hts _ h1, hts _ h2, ⟨h3, h4⟩, fun sig h => ?_, hts _ hl⟩
  · rw [hR]; show d + 1 ≤ M.2.2.2.2; omega
  · rw [hR]; show 8 + (maxL + 11) + 40 * d ≤ 40 * M.2.2.2.2; omega
  · intro w hw a' U hW
    rcases List.mem_cons.mp hw with rfl | hw
    · exact tb_pay hts h1 a' U hW
    · exact tb_pay hts hw a' U hW
  · rw [h] at h5
    exact (Option.some.inj h5).symm
section Rows4
variable {E : EE} {M : MT} {o o1 o2 : Res} {pc : Nat} {lv : List (Nat × VV)} {st : List VV} {mem : Mm}
theorem EV_at {p : Program} {R : Room} {s : State} {m : MethodId} {args : Array Value} {meth : Method} {c : Code} {H : Heap} {locs : List Loc} (hF : FrC E M p R s m args meth c) (hS : va_S (nw E) s.heap H locs) {U : State} (hU : U.heap = H) (hW : s.WarmedH U.vm) : EV E U :=
  EV_move hF.2.2.2.2.2.2.2.1 hW (by rw [hU]; exact hS.1) (fun a h1 h2 => by rw [hU]; exact hS.2.1 a h1 h2)
theorem okS_rev {As st : List VV} (h : okS (As.reverse ++ st)) : okS As ∧ okS st := ⟨fun v hv => h v (List.mem_append_left _ (List.mem_reverse.mpr hv)), fun v hv => h v (List.mem_append_right _ hv)⟩
theorem RO_callV {g : Int → Mm → Res} {idx n d a ci nf maxL : Nat} {y : MethodName} {bytes : ByteArray} {ret : Option FieldType} {As rest : List VV}
    (hmi : MI y bytes maxL ret n) (hmv0 : MV y ci) (hl : Cond.methodLink M.1 idx y ∈ TBL) (hk : ly_k a = (ci, nf)) (hdd : d < M.2.2.2.2) (hn : As.length = n) (hr : argsW rest ≤ 8) (hd : decode M.2.1 pc = .ok (.invokevirtual idx, 3))
    (hM : ∀ r mem', o1 = some (r, mem') → MetX E d y bytes maxL ret (rf a :: As) mem r mem') (k : ∀ r mem', RO E M (g r mem') (pc + 3) lv (rvs ret r ++ rest) mem') : RO E M (bd o1 g) pc lv (As.reverse ++ rf a :: rest) mem := by
  have hmv := And.intro hmv0.1 hmv0.2.1
  have hc := hmv0.2.2
  intro r mem' ho p e R s m args below meth c hF H locs ls hL hs hw hS
  cases h1 : o1 with
  | none => rw [h1] at ho; cases ho
  | some x =>
    obtain ⟨r1, mem1⟩ := x
    rw [h1] at ho
    have hM1 := hM r1 mem1 h1
    obtain ⟨okA, okR⟩ := okS_rev hs
    have hlt := ly_lt hk (by omega)
    have hrec := va_recv (q0 := a) (ci := ci) hF.2.2.2.2.2.2.2.1.1 hw.1 (ly_clg hc.1) ((wL_get hlt).trans (by rw [ent_obj hk hc.1]))
    have hst : (As.reverse ++ rf a :: rest).map (cv E) = (As.map (cv E)).reverse ++ Value.ref (eB E + a) :: rest.map (cv E) := by rw [List.map_append, List.map_reverse]; rfl
    rw [hst]
    refine W_run (ret := ret) (r := r1) (mem' := mem1) (rest := rest.map (cv E)) (va_runV (C := y.cls) (nL := M.2.2.1) (b := eB E + a) (As := As.map (cv E)) ⟨hF.1, hF.2.1, hF.2.2.1, hF.2.2.2.2.1, hF.2.2.2.2.2.1⟩ hM1 ⟨callB_X hF hmi hl hdd, hF.2.2.2.2.2.1 _ hmv.1, hF.2.2.2.2.2.1 _ hmv.2⟩ ⟨Pc_blind, by rw [← hc.2]; exact hrec, fun U hU hW => ⟨rfl, okS_c trivial okA, by rw [hU]; exact hw, EV_at hF hS hU hW⟩⟩ rfl (by rw [List.length_map]; exact hn) hL.1 rfl (by show 2 * 0 + _ ≤ 8; rw [cat_sum]; omega) hd ⟨Nat.zero_le _, Nat.zero_le _⟩) hS (fun H1 locs1 hok hw1 hS1 => ?_)
    rw [rvs_cv]
    exact k r1 mem1 r mem' ho p e R s m args below meth c hF H1 locs1 ls hL (rvs_ok hok (okS_t okR)) hw1 hS1
theorem RO_callS {g : Int → Mm → Res} {idx n d maxL : Nat} {y : MethodName} {bytes : ByteArray} {ret : Option FieldType} {As rest : List VV}
    (hmi : MI y bytes maxL ret n) (hms : Cond.static y ∈ TBL) (hl : Cond.methodLink M.1 idx y ∈ TBL) (hdd : d < M.2.2.2.2) (hn : As.length = n) (hr : argsW rest ≤ 8) (hd : decode M.2.1 pc = .ok (.invokestatic idx, 3))
    (hM : ∀ r mem', o1 = some (r, mem') → MetX E d y bytes maxL ret As mem r mem') (k : ∀ r mem', RO E M (g r mem') (pc + 3) lv (rvs ret r ++ rest) mem') : RO E M (bd o1 g) pc lv (As.reverse ++ rest) mem := by
  intro r mem' ho p e R s m args below meth c hF H locs ls hL hs hw hS
  cases h1 : o1 with
  | none => rw [h1] at ho; cases ho
  | some x =>
    obtain ⟨r1, mem1⟩ := x
    rw [h1] at ho
    have hM1 := hM r1 mem1 h1
    obtain ⟨okA, okR⟩ := okS_rev hs
    have hst : (As.reverse ++ rest).map (cv E) = (As.map (cv E)).reverse ++ rest.map (cv E) := by rw [List.map_append, List.map_reverse]
    rw [hst]
    refine W_run (ret := ret) (r := r1) (mem' := mem1) (rest := rest.map (cv E)) (va_runS (nL := M.2.2.1) (As := As.map (cv E)) ⟨hF.1, hF.2.1, hF.2.2.1, hF.2.2.2.2.1, hF.2.2.2.2.2.1⟩ hM1 ⟨callB_X hF hmi hl hdd, hF.2.2.2.2.2.1 _ hms⟩ ⟨Pc_blind, fun U hU hW => ⟨rfl, okA, by rw [hU]; exact hw, EV_at hF hS hU hW⟩⟩ rfl (by rw [List.length_map]; exact hn) hL.1 rfl (by show 2 * 0 + _ ≤ 8; rw [cat_sum]; omega) hd ⟨Nat.zero_le _, Nat.zero_le _⟩) hS (fun H1 locs1 hok hw1 hS1 => ?_)
    rw [rvs_cv]
    exact k r1 mem1 r mem' ho p e R s m args below meth c hF H1 locs1 ls hL (rvs_ok hok okR) hw1 hS1
theorem RO_callVi {g : Int → Mm → Res} {idx n d a ci nf maxL : Nat} {y : MethodName} {bytes : ByteArray} {ret : Option FieldType} {As rest : List VV}
    (hmi : MI y bytes maxL ret n) (hmv0 : MV y ci) (hl : Cond.methodLink M.1 idx y ∈ TBL) (hk : ly_k a = (ci, nf)) (hdd : d < M.2.2.2.2) (hn : As.length = n) (hr : argsW rest ≤ 8) (hret : ∀ r, rvs ret r = [vi r]) (hd : decode M.2.1 pc = .ok (.invokevirtual idx, 3))
    (hM : ∀ r mem', o1 = some (r, mem') → MetX E d y bytes maxL ret (rf a :: As) mem r mem') (k : ∀ r mem', RO E M (g r mem') (pc + 3) lv (vi r :: rest) mem') : RO E M (bd o1 g) pc lv (As.reverse ++ rf a :: rest) mem :=
  RO_callV hmi hmv0 hl hk hdd hn hr hd hM (fun r mem' => by rw [hret]; exact k r mem')
theorem RO_callVl {g : Int → Mm → Res} {idx n d a ci nf maxL : Nat} {y : MethodName} {bytes : ByteArray} {As rest : List VV}
    (hmi : MI y bytes maxL (some .long) n) (hmv0 : MV y ci) (hl : Cond.methodLink M.1 idx y ∈ TBL) (hk : ly_k a = (ci, nf)) (hdd : d < M.2.2.2.2) (hn : As.length = n) (hr : argsW rest ≤ 8) (hd : decode M.2.1 pc = .ok (.invokevirtual idx, 3))
    (hM : ∀ r mem', o1 = some (r, mem') → MetX E d y bytes maxL (some .long) (rf a :: As) mem r mem') (k : ∀ r mem', RO E M (g r mem') (pc + 3) lv (vl r :: rest) mem') : RO E M (bd o1 g) pc lv (As.reverse ++ rf a :: rest) mem :=
  RO_callV hmi hmv0 hl hk hdd hn hr hd hM k
theorem RO_callVv {g : Int → Mm → Res} {idx n d a ci nf maxL : Nat} {y : MethodName} {bytes : ByteArray} {As rest : List VV}
    (hmi : MI y bytes maxL none n) (hmv0 : MV y ci) (hl : Cond.methodLink M.1 idx y ∈ TBL) (hk : ly_k a = (ci, nf)) (hdd : d < M.2.2.2.2) (hn : As.length = n) (hr : argsW rest ≤ 8) (hd : decode M.2.1 pc = .ok (.invokevirtual idx, 3))
    (hM : ∀ r mem', o1 = some (r, mem') → MetX E d y bytes maxL none (rf a :: As) mem r mem') (k : ∀ r mem', RO E M (g r mem') (pc + 3) lv rest mem') : RO E M (bd o1 g) pc lv (As.reverse ++ rf a :: rest) mem :=
  RO_callV hmi hmv0 hl hk hdd hn hr hd hM k
theorem RO_callSi {g : Int → Mm → Res} {idx n d maxL : Nat} {y : MethodName} {bytes : ByteArray} {ret : Option FieldType} {As rest : List VV}
    (hmi : MI y bytes maxL ret n) (hms : Cond.static y ∈ TBL) (hl : Cond.methodLink M.1 idx y ∈ TBL) (hdd : d < M.2.2.2.2) (hn : As.length = n) (hr : argsW rest ≤ 8) (hret : ∀ r, rvs ret r = [vi r]) (hd : decode M.2.1 pc = .ok (.invokestatic idx, 3))
    (hM : ∀ r mem', o1 = some (r, mem') → MetX E d y bytes maxL ret As mem r mem') (k : ∀ r mem', RO E M (g r mem') (pc + 3) lv (vi r :: rest) mem') : RO E M (bd o1 g) pc lv (As.reverse ++ rest) mem :=
  RO_callS hmi hms hl hdd hn hr hd hM (fun r mem' => by rw [hret]; exact k r mem')
theorem RO_callSl {g : Int → Mm → Res} {idx n d maxL : Nat} {y : MethodName} {bytes : ByteArray} {As rest : List VV}
    (hmi : MI y bytes maxL (some .long) n) (hms : Cond.static y ∈ TBL) (hl : Cond.methodLink M.1 idx y ∈ TBL) (hdd : d < M.2.2.2.2) (hn : As.length = n) (hr : argsW rest ≤ 8) (hd : decode M.2.1 pc = .ok (.invokestatic idx, 3))
    (hM : ∀ r mem', o1 = some (r, mem') → MetX E d y bytes maxL (some .long) As mem r mem') (k : ∀ r mem', RO E M (g r mem') (pc + 3) lv (vl r :: rest) mem') : RO E M (bd o1 g) pc lv (As.reverse ++ rest) mem :=
  RO_callS hmi hms hl hdd hn hr hd hM k
theorem RO_callSv {g : Int → Mm → Res} {idx n d maxL : Nat} {y : MethodName} {bytes : ByteArray} {As rest : List VV}
    (hmi : MI y bytes maxL none n) (hms : Cond.static y ∈ TBL) (hl : Cond.methodLink M.1 idx y ∈ TBL) (hdd : d < M.2.2.2.2) (hn : As.length = n) (hr : argsW rest ≤ 8) (hd : decode M.2.1 pc = .ok (.invokestatic idx, 3))
    (hM : ∀ r mem', o1 = some (r, mem') → MetX E d y bytes maxL none As mem r mem') (k : ∀ r mem', RO E M (g r mem') (pc + 3) lv rest mem') : RO E M (bd o1 g) pc lv (As.reverse ++ rest) mem :=
  RO_callS hmi hms hl hdd hn hr hd hM k
end Rows4
/-! entry -/
theorem sl_len (E : EE) (as : List VV) : (lg_sl (as.map (cv E))).length = argsW as := by
  induction as with
  | nil => rfl
  | cons v vs ih =>
    show (lg_sl (cv E v :: vs.map (cv E))).length = _
    have e1 : lg_sl (cv E v :: vs.map (cv E)) = (if (cv E v).category = 2 then [.val (cv E v), .second] else [.val (cv E v)]) ++ lg_sl (vs.map (cv E)) := by simp [lg_sl]
    rw [e1, List.length_append, ih]
    show _ = (bif Nat.beq v.1 1 then 2 else 1) + argsW vs
    rw [beq_t1 v E]
    rcases lv_cat (cv E v) with h | h <;> rw [h] <;> rfl
theorem args_mem (E : EE) (as : List VV) : ∀ (i j : Nat) (v : VV), (j, v) ∈ argsL i as → (j, cv E v) ∈ lv_args i (as.map (cv E)) := by
  induction as with
  | nil => intro i j v h; cases h
  | cons w vs ih =>
    intro i j v h
    have e1 : lv_args i ((w :: vs).map (cv E)) = (i, cv E w) :: lv_args (i + (cv E w).category) (vs.map (cv E)) := by
      simp only [List.map_cons, lv_args]
      rcases lv_cat (cv E w) with h | h <;> rw [h] <;> rfl
    rw [e1]
    rcases List.mem_cons.mp h with h | h
    · cases h; exact List.mem_cons_self
    · rw [beq_t1 w E] at h
      exact List.mem_cons_of_mem _ (ih _ j v h)
theorem args_ok (as : List VV) : ∀ (i j : Nat) (v : VV), (j, v) ∈ argsL i as → v ∈ as := by
  induction as with
  | nil => intro i j v h; cases h
  | cons w vs ih =>
    intro i j v h
    rcases List.mem_cons.mp h with h | h
    · cases h; exact List.mem_cons_self
    · exact List.mem_cons_of_mem _ (ih _ j v h)
theorem lget_mem {lv : List (Nat × VV)} : ∀ {i : Nat} {v : VV}, lget lv i = some v → (i, v) ∈ lv := by
  induction lv with
  | nil => intro i v h; cases h
  | cons q r ih =>
    obtain ⟨j, w⟩ := q
    intro i v h
    simp only [lget] at h
    by_cases hij : i = j
    · subst hij
      simp at h
      subst h
      exact List.mem_cons_self
    · rw [beq_f hij] at h
      simp only [cond_false] at h
      cases hc : (Nat.beq w.1 1 && Nat.beq i (j + 1)) with
      | true => rw [hc] at h; cases h
      | false =>
        rw [hc] at h
        simp only [cond_false] at h
        cases hg : lget r i with
        | none => rw [hg] at h; cases h
        | some w2 =>
          rw [hg] at h
          simp only at h
          cases hc2 : (Nat.beq w2.1 1 && Nat.beq j (i + 1)) with
          | true => rw [hc2] at h; cases h
          | false => rw [hc2] at h; simp only [cond_false] at h; cases h; exact List.mem_cons_of_mem _ (ih hg)
theorem RO_met {E : EE} {y : MethodName} {bytes : ByteArray} {maxL d : Nat} {ret : Option FieldType} {as : List VV} {mem mem' : Mm} {o : Res} {r : Int} (hy : plainName y.cls = true) (hlen : argsW as ≤ maxL) (k : RO E (y.cls, bytes, maxL, ret, d) o 0 (argsL 0 as) [] mem) (ho : o = some (r, mem')) : MetX E d y bytes maxL ret as mem r mem' := by
  refine Met.ofW (cc := bytes) (maxL := maxL) (ret := ret) hy rfl ?_
  intro p e s m args below meth c s₁ B hml hv
  obtain ⟨rfl, hoA, hw, hev⟩ := hv
  have hl := lv_entry (as.map (cv E)) (n := maxL) (by rw [sl_len]; exact hlen)
  rw [lg_entry_eq]
  refine k r mem' ho p e _ s m _ below meth c ⟨B.exec, B.bytes, hml, B.returns, findClass_of_methodNamed B.named, fun w hw => atoms_spec (ws := .code y bytes maxL ret :: TBL) B.pre w (List.mem_cons_of_mem _ hw), B.notSynchronized, hev, rfl⟩ s.heap [] _ ⟨hl.1, hl.2.1, fun i v hg => ⟨hl.2.2 _ (args_mem E as 0 i v (lget_mem hg)), hoA v (args_ok as 0 i v (lget_mem hg))⟩⟩ (fun v hv => by cases hv) hw va_S.rf
