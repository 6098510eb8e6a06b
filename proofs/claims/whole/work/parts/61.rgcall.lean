/-! Calls of methods that return (MetX), from any room. -/
theorem W_runG {E : EE} {p : Program} {e : Env} {R : Room} {s : State} {m : MethodId} {args : Array Value} {below : List Frame} {meth : Method} {c : Code} {H : Heap} {locs : List Loc} {Q : State → Prop} {pc cl sl : Nat} {ls : Array Slot} {st0 rest : List Value} {ret : Option FieldType} {r : Int} {mem' : Mm} {a : Array Value}
    (hr : va_Run p (eL E) e R s m args below meth c H locs cl sl 0 0 (F0 m pc ls st0) rest (QR E ret r mem' a) (nw E)) (hS : va_S (nw E) s.heap H locs)
    (kk : ∀ (H1 : Heap) (locs1 : List Loc), okr ret r → Wd E mem' H1 → va_S (nw E) s.heap H1 locs1 → W p (eL E) e R s m args below meth c H1 locs1 cl sl Q (F0 m (pc + 3) ls ((rv ret r).toList ++ rest))) : W p (eL E) e R s m args below meth c H locs cl sl Q (F0 m pc ls st0) := by
  intro T hT X
  obtain ⟨v, st₀, t, T', L, h0, X', hL, e1, e2, ⟨hv, hok, hw, hz, hk⟩, st⟩ := hr T hT X
  cases hv
  rw [h0] at hz hk
  obtain ⟨t2, a1, b1⟩ := kk T'.heap (locs ++ L) hok (by rw [e1]; exact hw)
    ⟨Nat.le_trans hS.1 (by rw [e1]; exact hz), fun q h1 h2 => by rw [e1, hk q (Nat.lt_of_lt_of_le h1 hS.1) h2]; exact hS.2.1 q h1 h2, fun q hq => by
      rcases List.mem_append.mp hq with h | h
      · exact hS.2.2 q h
      · exact hL q h⟩ T' rfl X'
  exact ⟨t2, st t2 a1, b1⟩
def roomG (Fx : FT) (d maxL cl sl : Nat) : Prop := ∀ p e R s m args below meth c, Fx p e R s m args below meth c → d + 1 ≤ R.frames ∧ 8 + (maxL + 11) + 40 * d ≤ R.locals ∧ cl ≤ R.cells ∧ sl ≤ R.slots
section CallsG
variable {E : EE} {M : MT} {cl sl : Nat} {Fx : FT} {Z : ZT} {o o1 o2 : Res} {pc : Nat} {lv : List (Nat × VV)} {st : List VV} {mem : Mm}
theorem callB_G {p : Program} {e : Env} {R : Room} {s : State} {m : MethodId} {args : Array Value} {below : List Frame} {meth : Method} {c : Code} {idx n d : Nat} {y : MethodName} {bytes : ByteArray} {maxL : Nat} {ret : Option FieldType} (hF : FrG E M p R s m args meth c) (hFx : Fx p e R s m args below meth c) (hrm : roomG Fx d maxL cl sl) (hmi : MI y bytes maxL ret n) (hl : Cond.methodLink M.1 idx y ∈ TBL) :
    CallB R s args M.1 idx y bytes maxL ret (.code y bytes maxL ret :: TBL) (rmD d) 0 0 n := by
  obtain ⟨h1, h2, h3, h4, h5, h6⟩ := hmi
  have hts := hF.2.2.2.2.2.1
  obtain ⟨r1, r2, -, -⟩ := hrm p e R s m args below meth c hFx
  refine ⟨rfl, rfl, r1, r2, ?_, List.mem_cons_self, hts _ h1, hts _ h2, ⟨h3, h4⟩, fun sig h => ?_, hts _ hl⟩
  · intro w hw a' U hW
    rcases List.mem_cons.mp hw with rfl | hw
    · exact tb_pay hts h1 a' U hW
    · exact tb_pay hts hw a' U hW
  · rw [h] at h5
    exact (Option.some.inj h5).symm
theorem EV_atG {p : Program} {R : Room} {s : State} {m : MethodId} {args : Array Value} {meth : Method} {c : Code} {H : Heap} {locs : List Loc} (hF : FrG E M p R s m args meth c) (hS : va_S (nw E) s.heap H locs) {U : State} (hU : U.heap = H) (hW : s.WarmedH U.vm) : EV E U :=
  EV_move hF.2.2.2.2.2.2.2 hW (by rw [hU]; exact hS.1) (fun a h1 h2 => by rw [hU]; exact hS.2.1 a h1 h2)
theorem RG_callV {g : Int → Mm → Res} {idx n d a ci nf maxL : Nat} {y : MethodName} {bytes : ByteArray} {ret : Option FieldType} {As rest : List VV}
    (hmi : MI y bytes maxL ret n) (hmv0 : MV y ci) (hl : Cond.methodLink M.1 idx y ∈ TBL) (hk : ly_k a = (ci, nf)) (hrm : roomG Fx d maxL cl sl) (hn : As.length = n) (hr : argsW rest ≤ 8) (hd : decode M.2.1 pc = .ok (.invokevirtual idx, 3))
    (hM : ∀ r mem', o1 = some (r, mem') → MetX E d y bytes maxL ret (rf a :: As) mem r mem') (k : ∀ r mem', o1 = some (r, mem') → okr ret r → RG E M cl sl Fx Z (g r mem') (pc + 3) lv (rvs ret r ++ rest) mem') : RG E M cl sl Fx Z (bd o1 g) pc lv (As.reverse ++ rf a :: rest) mem := by
  have hmv := And.intro hmv0.1 hmv0.2.1
  have hc := hmv0.2.2
  intro r mem' ho p e R s m args below meth c hF hFx H locs ls hL hs hw hS
  cases h1 : o1 with
  | none => rw [h1] at ho; cases ho
  | some x =>
    obtain ⟨r1, mem1⟩ := x
    rw [h1] at ho
    have hM1 := hM r1 mem1 h1
    obtain ⟨okA, okR⟩ := okS_rev hs
    have hlt := ly_lt hk (by omega)
    obtain ⟨-, -, r3, r4⟩ := hrm p e R s m args below meth c hFx
    have hrec := va_recv (q0 := a) (ci := ci) hF.2.2.2.2.2.2.2.1 hw.1 (ly_clg hc.1) ((wL_get hlt).trans (by rw [ent_obj hk hc.1]))
    have hst : (As.reverse ++ rf a :: rest).map (cv E) = (As.map (cv E)).reverse ++ Value.ref (eB E + a) :: rest.map (cv E) := by rw [List.map_append, List.map_reverse]; rfl
    rw [hst]
    refine W_runG (ret := ret) (r := r1) (mem' := mem1) (rest := rest.map (cv E)) (va_runV (C := y.cls) (nL := M.2.2.1) (b := eB E + a) (As := As.map (cv E)) ⟨hF.1, hF.2.1, hF.2.2.1, hF.2.2.2.2.1, hF.2.2.2.2.2.1⟩ hM1 ⟨callB_G hF hFx hrm hmi hl, hF.2.2.2.2.2.1 _ hmv.1, hF.2.2.2.2.2.1 _ hmv.2⟩ ⟨Pc_blind, by rw [← hc.2]; exact hrec, fun U hU hW => ⟨rfl, okS_c trivial okA, by rw [hU]; exact hw, EV_atG hF hS hU hW⟩⟩ rfl (by rw [List.length_map]; exact hn) hL.1 rfl (by show 2 * 0 + _ ≤ 8; rw [cat_sum]; omega) hd ⟨r3, r4⟩) hS (fun H1 locs1 hok hw1 hS1 => ?_)
    rw [rvs_cv]
    exact k r1 mem1 h1 hok r mem' ho p e R s m args below meth c hF hFx H1 locs1 ls hL (rvs_ok hok (okS_t okR)) hw1 hS1
theorem RG_callS {g : Int → Mm → Res} {idx n d maxL : Nat} {y : MethodName} {bytes : ByteArray} {ret : Option FieldType} {As rest : List VV}
    (hmi : MI y bytes maxL ret n) (hms : Cond.static y ∈ TBL) (hl : Cond.methodLink M.1 idx y ∈ TBL) (hrm : roomG Fx d maxL cl sl) (hn : As.length = n) (hr : argsW rest ≤ 8) (hd : decode M.2.1 pc = .ok (.invokestatic idx, 3))
    (hM : ∀ r mem', o1 = some (r, mem') → MetX E d y bytes maxL ret As mem r mem') (k : ∀ r mem', o1 = some (r, mem') → okr ret r → RG E M cl sl Fx Z (g r mem') (pc + 3) lv (rvs ret r ++ rest) mem') : RG E M cl sl Fx Z (bd o1 g) pc lv (As.reverse ++ rest) mem := by
  intro r mem' ho p e R s m args below meth c hF hFx H locs ls hL hs hw hS
  cases h1 : o1 with
  | none => rw [h1] at ho; cases ho
  | some x =>
    obtain ⟨r1, mem1⟩ := x
    rw [h1] at ho
    have hM1 := hM r1 mem1 h1
    obtain ⟨okA, okR⟩ := okS_rev hs
    obtain ⟨-, -, r3, r4⟩ := hrm p e R s m args below meth c hFx
    have hst : (As.reverse ++ rest).map (cv E) = (As.map (cv E)).reverse ++ rest.map (cv E) := by rw [List.map_append, List.map_reverse]
    rw [hst]
    refine W_runG (ret := ret) (r := r1) (mem' := mem1) (rest := rest.map (cv E)) (va_runS (nL := M.2.2.1) (As := As.map (cv E)) ⟨hF.1, hF.2.1, hF.2.2.1, hF.2.2.2.2.1, hF.2.2.2.2.2.1⟩ hM1 ⟨callB_G hF hFx hrm hmi hl, hF.2.2.2.2.2.1 _ hms⟩ ⟨Pc_blind, fun U hU hW => ⟨rfl, okA, by rw [hU]; exact hw, EV_atG hF hS hU hW⟩⟩ rfl (by rw [List.length_map]; exact hn) hL.1 rfl (by show 2 * 0 + _ ≤ 8; rw [cat_sum]; omega) hd ⟨r3, r4⟩) hS (fun H1 locs1 hok hw1 hS1 => ?_)
    rw [rvs_cv]
    exact k r1 mem1 h1 hok r mem' ho p e R s m args below meth c hF hFx H1 locs1 ls hL (rvs_ok hok okR) hw1 hS1
end CallsG
