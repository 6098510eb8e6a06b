/-! Calls and entry in the raw world. -/
theorem W_runC {E : EE} {p : Program} {e : Env} {R : Room} {s : State} {m : MethodId} {args : Array Value} {below : List Frame} {meth : Method} {c : Code} {H : Heap} {locs : List Loc} {Q : State → Prop} {pc cells slots mc ms tN : Nat} {ls : Array Slot} {st0 rest : List Value} {ret : Option FieldType} {r : Int} {mem' : Mm} {a : Array Value}
    (hr : va_Run p (eL E) e R s m args below meth c H locs cells slots mc ms (F0 m pc ls st0) rest (QC E tN ret r mem' a) (nw E)) (hS : va_S (nw E) s.heap H locs)
    (kk : ∀ (H1 : Heap) (locs1 : List Loc), okr ret r → mN mem' = tN → Wc E mem' H1 → va_S (nw E) s.heap H1 locs1 → W p (eL E) e R s m args below meth c H1 locs1 (cells + mc) (slots + ms) Q (F0 m (pc + 3) ls ((rv ret r).toList ++ rest))) : W p (eL E) e R s m args below meth c H locs cells slots Q (F0 m pc ls st0) := by
  intro T hT X
  obtain ⟨v, st₀, t, T', L, h0, X', hL, e1, e2, ⟨hv, hok, hw, ⟨hz, hk⟩, hN⟩, st⟩ := hr T hT X
  cases hv
  rw [h0] at hz hk
  obtain ⟨t2, a1, b1⟩ := kk T'.heap (locs ++ L) hok hN (by rw [e1]; exact hw)
    ⟨Nat.le_trans hS.1 (by rw [e1]; exact hz), fun q h1 h2 => by rw [e1, hk q (Nat.lt_of_lt_of_le h1 hS.1) h2]; exact hS.2.1 q h1 h2, fun q hq => by
      rcases List.mem_append.mp hq with h | h
      · exact hS.2.2 q h
      · exact hL q h⟩ T' rfl X'
  exact ⟨t2, st t2 a1, b1⟩
theorem PcC_blind {E : EE} {n0 : Nat} {as : List VV} {mem : Mm} : FrameBlind (va_Pc (as.map (cv E)) (fun U => okS as ∧ Wc E mem U.heap ∧ EV E U ∧ mN mem = n0 ∧ U.heap.size = eB E + n0 ∧ AO3 U)) := by
  intro a U g mk q
  obtain ⟨q0, q1, q2, q3, q4, q5, q6⟩ := q
  exact ⟨q0, q1, q2, EV_same q3 rfl rfl, q4, q5, AO3.moved (u := U) (Vm.Alike.refl U.vm) q6⟩
section RawK
variable {E : EE} {n0 tN : Nat} {nm : String} {M : MT} {o o1 o2 : Res} {pc : Nat} {lv : List (Nat × VV)} {st : List VV} {mem : Mm}
/-- what every call in the raw world needs and gives, whichever way it is linked -/
theorem RC_call {g : Int → Mm → Res} {d t1 maxL n : Nat} {y : MethodName} {bytes : ByteArray} {As rest st0 : List VV}
    (hmi : MI y bytes maxL none n) (h1 : mN mem ≤ t1) (h2 : t1 ≤ tN) (hdd : d < M.2.2.2.2) (hst : okS st0 → okS As ∧ okS rest)
    (hM : ∀ r mem1, o1 = some (r, mem1) → MetC E (mN mem) t1 d y bytes maxL none As mem r mem1)
    (run : ∀ (p : Program) (e : Env) (R : Room) (s : State) (m : MethodId) (args : Array Value) (below : List Frame) (meth : Method) (c : Code) (H : Heap) (locs : List Loc) (ls : Array Slot) (r : Int) (mem1 : Mm), FrK E M n0 tN p R s m args meth c → ls.size = M.2.2.1 → okS As → Wc E mem H →
      MetC E (mN mem) t1 d y bytes maxL none As mem r mem1 → (∀ U : State, U.heap = H → s.WarmedH U.vm → va_Pc (As.map (cv E)) (fun U => okS As ∧ Wc E mem U.heap ∧ EV E U ∧ mN mem = mN mem ∧ U.heap.size = eB E + mN mem ∧ AO3 U) (As.map (cv E)).toArray U) →
      (rmC d (t1 - mN mem) (cS t1 - cS (mN mem))).frames + 1 ≤ R.frames → 8 + (maxL + 11) + (rmC d (t1 - mN mem) (cS t1 - cS (mN mem))).locals ≤ R.locals →
      (∀ w ∈ Cond.code y bytes maxL none :: TBL, ∀ (a' : Array Value) (U : State), s.WarmedH U.vm → w.before a' U = true) →
      (mN mem - n0 + (t1 - mN mem) ≤ R.cells ∧ cS (mN mem) - cS n0 + (cS t1 - cS (mN mem)) ≤ R.slots) →
      va_Run p (eL E) e R s m args below meth c H locs (mN mem - n0) (cS (mN mem) - cS n0) (t1 - mN mem) (cS t1 - cS (mN mem)) (F0 m pc ls (st0.map (cv E))) (rest.map (cv E)) (QC E t1 none r mem1 (As.map (cv E)).toArray) (nw E))
    (k : ∀ r mem1, RC E n0 tN nm M (g r mem1) (pc + 3) lv rest mem1) : RC E n0 tN nm M (bd o1 g) pc lv st0 mem := by
  intro r mem' ho p e R s m args below meth c hF hnm H locs ls hL hs hw hn0 hS
  cases h9 : o1 with
  | none => rw [h9] at ho; cases ho
  | some x =>
    obtain ⟨r1, mem1⟩ := x
    rw [h9] at ho
    have hM1 := hM r1 mem1 h9
    obtain ⟨okA, okR⟩ := hst hs
    have hts := hF.2.2.2.2.2.1
    obtain ⟨hR, hs0, hao⟩ := hF.2.2.2.2.2.2.2.2
    have c1 := cS_mono hn0
    have c2 := cS_mono h1
    have c3 := cS_mono h2
    refine W_sz (fun hsz => ?_)
    have hH : H.size = eB E + mN mem := by
      have := Wc_lo hw (Nat.le_trans hF.2.2.2.2.2.2.2.1.2.2.1 hS.1)
      omega
    refine W_runC (run p e R s m args below meth c H locs ls r1 mem1 hF hL.1 okA hw hM1 (fun U hU hW => ⟨rfl, okA, by rw [hU]; exact hw, EV_move hF.2.2.2.2.2.2.2.1 hW (by rw [hU]; exact hS.1) (fun a h1 h2 => by rw [hU]; exact hS.2.1 a h1 h2), rfl, by rw [hU]; exact hH, AO3.moved hW.alike hao⟩) (by rw [hR]; show d + 1 ≤ M.2.2.2.2; omega) (by rw [hR]; show 8 + (maxL + 11) + 40 * d ≤ 40 * M.2.2.2.2; have := hmi.2.2.2.2.2; omega) ?_ ⟨by rw [hR]; show _ ≤ tN - n0; omega, by rw [hR]; show _ ≤ cS tN - cS n0; omega⟩) hS (fun H1 locs1 hok hN hw1 hS1 => ?_)
    · intro w hw a' U hW
      rcases List.mem_cons.mp hw with rfl | hw
      · exact tb_pay hts hmi.1 a' U hW
      · exact tb_pay hts hw a' U hW
    · have hk := k r1 mem1 r mem' ho p e R s m args below meth c hF hnm H1 locs1 ls hL okR hw1 (by omega) hS1
      rw [hN] at hk
      rw [show mN mem - n0 + (t1 - mN mem) = t1 - n0 by omega, show cS (mN mem) - cS n0 + (cS t1 - cS (mN mem)) = cS t1 - cS n0 by omega]
      exact hk
theorem ps_of {y : MethodName} {n : Nat} (h5 : (parseMethodDescriptor y.desc).map (fun d => d.parameters.length) = some n) : ∀ sig, parseMethodDescriptor y.desc = some sig → n = sig.parameters.length := fun sig h => by
  rw [h] at h5
  exact (Option.some.inj h5).symm
theorem RC_callIN {g : Int → Mm → Res} {idx d t1 maxL n a : Nat} {y : MethodName} {bytes : ByteArray} {As rest : List VV} {host : String}
    (hmi : MI y bytes maxL none n) (hin : Cond.instanceMethod y ∈ TBL ∧ y.name = "<init>") (hl : Cond.methodLinkNest M.1 idx y host ∈ nsW) (h1 : mN mem ≤ t1) (h2 : t1 ≤ tN) (hdd : d < M.2.2.2.2) (hn : As.length = n) (hr : argsW rest ≤ 8) (hd : decode M.2.1 pc = .ok (.invokespecial idx, 3))
    (hM : ∀ r mem1, o1 = some (r, mem1) → MetC E (mN mem) t1 d y bytes maxL none (rf a :: As) mem r mem1) (k : ∀ r mem1, RC E n0 tN nm M (g r mem1) (pc + 3) lv rest mem1) : RC E n0 tN nm M (bd o1 g) pc lv (As.reverse ++ rf a :: rest) mem :=
  RC_call (As := rf a :: As) hmi h1 h2 hdd (fun hs => ⟨okS_c trivial (okS_rev hs).1, okS_t (okS_rev hs).2⟩) hM (fun p e R s m args below meth c H locs ls r mem1 hF hsz okA hw hM1 hpc f1 f2 hws hcs => by
    have hts := hF.2.2.2.2.2.1
    obtain ⟨i1, i2, i3, i4, i5, i6⟩ := hmi
    have hst : (As.reverse ++ rf a :: rest).map (cv E) = (As.map (cv E)).reverse ++ Value.ref (eB E + a) :: rest.map (cv E) := by rw [List.map_append, List.map_reverse]; rfl
    rw [hst]
    exact va_runIN (nL := M.2.2.1) (b := eB E + a) (As := As.map (cv E)) ⟨hF.1, hF.2.1, hF.2.2.1, hF.2.2.2.2.1, hts⟩ hM1 ⟨⟨⟨rfl, rfl, f1, f2, hws, List.mem_cons_self⟩, hts _ i1, hts _ i2, ⟨i3, i4⟩, ps_of i5, va_Nw.use rfl (hF.2.2.2.2.2.2.2.1.2.1 _ hl)⟩, hin.2, hts _ hin.1⟩ ⟨PcC_blind, hpc⟩ rfl (by rw [List.length_map]; exact hn) hsz rfl (by show 2 * 0 + _ ≤ 8; rw [cat_sum]; omega) hd hcs) k
theorem RC_callI {g : Int → Mm → Res} {idx d t1 maxL n a : Nat} {y : MethodName} {bytes : ByteArray} {As rest : List VV}
    (hmi : MI y bytes maxL none n) (hin : Cond.instanceMethod y ∈ TBL ∧ y.name = "<init>") (hl : Cond.methodLink M.1 idx y ∈ TBL) (h1 : mN mem ≤ t1) (h2 : t1 ≤ tN) (hdd : d < M.2.2.2.2) (hn : As.length = n) (hr : argsW rest ≤ 8) (hd : decode M.2.1 pc = .ok (.invokespecial idx, 3))
    (hM : ∀ r mem1, o1 = some (r, mem1) → MetC E (mN mem) t1 d y bytes maxL none (rf a :: As) mem r mem1) (k : ∀ r mem1, RC E n0 tN nm M (g r mem1) (pc + 3) lv rest mem1) : RC E n0 tN nm M (bd o1 g) pc lv (As.reverse ++ rf a :: rest) mem :=
  RC_call (As := rf a :: As) hmi h1 h2 hdd (fun hs => ⟨okS_c trivial (okS_rev hs).1, okS_t (okS_rev hs).2⟩) hM (fun p e R s m args below meth c H locs ls r mem1 hF hsz okA hw hM1 hpc f1 f2 hws hcs => by
    have hts := hF.2.2.2.2.2.1
    obtain ⟨i1, i2, i3, i4, i5, i6⟩ := hmi
    have hst : (As.reverse ++ rf a :: rest).map (cv E) = (As.map (cv E)).reverse ++ Value.ref (eB E + a) :: rest.map (cv E) := by rw [List.map_append, List.map_reverse]; rfl
    rw [hst]
    exact va_runI (nL := M.2.2.1) (b := eB E + a) (As := As.map (cv E)) ⟨hF.1, hF.2.1, hF.2.2.1, hF.2.2.2.2.1, hts⟩ hM1 ⟨⟨rfl, rfl, f1, f2, hws, List.mem_cons_self, hts _ i1, hts _ i2, ⟨i3, i4⟩, ps_of i5, hts _ hl⟩, hin.2, hts _ hin.1⟩ ⟨PcC_blind, hpc⟩ rfl (by rw [List.length_map]; exact hn) hsz rfl (by show 2 * 0 + _ ≤ 8; rw [cat_sum]; omega) hd hcs) k
theorem RC_callV {g : Int → Mm → Res} {idx d t1 maxL n a ci nf : Nat} {y : MethodName} {bytes : ByteArray} {As rest : List VV}
    (hmi : MI y bytes maxL none n) (hmv : MV y ci) (hl : Cond.methodLink M.1 idx y ∈ TBL) (hk : ly_k a = (ci, nf)) (ha : a < mN mem) (h1 : mN mem ≤ t1) (h2 : t1 ≤ tN) (hdd : d < M.2.2.2.2) (hn : As.length = n) (hr : argsW rest ≤ 8) (hd : decode M.2.1 pc = .ok (.invokevirtual idx, 3))
    (hM : ∀ r mem1, o1 = some (r, mem1) → MetC E (mN mem) t1 d y bytes maxL none (rf a :: As) mem r mem1) (k : ∀ r mem1, RC E n0 tN nm M (g r mem1) (pc + 3) lv rest mem1) : RC E n0 tN nm M (bd o1 g) pc lv (As.reverse ++ rf a :: rest) mem :=
  RC_call (As := rf a :: As) hmi h1 h2 hdd (fun hs => ⟨okS_c trivial (okS_rev hs).1, okS_t (okS_rev hs).2⟩) hM (fun p e R s m args below meth c H locs ls r mem1 hF hsz okA hw hM1 hpc f1 f2 hws hcs => by
    have hts := hF.2.2.2.2.2.1
    obtain ⟨i1, i2, i3, i4, i5, i6⟩ := hmi
    obtain ⟨v1, v2, v3, v4⟩ := hmv
    have hrec := va_recv (q0 := a) (ci := ci) hF.2.2.2.2.2.2.2.1.1 hw.1 (ly_clg v3) ((wR_get ha).trans (by rw [entR_obj hk v3]))
    have hst : (As.reverse ++ rf a :: rest).map (cv E) = (As.map (cv E)).reverse ++ Value.ref (eB E + a) :: rest.map (cv E) := by rw [List.map_append, List.map_reverse]; rfl
    rw [hst]
    exact va_runV (C := y.cls) (nL := M.2.2.1) (b := eB E + a) (As := As.map (cv E)) ⟨hF.1, hF.2.1, hF.2.2.1, hF.2.2.2.2.1, hts⟩ hM1 ⟨⟨rfl, rfl, f1, f2, hws, List.mem_cons_self, hts _ i1, hts _ i2, ⟨i3, i4⟩, ps_of i5, hts _ hl⟩, hts _ v1, hts _ v2⟩ ⟨PcC_blind, by rw [← v4]; exact hrec, hpc⟩ rfl (by rw [List.length_map]; exact hn) hsz rfl (by show 2 * 0 + _ ≤ 8; rw [cat_sum]; omega) hd hcs) k
theorem RC_callS {g : Int → Mm → Res} {idx d t1 maxL n : Nat} {y : MethodName} {bytes : ByteArray} {As rest : List VV}
    (hmi : MI y bytes maxL none n) (hms : Cond.static y ∈ TBL) (hl : Cond.methodLink M.1 idx y ∈ TBL) (h1 : mN mem ≤ t1) (h2 : t1 ≤ tN) (hdd : d < M.2.2.2.2) (hn : As.length = n) (hr : argsW rest ≤ 8) (hd : decode M.2.1 pc = .ok (.invokestatic idx, 3))
    (hM : ∀ r mem1, o1 = some (r, mem1) → MetC E (mN mem) t1 d y bytes maxL none As mem r mem1) (k : ∀ r mem1, RC E n0 tN nm M (g r mem1) (pc + 3) lv rest mem1) : RC E n0 tN nm M (bd o1 g) pc lv (As.reverse ++ rest) mem :=
  RC_call (As := As) hmi h1 h2 hdd (fun hs => okS_rev hs) hM (fun p e R s m args below meth c H locs ls r mem1 hF hsz okA hw hM1 hpc f1 f2 hws hcs => by
    have hts := hF.2.2.2.2.2.1
    obtain ⟨i1, i2, i3, i4, i5, i6⟩ := hmi
    have hst : (As.reverse ++ rest).map (cv E) = (As.map (cv E)).reverse ++ rest.map (cv E) := by rw [List.map_append, List.map_reverse]
    rw [hst]
    exact va_runS (nL := M.2.2.1) (As := As.map (cv E)) ⟨hF.1, hF.2.1, hF.2.2.1, hF.2.2.2.2.1, hts⟩ hM1 ⟨⟨rfl, rfl, f1, f2, hws, List.mem_cons_self, hts _ i1, hts _ i2, ⟨i3, i4⟩, ps_of i5, hts _ hl⟩, hts _ hms⟩ ⟨PcC_blind, hpc⟩ rfl (by rw [List.length_map]; exact hn) hsz rfl (by show 2 * 0 + _ ≤ 8; rw [cat_sum]; omega) hd hcs) k
end RawK
theorem RC_met {E : EE} {y : MethodName} {bytes : ByteArray} {maxL d n0 tN : Nat} {ret : Option FieldType} {as : List VV} {mem mem' : Mm} {o : Res} {r : Int} (hy : plainName y.cls = true) (hlen : argsW as ≤ maxL) (hn : mN mem = n0) (k : RC E n0 tN y.name (y.cls, bytes, maxL, ret, d) o 0 (argsL 0 as) [] mem) (ho : o = some (r, mem')) : MetC E n0 tN d y bytes maxL ret as mem r mem' := by
  refine Met.ofW (cc := bytes) (maxL := maxL) (ret := ret) hy rfl ?_
  intro p e s m args below meth c s₁ B hml hv
  obtain ⟨rfl, hoA, hw, hev, hn1, hsz, hao⟩ := hv
  have hl := lv_entry (as.map (cv E)) (n := maxL) (by rw [sl_len]; exact hlen)
  rw [lg_entry_eq]
  have h9 := k r mem' ho p e _ s m _ below meth c ⟨B.exec, B.bytes, hml, B.returns, findClass_of_methodNamed B.named, fun w hw => atoms_spec (ws := .code y bytes maxL ret :: TBL) B.pre w (List.mem_cons_of_mem _ hw), B.notSynchronized, hev, rfl, hsz, hao⟩ (name_of_methodNamed B.named B.method).1 s.heap [] _ ⟨hl.1, hl.2.1, fun i v hg => ⟨hl.2.2 _ (args_mem E as 0 i v (lget_mem hg)), hoA v (args_ok as 0 i v (lget_mem hg))⟩⟩ (fun v hv => by cases hv) hw (by omega) va_S.rf
  rw [hn, Nat.sub_self, Nat.sub_self] at h9
  exact h9
