/-! A call of a method that may throw. -/
section Cy
theorem exF_move {E : EE} {s U : State} (h : exF E s) (hW : s.WarmedH U.vm) (hk : ∀ a : Nat, a < s.heap.size → ¬ nw E a → U.heap[a]? = s.heap[a]?) : exF E U :=
  ⟨fun w hw hb => exB_warm hW hb (h.1 w hw hb), (h.2.1.moved hW.alike).kept hk, (h.2.2.moved hW.alike).kept hk⟩
theorem PcY_blind {E : EE} {as : List VV} {mem : Mm} : FrameBlind (va_Pc (as.map (cv E)) (fun U => okS as ∧ Wd E mem U.heap ∧ EV E U ∧ exF E U)) := by
  intro a U g mk q
  obtain ⟨q0, q1, q2, q3, q4⟩ := q
  exact ⟨q0, q1, q2, EV_same q3 rfl rfl, exF_move q4 (State.WarmedH.refl U) (fun _ _ _ => rfl)⟩
variable {E : EE} {M : MT} {cl sl : Nat} {Fx : FT} {Z : ZT} {o : Res} {pc : Nat} {lv : List (Nat × VV)} {st : List VV} {mem : Mm}
def roomY (E : EE) (Fx : FT) (d maxL cl sl : Nat) : Prop := ∀ p e R s m args below meth c, Fx p e R s m args below meth c → d + 1 ≤ R.frames ∧ 8 + (maxL + 11) + 40 * d ≤ R.locals ∧ cl + 1 ≤ R.cells ∧ sl + 6 ≤ R.slots ∧ exF E s
theorem callB_Y {p : Program} {e : Env} {R : Room} {s : State} {m : MethodId} {args : Array Value} {below : List Frame} {meth : Method} {c : Code} {idx n d : Nat} {y : MethodName} {bytes : ByteArray} {maxL : Nat} {ret : Option FieldType} (hF : FrG E M p R s m args meth c) (hFx : Fx p e R s m args below meth c) (hrm : roomY E Fx d maxL cl sl) (hmi : MI y bytes maxL ret n) (hl : Cond.methodLink M.1 idx y ∈ TBL) :
    CallB R s args M.1 idx y bytes maxL ret (.code y bytes maxL ret :: TBL) (rmY d) 1 6 n := by
  obtain ⟨h1, h2, h3, h4, h5, h6⟩ := hmi
  have hts := hF.2.2.2.2.2.1
  obtain ⟨r1, r2, -, -⟩ := hrm p e R s m args below meth c hFx
  refine ⟨rfl, rfl, r1, r2, ?_, List.mem_cons_self, hts _ h1, hts _ h2, ⟨h3, h4⟩, fun sig h => ?_, hts _ hl⟩
  · intro w hw a' U hW
    rcases List.mem_cons.mp hw with rfl | hw
    · exact tb_pay hts h1 a' U hW
    · exact tb_pay hts hw a' U hW
  · rw [h] at h5
    exact (Option.some.inj h5).symm
theorem RG_callVY {idx n d a ci nf maxL : Nat} {y : MethodName} {bytes : ByteArray} {As rest : List VV} {r1 : Int} {mem1 : Mm}
    (hmi : MI y bytes maxL (some .int) n) (hmv0 : MV y ci) (hl : Cond.methodLink M.1 idx y ∈ TBL) (hk : ly_k a = (ci, nf)) (hrm : roomY E Fx d maxL cl sl) (hn : As.length = n) (hr : argsW rest ≤ 8) (hd : decode M.2.1 pc = .ok (.invokevirtual idx, 3))
    (hM : MetY E d y bytes maxL (rf a :: As) mem r1 mem1) (kN : r1 ≠ THR → okI r1 → RG E M (cl + 1) (sl + 6) Fx Z o (pc + 3) lv (vi r1 :: rest) mem1)
    (kX : r1 = THR → ∀ r mem', o = some (r, mem') → ∀ (p : Program) (e : Env) (R : Room) (s : State) (m : MethodId) (args : Array Value) (below : List Frame) (meth : Method) (c : Code), FrG E M p R s m args meth c → Fx p e R s m args below meth c → ∀ (H : Heap) (locs : List Loc) (ls : Array Slot) (q : Addr) (ce : Cell), LO E ls M.2.2.1 lv → Wd E mem1 H → va_S (nw E) s.heap H locs → H[q]? = some ce → ce.vm = .none → s.vm.findClass exN = some ce.cls →
      vx_W p (eL E) e R s m args below meth c H locs (cl + 1) (sl + 6) (Z r mem' p e R s m args below meth c) (F0 m pc ls (rest.map (cv E))) q) : RG E M cl sl Fx Z o pc lv (As.reverse ++ rf a :: rest) mem := by
  have hmv := And.intro hmv0.1 hmv0.2.1
  have hc := hmv0.2.2
  intro r mem' ho p e R s m args below meth c hF hFx H locs ls hL hs hw hS
  obtain ⟨okA, okR⟩ := okS_rev hs
  have hlt := ly_lt hk (by omega)
  obtain ⟨-, -, r3, r4, hx⟩ := hrm p e R s m args below meth c hFx
  have hrec := va_recv (q0 := a) (ci := ci) hF.2.2.2.2.2.2.2.1 hw.1 (ly_clg hc.1) ((wL_get hlt).trans (by rw [ent_obj hk hc.1]))
  have hst : (As.reverse ++ rf a :: rest).map (cv E) = (As.map (cv E)).reverse ++ Value.ref (eB E + a) :: rest.map (cv E) := by rw [List.map_append, List.map_reverse]; rfl
  rw [hst]
  have hrun := vx_runV (C := y.cls) (nL := M.2.2.1) (b := eB E + a) (As := As.map (cv E)) (rest := rest.map (cv E)) (H := H) (locs := locs) (cells := cl) (slots := sl) (g := F0 m pc ls ((As.map (cv E)).reverse ++ Value.ref (eB E + a) :: rest.map (cv E))) (p := p) (e := e) (below := below) (meth := meth) (c := c) ⟨hF.1, hF.2.1, hF.2.2.1, hF.2.2.2.2.1, hF.2.2.2.2.2.1⟩ hM ⟨callB_Y hF hFx hrm hmi hl, hF.2.2.2.2.2.1 _ hmv.1, hF.2.2.2.2.2.1 _ hmv.2⟩ ⟨PcY_blind, by rw [← hc.2]; exact hrec, fun U hU hW => ⟨rfl, okS_c trivial okA, by rw [hU]; exact hw, EV_atG hF hS hU hW, exF_move hx hW (fun a h1 h2 => by rw [hU]; exact hS.2.1 a h1 h2)⟩⟩ rfl (by rw [List.length_map]; exact hn) hL.1 rfl (by show 2 * 0 + _ ≤ 8; rw [cat_sum]; omega) hd ⟨r3, r4⟩
  have keep : ∀ (st₀ t : State) (T' : State) (L : List Loc), st₀.heap = H → T'.heap = t.heap → va_F (nw E) st₀ t → (∀ q ∈ L, nw E q.base) → va_S (nw E) s.heap T'.heap (locs ++ L) := fun st₀ t T' L h0 e1 hF hL => by
    obtain ⟨hz, hk⟩ := hF
    rw [h0] at hz hk
    exact ⟨Nat.le_trans hS.1 (by rw [e1]; exact hz), fun q h1 h2 => by rw [e1, hk q (Nat.lt_of_lt_of_le h1 hS.1) h2]; exact hS.2.1 q h1 h2, fun q hq => by
      rcases List.mem_append.mp hq with h | h
      · exact hS.2.2 q h
      · exact hL q h⟩
  intro T hT X
  rcases hrun T hT X with ⟨v, st₀, t, T', L, h0, X', hL', e1, e2, ⟨hne, hv, hok, hw1, hF1⟩, st⟩ | ⟨q, st₀, t, T', L, E', ce, h0, X', hL', e1, e2, ⟨hr1, hcls, hw1, hF1⟩, hce, hcv, hcl, st⟩
  · cases hv
    obtain ⟨t2, a1, b1⟩ := kN hne hok r mem' ho p e R s m args below meth c hF hFx T'.heap (locs ++ L) ls hL (okS_i hok (okS_t okR)) (by rw [e1]; exact hw1) (keep st₀ t T' L h0 e1 hF1 hL') T' rfl X'
    exact ⟨t2, st t2 a1, b1⟩
  · subst hcls
    obtain ⟨t2, a1, b1⟩ := kX hr1 r mem' ho p e R s m args below meth c hF hFx T'.heap (locs ++ L) ls q ce hL (by rw [e1]; exact hw1) (keep st₀ t T' L h0 e1 hF1 hL') (by rw [e1]; exact hce) hcv hcl T' rfl X'
    exact ⟨t2, st.trans a1, b1⟩
end Cy
