/-! The law's entry: the two objects and the array are made. -/
section Lp
theorem xcl_8 : Cond.classLink "HillClockLaw" 8 (ly_cn 10) ∈ TBL := tb_i1 28 (by decide +kernel) (by decide +kernel)
theorem xml_15 : Cond.methodLink "HillClockLaw" 15 yn_Clock_init ∈ TBL := tb_i1 30 (by decide +kernel) (by decide +kernel)
theorem xmi_Clock_init : MI yn_Clock_init cd_Clock_init 2 none 0 := ⟨tb_i1 32 (by decide +kernel) (by decide +kernel), tb_i1 1 (by decide +kernel) (by decide +kernel), by decide +kernel, by decide +kernel, by decide +kernel, by decide⟩
theorem xii_Clock_init : Cond.instanceMethod yn_Clock_init ∈ TBL := tb_i1 31 (by decide +kernel) (by decide +kernel)
theorem xcl_16 : Cond.classLink "HillClockLaw" 16 (ly_cn 11) ∈ TBL := tb_i6 101 (by decide +kernel) (by decide +kernel)
theorem xml_18 : Cond.methodLink "HillClockLaw" 18 yn_Model_init ∈ TBL := tb_i6 103 (by decide +kernel) (by decide +kernel)
theorem xmi_Model_init : MI yn_Model_init cd_Model_init 1 none 0 := ⟨tb_i6 105 (by decide +kernel) (by decide +kernel), tb_i1 13 (by decide +kernel) (by decide +kernel), by decide +kernel, by decide +kernel, by decide +kernel, by decide⟩
theorem xii_Model_init : Cond.instanceMethod yn_Model_init ∈ TBL := tb_i6 104 (by decide +kernel) (by decide +kernel)
theorem xit_10 : Cond.initialized (ly_cn 10) ∈ TBL := tb_i1 1 (by decide +kernel) (by decide +kernel)
theorem xit_11 : Cond.initialized (ly_cn 11) ∈ TBL := tb_i1 13 (by decide +kernel) (by decide +kernel)
theorem xar_JL : Cond.arrayClass .long ∈ TBL := List.mem_filter.mpr ⟨List.mem_append_right _ ea_J, by decide +kernel⟩
theorem cS_261 : cS 261 ≤ 100000 := by decide +kernel
variable {E : EE} {b L : Nat} {xs : Nat → Int32} {pc : Nat} {lv : List (Nat × VV)} {st : List VV} {mem : Mm}
def RP (E : EE) (b L : Nat) (xs : Nat → Int32) (pc : Nat) (lv : List (Nat × VV)) (st : List VV) (mem : Mm) : Prop :=
  ∀ (p : Program) (e : Env) (R : Room) (s : State) (m : MethodId) (args : Array Value) (below : List Frame) (meth : Method) (c : Code), FrG E mt_law p R s m args meth c → FLW E b L xs p e R s m args below meth c → AO3 s →
    ∀ (H : Heap) (locs : List Loc) (ls : Array Slot), LO E ls mt_law.2.2.1 lv → okS st → Wc E mem H → va_S (nw E) s.heap H locs →
      W p (eL E) e R s m args below meth c H locs (mN mem) (cS (mN mem)) (lw_Z below args s) (F0 m pc ls (st.map (cv E)))
theorem RP_go {pc' : Nat} {st' : List VV} {lv' : List (Nat × VV)}
    (h : ∀ (p : Program) (e : Env) (R : Room) (s : State) (m : MethodId) (args : Array Value) (below : List Frame) (meth : Method) (c : Code) (H : Heap) (locs : List Loc) (ls : Array Slot) (Q : State → Prop), FrG E mt_law p R s m args meth c → LO E ls mt_law.2.2.1 lv → okS st → Wc E mem H → va_S (nw E) s.heap H locs →
      (∀ ls' : Array Slot, LO E ls' mt_law.2.2.1 lv' → okS st' → W p (eL E) e R s m args below meth c H locs (mN mem) (cS (mN mem)) Q (F0 m pc' ls' (st'.map (cv E)))) → W p (eL E) e R s m args below meth c H locs (mN mem) (cS (mN mem)) Q (F0 m pc ls (st.map (cv E))))
    (k : RP E b L xs pc' lv' st' mem) : RP E b L xs pc lv st mem :=
  fun p e R s m args below meth c hF hx hao H locs ls hL hs hw hS => h p e R s m args below meth c H locs ls _ hF hL hs hw hS (fun ls' hL' hs' => k p e R s m args below meth c hF hx hao H locs ls' hL' hs' hw hS)
theorem RP_iconst {n : Int} (hd : decode code pc = .ok (.iconst n, 1)) (k : RP E b L xs (pc + 1) lv (vi n :: st) mem) (hn : okI n := by exact ⟨by decide, by decide⟩) : RP E b L xs pc lv st mem :=
  RP_go (fun p e R s m args below meth c H locs ls Q hF hL hs hw hS kk => lv_iconst hF.1 hF.2.1 hd rfl (kk ls hL (okS_i hn hs))) k
theorem RP_dup {a : Nat} (hd : decode code pc = .ok (.dup, 1)) (k : RP E b L xs (pc + 1) lv (rf a :: rf a :: st) mem) : RP E b L xs pc lv (rf a :: st) mem :=
  RP_go (fun p e R s m args below meth c H locs ls Q hF hL hs hw hS kk => lv_dup hF.1 hF.2.1 hd (cat1 (nt2 a)) (kk ls hL (okS_c (okS_h hs) hs))) k
theorem RP_astore_n {j : Fin 4} {i : Nat} {a : Nat} (hd : decode code pc = .ok (.astore_n j, 1)) (hi : (j : Nat) = i) (hn : i < 7) (k : RP E b L xs (pc + 1) ((i, rf a) :: lv) st mem) : RP E b L xs pc lv (rf a :: st) mem :=
  RP_go (fun p e R s m args below meth c H locs ls Q hF hL hs hw hS kk => lv_astore_n hF.1 hF.2.1 hd hi (LO_has hL) hn rfl (fun ls' h' => kk ls' (LO_store1 (v := rf a) hL (by show (2 : Nat) ≠ 1; decide) (okS_h hs) h') (okS_t hs))) k
theorem RP_istore {i : Nat} {x : Int} (hd : decode code pc = .ok (.istore i, 2)) (hn : i < 7) (k : RP E b L xs (pc + 2) ((i, vi x) :: lv) st mem) : RP E b L xs pc lv (vi x :: st) mem :=
  RP_go (fun p e R s m args below meth c H locs ls Q hF hL hs hw hS kk => lv_istore hF.1 hF.2.1 hd (LO_has hL) hn rfl (fun ls' h' => kk ls' (LO_store1 (v := vi x) hL (by show (0 : Nat) ≠ 1; decide) (okS_h hs) h') (okS_t hs))) k
theorem RP_room {n : Nat} (h : mN mem < 261) (hk : (ly_k (mN mem)).2 = n) : mN mem + 1 ≤ room_1.cells ∧ cS (mN mem) + n ≤ room_1.slots := by
  have h1 : cS (mN mem + 1) ≤ cS 261 := cS_mono (by omega)
  have h2 : cS (mN mem + 1) = cS (mN mem) + (ly_k (mN mem)).2 := rfl
  have h3 := cS_261
  refine ⟨?_, ?_⟩
  · show _ ≤ 601024; omega
  · show _ ≤ 7293034; omega
theorem RP_nw {d : Nat → Int} (h : mN mem < 261) : mN (mnw mem d) = mN mem + 1 ∧ cS (mN (mnw mem d)) = cS (mN mem) + (ly_k (mN mem)).2 := by
  rw [mN_nw]
  exact ⟨rfl, rfl⟩
theorem RP_new {idx ci n : Nat} (hc : ci < 12) (hn : (ly_tg ci).length = n) (hk : ly_k (mN mem) = (ci, n)) (hcl : Cond.classLink "HillClockLaw" idx (ly_cn ci) ∈ TBL) (hins : Cond.instantiable (ly_cn ci) n ∈ TBL) (hini : Cond.initialized (ly_cn ci) ∈ TBL) (hd : decode code pc = .ok (.new idx, 3)) (k : RP E b L xs (pc + 3) lv (rf (mN mem) :: st) (mnw mem (dfO ci))) : RP E b L xs pc lv st mem := by
  intro p e R s m args below meth c hF hx hao H locs ls hL hs hw hS
  subst hn
  have hts := hF.2.2.2.2.2.1
  obtain ⟨hR, hs0, -⟩ := id hx
  have hlt : mN mem < 261 := ly_lt hk (by omega)
  have hK := hF.2.2.2.2.2.2.2.1
  have hKn := hK.1 ci _ (ly_clg hc)
  have hrm := RP_room (mem := mem) hlt (n := (ly_tg ci).length) (by rw [hk])
  refine W_sz (fun hsz => ?_)
  have hH : H.size = eB E + mN mem := by
    have := Wc_lo hw (Nat.le_trans hF.2.2.2.2.2.2.2.2.2.1 hS.1)
    omega
  refine W.newcK hF.1 hF.2.1 hF.2.2.2.2.1 (hts _ hcl) (hts _ hins) (hts _ hini) rfl hd (by rw [hR]; exact hrm.1) (by rw [hR]; exact hrm.2) hKn.2.1 hH (fun H1 kC hkC e1 z1 o1 => ?_)
  have hkp : ∀ (k : Nat) (x : Nat × va_E), (wR E mem)[k]? = some x → H1[x.1]? = H[x.1]? := fun k x hx => o1 x.1 (by rw [← hH]; exact (hw.1 k x hx).lt)
  have hP1 : va_P (eD E) ly_cl (wR E mem ++ [(eB E + mN mem, .inr (ci, rowR E ci (dfO ci)))]) H1 := (hw.1.kept hkp).app (fun k x hx => by
    have hz : k < 1 := (List.getElem?_eq_some_iff.mp hx).1
    rw [show k = 0 by omega] at hx
    cases hx
    refine ⟨_, ly_clg hc, (u_born (ly_ty ci) hts (ly_lay hc) hKn hkC e1 (ly_hty hc)).to (fun j hj => ?_)⟩
    have hj : j < (ly_tg ci).length := hj
    show defaultValue (ly_ty ci j) = (rowR E ci (dfO ci)).getD j .null
    rw [List.getD_eq_getElem?_getD, rowR_get (t := (ly_tg ci).getD j (5, 0)) (by rw [List.getD_eq_getElem?_getD, List.getElem?_eq_getElem hj]; rfl)]
    exact dfO_fv E hc hj)
  have hW1 := RC_made (d := dfO ci) hw hlt (fun j => by rw [hk]; exact dfO_ok hc j) (by rw [entR_obj hk hc]) hP1
  have hS1 : va_S (nw E) s.heap H1 locs := ⟨by omega, fun x h1 h2 => (o1 x (by omega)).trans (hS.2.1 x h1 h2), hS.2.2⟩
  have h9 := k p e R s m args below meth c hF hx hao H1 locs ls hL (okS_c trivial hs) hW1 hS1
  obtain ⟨q1, q2⟩ := RP_nw (d := dfO ci) hlt
  rw [q2, q1, hk] at h9
  exact h9
theorem RP_newaJ {n : Nat} {x : Int} (hx9 : x = (n : Int)) (hn : n ≤ 100000) (hk : ly_k (mN mem) = (13, n)) (hd : decode code pc = .ok (.newarray .long, 2)) (k : RP E b L xs (pc + 2) lv (rf (mN mem) :: st) (mnw mem (fun _ => 0))) : RP E b L xs pc lv (vi x :: st) mem := by
  intro p e R s m args below meth c hF hx hao H locs ls hL hs hw hS
  subst hx9
  have hts := hF.2.2.2.2.2.1
  obtain ⟨hR, hs0, -⟩ := id hx
  have hlt : mN mem < 261 := ly_lt hk (by omega)
  have hK := hF.2.2.2.2.2.2.2.1
  have hrm := RP_room (mem := mem) hlt (n := n) (by rw [hk])
  refine W_sz (fun hsz => ?_)
  have hH : H.size = eB E + mN mem := by
    have := Wc_lo hw (Nat.le_trans hF.2.2.2.2.2.2.2.2.2.1 hS.1)
    omega
  have hcn : (Int32.ofInt (n : Int)).toNatClampNeg = n := by
    show (Int32.ofInt (n : Int)).toInt.toNat = n
    rw [toI ⟨by omega, by omega⟩]; rfl
  have hng : ¬ Int32.ofInt (n : Int) < 0 := fun q => by
    have := (of_lt (x := (n : Int)) (y := 0) ⟨by omega, by omega⟩ okI_0).mp q
    omega
  refine va_newaK (atype := .long) (n := Int32.ofInt (n : Int)) (N := n) (rest := st.map (cv E)) hF.1 hF.2.1 (hts _ xar_JL) rfl hd rfl hng hcn (by show n * 8 ≤ 536870912; omega) (by rw [hR]; exact hrm.1) (by rw [hR]; exact hrm.2) hH (fun H1 cA e1 z1 o1 hAr hfc => ?_)
  have hcA : cA = eA E 13 := by
    have h1 := (hK.2 1 (eA E 13, .long) rfl).2
    exact Option.some.inj (hfc.symm.trans h1)
  subst hcA
  have hkp : ∀ (k : Nat) (x : Nat × va_E), (wR E mem)[k]? = some x → H1[x.1]? = H[x.1]? := fun k x hx => o1 x.1 (by rw [← hH]; exact (hw.1 k x hx).lt)
  have hP1 : va_P (eD E) ly_cl (wR E mem ++ [(eB E + mN mem, .inl (eA E 13, entAR E 13 n (fun _ => 0)))]) H1 := (hw.1.kept hkp).app (fun k x hx => by
    have hz : k < 1 := (List.getElem?_eq_some_iff.mp hx).1
    rw [show k = 0 by omega] at hx
    cases hx
    exact e1)
  have hW1 := RC_made (d := fun _ => 0) hw hlt (fun j => by rw [hk]; first | exact okI_0 | exact okL_0 | exact ⟨by decide, by decide⟩ | exact Or.inl rfl) (by rw [entR_arr hk (by decide)]) hP1
  have hS1 : va_S (nw E) s.heap H1 locs := ⟨by omega, fun x h1 h2 => (o1 x (by omega)).trans (hS.2.1 x h1 h2), hS.2.2⟩
  have h9 := k p e R s m args below meth c hF hx hao H1 locs ls hL (okS_c trivial (okS_t hs)) hW1 hS1
  obtain ⟨q1, q2⟩ := RP_nw (d := fun _ => 0) hlt
  rw [q2, q1, hk] at h9
  exact h9
theorem RP_init {idx d t1 maxL a : Nat} {y : MethodName} {bytes : ByteArray} {rest : List VV} {r : Int} {mem1 : Mm} (hmi : MI y bytes maxL none 0) (hin : Cond.instanceMethod y ∈ TBL) (hin2 : y.name = "<init>") (hl : Cond.methodLink "HillClockLaw" idx y ∈ TBL) (h1 : mN mem ≤ t1) (h2 : t1 ≤ 261) (hdd : d ≤ 100) (hr : argsW rest ≤ 8) (hd : decode code pc = .ok (.invokespecial idx, 3))
    (hM : MetC E (mN mem) t1 d y bytes maxL none [rf a] mem r mem1) (k : mN mem1 = t1 → RP E b L xs (pc + 3) lv rest mem1) : RP E b L xs pc lv (rf a :: rest) mem := by
  intro p e R s m args below meth c hF hx hao H locs ls hL hs hw hS
  have hts := hF.2.2.2.2.2.1
  obtain ⟨hR, hs0, -⟩ := id hx
  have c2 := cS_mono h1
  have c3 := cS_mono h2
  have c4 := cS_261
  have okR := okS_t hs
  refine W_sz (fun hsz => ?_)
  have hH : H.size = eB E + mN mem := by
    have := Wc_lo hw (Nat.le_trans hF.2.2.2.2.2.2.2.2.2.1 hS.1)
    omega
  obtain ⟨i1, i2, i3, i4, i5, i6⟩ := hmi
  have hws : ∀ w ∈ Cond.code y bytes maxL none :: TBL, ∀ (a' : Array Value) (U : State), s.WarmedH U.vm → w.before a' U = true := fun w hw a' U hW => by
    rcases List.mem_cons.mp hw with rfl | hw
    · exact tb_pay hts i1 a' U hW
    · exact tb_pay hts hw a' U hW
  have hpc : ∀ U : State, U.heap = H → s.WarmedH U.vm → va_Pc ([rf a].map (cv E)) (fun U => okS [rf a] ∧ Wc E mem U.heap ∧ EV E U ∧ mN mem = mN mem ∧ U.heap.size = eB E + mN mem ∧ AO3 U) ([rf a].map (cv E)).toArray U := fun U hU hW => ⟨rfl, okS_c trivial (fun v hv => by cases hv), by rw [hU]; exact hw, EV_move hF.2.2.2.2.2.2.2 hW (by rw [hU]; exact hS.1) (fun a h1 h2 => by rw [hU]; exact hS.2.1 a h1 h2), rfl, by rw [hU]; exact hH, AO3.moved hW.alike hao⟩
  refine W_runC (ret := none) (r := r) (mem' := mem1) (tN := t1) (mc := t1 - mN mem) (ms := cS t1 - cS (mN mem)) (rest := rest.map (cv E)) (a := ([rf a].map (cv E)).toArray) (va_runI (nL := mt_law.2.2.1) (b := eB E + a) (As := []) (rest := rest.map (cv E)) ⟨hF.1, hF.2.1, hF.2.2.1, hF.2.2.2.2.1, hts⟩ hM ⟨⟨rfl, rfl, by rw [hR]; show d + 1 ≤ 2048; omega, by rw [hR]; show 8 + (maxL + 11) + 40 * d ≤ 84000; omega, hws, List.mem_cons_self, hts _ i1, hts _ i2, ⟨i3, i4⟩, ps_of i5, hts _ hl⟩, hin2, hts _ hin⟩ ⟨PcC_blind, hpc⟩ rfl rfl hL.1 rfl (by show 2 * 0 + _ ≤ 8; rw [cat_sum]; omega) hd ⟨by rw [hR]; show _ ≤ 601024; omega, by rw [hR]; show _ ≤ 7293034; omega⟩) hS (fun H1 locs1 hok hN hw1 hS1 => ?_)
  have hk := k hN p e R s m args below meth c hF hx hao H1 locs1 ls hL okR hw1 hS1
  rw [hN] at hk
  rw [show mN mem + (t1 - mN mem) = t1 by omega, show cS (mN mem) + (cS t1 - cS (mN mem)) = cS t1 by omega]
  exact hk
theorem RP_end (hN : mN mem = 261) (hwd : ∀ H, Wc E mem H → Wd E mem H) (k : okm mem → RL E b L xs 261 (cS 261) pc lv st mem) : RP E b L xs pc lv st mem := by
  intro p e R s m args below meth c hF hx hao H locs ls hL hs hw hS
  have h9 := k hw.2.1 1 (fun _ _ => 0) rfl p e R s m args below meth c hF hx H locs ls hL hs (hwd H hw) hS
  rw [hN]
  exact h9
end Lp
