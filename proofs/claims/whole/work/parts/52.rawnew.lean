/-! Making cells; calls and entry in the raw world. -/
theorem W_sz {p : Program} {l : Launch} {e : Env} {R : Room} {s : State} {m : MethodId} {args : Array Value} {below : List Frame} {meth : Method} {c : Code} {H : Heap} {locs : List Loc} {cells slots : Nat} {Q : State → Prop} {g : JFrame} (k : H.size ≤ s.heap.size + cells → W p l e R s m args below meth c H locs cells slots Q g) : W p l e R s m args below meth c H locs cells slots Q g := by
  intro T hT X
  have h1 : T.heap.size ≤ s.heap.size + cells := X.same.2.2.1
  rw [hT] at h1
  exact k h1 T hT X
theorem Wc_lo {E : EE} {mem : Mm} {H : Heap} (hw : Wc E mem H) (h0 : eB E ≤ H.size) : eB E + mN mem ≤ H.size := by
  by_cases h : mN mem = 0
  · omega
  · have hk : (wR E mem)[mN mem - 1]? = some (eB E + (mN mem - 1), entR E (mN mem - 1) (mem (mN mem - 1))) := wR_get (by omega)
    have := (hw.1 _ _ hk).lt
    omega
section RawN
variable {E : EE} {n0 tN : Nat} {nm : String} {M : MT} {o o1 o2 : Res} {pc : Nat} {lv : List (Nat × VV)} {st : List VV} {mem : Mm}
theorem cS_nw {d : Nat → Int} (h0 : n0 ≤ mN mem) : cS (mN mem) - cS n0 + (ly_k (mN mem)).2 = cS (mN (mnw mem d)) - cS n0 := by
  rw [mN_nw]
  show _ = cS (mN mem) + (ly_k (mN mem)).2 - cS n0
  have := cS_mono h0
  omega
theorem cN_nw {d : Nat → Int} (h0 : n0 ≤ mN mem) : mN mem - n0 + 1 = mN (mnw mem d) - n0 := by
  rw [mN_nw]; omega
theorem room_nw (h0 : n0 ≤ mN mem) (ht : mN mem < tN) : mN mem - n0 + 1 ≤ tN - n0 ∧ cS (mN mem) - cS n0 + (ly_k (mN mem)).2 ≤ cS tN - cS n0 := by
  refine ⟨by omega, ?_⟩
  have h1 := cS_mono h0
  have h2 : cS (mN mem + 1) ≤ cS tN := cS_mono (by omega)
  have h3 : cS (mN mem + 1) = cS (mN mem) + (ly_k (mN mem)).2 := rfl
  omega
theorem dfO_fv (E : EE) {ci j : Nat} (hc : ci < 12) (hj : j < (ly_tg ci).length) : defaultValue (ly_ty ci j) = fvR E ((ly_tg ci).getD j (5, 0)).1 (dfO ci j) := by
  have h : ∀ ci, ci < 12 → ∀ j, j < (ly_tg ci).length → (((ly_tg ci).getD j (0, 0)).1 = 0 ∧ defaultValue (ly_ty ci j) = .int 0) ∨ (((ly_tg ci).getD j (0, 0)).1 = 1 ∧ defaultValue (ly_ty ci j) = .long 0) ∨ (((ly_tg ci).getD j (0, 0)).1 = 4 ∧ defaultValue (ly_ty ci j) = .int 0) ∨ (((ly_tg ci).getD j (0, 0)).1 = 2 ∧ defaultValue (ly_ty ci j) = .null) ∨ (((ly_tg ci).getD j (0, 0)).1 = 3 ∧ defaultValue (ly_ty ci j) = .null) ∨ (((ly_tg ci).getD j (0, 0)).1 = 5 ∧ defaultValue (ly_ty ci j) = .null) := by decide +kernel
  have e1 : (ly_tg ci).getD j (5, 0) = (ly_tg ci).getD j (0, 0) := by
    rw [List.getD_eq_getElem?_getD, List.getD_eq_getElem?_getD, List.getElem?_eq_getElem hj]; rfl
  rw [e1]
  unfold dfO
  rcases h ci hc j hj with ⟨h1, h2⟩ | ⟨h1, h2⟩ | ⟨h1, h2⟩ | ⟨h1, h2⟩ | ⟨h1, h2⟩ | ⟨h1, h2⟩ <;> rw [h1, h2] <;> rfl
theorem dfO_ok {ci n : Nat} (hc : ci < 12) (j : Nat) : okc (ci, n) j (dfO ci j) := by
  unfold okc
  simp only [hc, if_true]
  by_cases hj : j < (ly_tg ci).length
  · have e1 : (ly_tg ci).getD j (5, 0) = (ly_tg ci).getD j (0, 0) := by
      rw [List.getD_eq_getElem?_getD, List.getD_eq_getElem?_getD, List.getElem?_eq_getElem hj]; rfl
    have h : ∀ ci, ci < 12 → ∀ j, j < (ly_tg ci).length → ((ly_tg ci).getD j (0, 0)).1 < 6 := by decide +kernel
    have h6 := h ci hc j hj
    rw [e1]
    unfold dfO
    generalize ((ly_tg ci).getD j (0, 0)).1 = t at h6
    have ht : t = 0 ∨ t = 1 ∨ t = 2 ∨ t = 3 ∨ t = 4 ∨ t = 5 := by omega
    rcases ht with rfl | rfl | rfl | rfl | rfl | rfl
    · exact okI_0
    · exact okL_0
    · trivial
    · exact ⟨by decide, by decide⟩
    · exact Or.inl rfl
    · trivial
  · have e1 : (ly_tg ci).getD j (5, 0) = (5, 0) := by rw [List.getD_eq_getElem?_getD, List.getElem?_eq_none (by omega)]; rfl
    rw [e1]
    trivial
/-- a cell more: what the rows of making share -/
theorem RC_made {d : Nat → Int} {H H1 : Heap} {en : va_E} (hw : Wc E mem H) (hN : mN mem < 261) (hd : ∀ j, okc (ly_k (mN mem)) j (d j)) (he : en = entR E (mN mem) d) (hP : va_P (eD E) ly_cl (wR E mem ++ [(eB E + mN mem, en)]) H1) : Wc E (mnw mem d) H1 := by
  refine ⟨?_, okm_nw hw.2.1 (by omega) hd, by rw [mN_nw]; omega⟩
  rw [wR_nw (by omega), ← he]
  exact hP
theorem RC_new {idx ci n : Nat} (hc : ci < 12) (hn : (ly_tg ci).length = n) (hk : ly_k (mN mem) = (ci, n)) (ht : mN mem < tN) (hcl : Cond.classLink M.1 idx (ly_cn ci) ∈ TBL) (hins : Cond.instantiable (ly_cn ci) n ∈ TBL) (hini : Cond.initialized (ly_cn ci) ∈ TBL) (hd : decode M.2.1 pc = .ok (.new idx, 3)) (k : RC E n0 tN nm M o (pc + 3) lv (rf (mN mem) :: st) (mnw mem (dfO ci))) : RC E n0 tN nm M o pc lv st mem := by
  intro r mem' ho p e R s m args below meth c hF hnm H locs ls hL hs hw hn0 hS
  subst hn
  have hts := hF.2.2.2.2.2.1
  obtain ⟨hR, hs0, hao⟩ := hF.2.2.2.2.2.2.2.2
  have hlt : mN mem < 261 := ly_lt hk (by omega)
  have hK := hF.2.2.2.2.2.2.2.1.1
  have hKn := hK.1 ci _ (ly_clg hc)
  have hrm := room_nw (n0 := n0) (tN := tN) hn0 ht
  rw [hk] at hrm
  refine W_sz (fun hsz => ?_)
  have hH : H.size = eB E + mN mem := by
    have := Wc_lo hw (Nat.le_trans hF.2.2.2.2.2.2.2.1.2.2.1 hS.1)
    omega
  refine W.newcK hF.1 hF.2.1 hF.2.2.2.2.1 (hts _ hcl) (hts _ hins) (hts _ hini) rfl hd (by rw [hR]; exact hrm.1) (by rw [hR]; exact hrm.2) hKn.2.1 hH (fun H1 kC hkC e1 z1 o1 => ?_)
  have hkp : ∀ (k : Nat) (x : Nat × va_E), (wR E mem)[k]? = some x → H1[x.1]? = H[x.1]? := fun k x hx => o1 x.1 (by rw [← hH]; exact (hw.1 k x hx).lt)
  have hP1 : va_P (eD E) ly_cl (wR E mem ++ [(eB E + mN mem, .inr (ci, rowR E ci (dfO ci)))]) H1 := (hw.1.kept hkp).app (fun k x hx => by
    have hz : k < 1 := (List.getElem?_eq_some_iff.mp hx).1
    rw [show k = 0 by omega] at hx
    cases hx
    refine ⟨_, ly_clg hc, (u_born (ly_ty ci) hts (ly_lay hc) hKn hkC e1 (ly_hty hc)).to (fun j hj => ?_)⟩
    have hj : j < (ly_tg ci).length := hj
    show defaultValue (ly_ty ci j) = (rowR E ci (dfO ci)).getD j .null
    rw [List.getD_eq_getElem?_getD, rowR_get (t := (ly_tg ci).getD j (5, 0)) (by rw [List.getD_eq_getElem?_getD, List.getElem?_eq_getElem hj]; rfl)]
    exact dfO_fv E hc hj)
  have hW1 := RC_made (d := dfO ci) hw hlt (fun j => by rw [hk]; exact dfO_ok hc j) (by rw [entR_obj hk hc]) hP1
  have hS1 : va_S (nw E) s.heap H1 locs := ⟨by omega, fun x h1 h2 => (o1 x (by omega)).trans (hS.2.1 x h1 h2), hS.2.2⟩
  have h9 := k r mem' ho p e R s m args below meth c hF hnm H1 locs ls hL (okS_c trivial hs) hW1 (by rw [mN_nw]; omega) hS1
  rw [← cN_nw (d := dfO ci) hn0, ← cS_nw (d := dfO ci) hn0, hk] at h9
  exact h9
theorem RC_newaI {n : Nat} {x : Int} (hx : x = (n : Int)) (hn : n ≤ 100000) (hk : ly_k (mN mem) = (12, n)) (ht : mN mem < tN) (harr : Cond.arrayClass .int ∈ TBL) (hd : decode M.2.1 pc = .ok (.newarray .int, 2)) (k : RC E n0 tN nm M o (pc + 2) lv (rf (mN mem) :: st) (mnw mem (fun _ => 0))) : RC E n0 tN nm M o pc lv (vi x :: st) mem := by
  intro r mem' ho p e R s m args below meth c hF hnm H locs ls hL hs hw hn0 hS
  subst hx
  have hts := hF.2.2.2.2.2.1
  obtain ⟨hR, hs0, hao⟩ := hF.2.2.2.2.2.2.2.2
  have hlt : mN mem < 261 := ly_lt hk (by omega)
  have hK := hF.2.2.2.2.2.2.2.1.1
  have hrm := room_nw (n0 := n0) (tN := tN) hn0 ht
  rw [hk] at hrm
  refine W_sz (fun hsz => ?_)
  have hH : H.size = eB E + mN mem := by
    have := Wc_lo hw (Nat.le_trans hF.2.2.2.2.2.2.2.1.2.2.1 hS.1)
    omega
  have hcn : (Int32.ofInt (n : Int)).toNatClampNeg = n := by
    show (Int32.ofInt (n : Int)).toInt.toNat = n
    rw [toI ⟨by omega, by omega⟩]; rfl
  have hng : ¬ Int32.ofInt (n : Int) < 0 := fun q => by
    have := (of_lt (x := (n : Int)) (y := 0) ⟨by omega, by omega⟩ okI_0).mp q
    omega
  refine va_newaK (atype := .int) (n := Int32.ofInt (n : Int)) (N := n) (rest := st.map (cv E)) hF.1 hF.2.1 (hts _ harr) rfl hd rfl hng hcn (by show n * 4 ≤ 536870912; omega) (by rw [hR]; exact hrm.1) (by rw [hR]; exact hrm.2) hH (fun H1 cA e1 z1 o1 hAr hfc => ?_)
  have hcA : cA = eA E 12 := by
    have h1 := (hK.2 0 (eA E 12, .int) rfl).2
    exact Option.some.inj (hfc.symm.trans h1)
  subst hcA
  have hkp : ∀ (k : Nat) (x : Nat × va_E), (wR E mem)[k]? = some x → H1[x.1]? = H[x.1]? := fun k x hx => o1 x.1 (by rw [← hH]; exact (hw.1 k x hx).lt)
  have hP1 : va_P (eD E) ly_cl (wR E mem ++ [(eB E + mN mem, .inl (eA E 12, entAR E 12 n (fun _ => 0)))]) H1 := (hw.1.kept hkp).app (fun k x hx => by
    have hz : k < 1 := (List.getElem?_eq_some_iff.mp hx).1
    rw [show k = 0 by omega] at hx
    cases hx
    exact e1)
  have hW1 := RC_made (d := fun _ => 0) hw hlt (fun j => by rw [hk]; first | exact okI_0 | exact okL_0 | exact ⟨by decide, by decide⟩ | exact Or.inl rfl) (by rw [entR_arr hk (by decide)]) hP1
  have hS1 : va_S (nw E) s.heap H1 locs := ⟨by omega, fun x h1 h2 => (o1 x (by omega)).trans (hS.2.1 x h1 h2), hS.2.2⟩
  have h9 := k r mem' ho p e R s m args below meth c hF hnm H1 locs ls hL (okS_c trivial (okS_t hs)) hW1 (by rw [mN_nw]; omega) hS1
  rw [← cN_nw (d := fun _ => 0) hn0, ← cS_nw (d := fun _ => 0) hn0, hk] at h9
  exact h9
theorem RC_newaJ {n : Nat} {x : Int} (hx : x = (n : Int)) (hn : n ≤ 100000) (hk : ly_k (mN mem) = (13, n)) (ht : mN mem < tN) (harr : Cond.arrayClass .long ∈ TBL) (hd : decode M.2.1 pc = .ok (.newarray .long, 2)) (k : RC E n0 tN nm M o (pc + 2) lv (rf (mN mem) :: st) (mnw mem (fun _ => 0))) : RC E n0 tN nm M o pc lv (vi x :: st) mem := by
  intro r mem' ho p e R s m args below meth c hF hnm H locs ls hL hs hw hn0 hS
  subst hx
  have hts := hF.2.2.2.2.2.1
  obtain ⟨hR, hs0, hao⟩ := hF.2.2.2.2.2.2.2.2
  have hlt : mN mem < 261 := ly_lt hk (by omega)
  have hK := hF.2.2.2.2.2.2.2.1.1
  have hrm := room_nw (n0 := n0) (tN := tN) hn0 ht
  rw [hk] at hrm
  refine W_sz (fun hsz => ?_)
  have hH : H.size = eB E + mN mem := by
    have := Wc_lo hw (Nat.le_trans hF.2.2.2.2.2.2.2.1.2.2.1 hS.1)
    omega
  have hcn : (Int32.ofInt (n : Int)).toNatClampNeg = n := by
    show (Int32.ofInt (n : Int)).toInt.toNat = n
    rw [toI ⟨by omega, by omega⟩]; rfl
  have hng : ¬ Int32.ofInt (n : Int) < 0 := fun q => by
    have := (of_lt (x := (n : Int)) (y := 0) ⟨by omega, by omega⟩ okI_0).mp q
    omega
  refine va_newaK (atype := .long) (n := Int32.ofInt (n : Int)) (N := n) (rest := st.map (cv E)) hF.1 hF.2.1 (hts _ harr) rfl hd rfl hng hcn (by show n * 8 ≤ 536870912; omega) (by rw [hR]; exact hrm.1) (by rw [hR]; exact hrm.2) hH (fun H1 cA e1 z1 o1 hAr hfc => ?_)
  have hcA : cA = eA E 13 := by
    have h1 := (hK.2 1 (eA E 13, .long) rfl).2
    exact Option.some.inj (hfc.symm.trans h1)
  subst hcA
  have hkp : ∀ (k : Nat) (x : Nat × va_E), (wR E mem)[k]? = some x → H1[x.1]? = H[x.1]? := fun k x hx => o1 x.1 (by rw [← hH]; exact (hw.1 k x hx).lt)
  have hP1 : va_P (eD E) ly_cl (wR E mem ++ [(eB E + mN mem, .inl (eA E 13, entAR E 13 n (fun _ => 0)))]) H1 := (hw.1.kept hkp).app (fun k x hx => by
    have hz : k < 1 := (List.getElem?_eq_some_iff.mp hx).1
    rw [show k = 0 by omega] at hx
    cases hx
    exact e1)
  have hW1 := RC_made (d := fun _ => 0) hw hlt (fun j => by rw [hk]; first | exact okI_0 | exact okL_0 | exact ⟨by decide, by decide⟩ | exact Or.inl rfl) (by rw [entR_arr hk (by decide)]) hP1
  have hS1 : va_S (nw E) s.heap H1 locs := ⟨by omega, fun x h1 h2 => (o1 x (by omega)).trans (hS.2.1 x h1 h2), hS.2.2⟩
  have h9 := k r mem' ho p e R s m args below meth c hF hnm H1 locs ls hL (okS_c trivial (okS_t hs)) hW1 (by rw [mN_nw]; omega) hS1
  rw [← cN_nw (d := fun _ => 0) hn0, ← cS_nw (d := fun _ => 0) hn0, hk] at h9
  exact h9
theorem RC_newaC {n : Nat} {x : Int} (hx : x = (n : Int)) (hn : n ≤ 100000) (hk : ly_k (mN mem) = (14, n)) (ht : mN mem < tN) (harr : Cond.arrayClass .char ∈ TBL) (hd : decode M.2.1 pc = .ok (.newarray .char, 2)) (k : RC E n0 tN nm M o (pc + 2) lv (rf (mN mem) :: st) (mnw mem (fun _ => 0))) : RC E n0 tN nm M o pc lv (vi x :: st) mem := by
  intro r mem' ho p e R s m args below meth c hF hnm H locs ls hL hs hw hn0 hS
  subst hx
  have hts := hF.2.2.2.2.2.1
  obtain ⟨hR, hs0, hao⟩ := hF.2.2.2.2.2.2.2.2
  have hlt : mN mem < 261 := ly_lt hk (by omega)
  have hK := hF.2.2.2.2.2.2.2.1.1
  have hrm := room_nw (n0 := n0) (tN := tN) hn0 ht
  rw [hk] at hrm
  refine W_sz (fun hsz => ?_)
  have hH : H.size = eB E + mN mem := by
    have := Wc_lo hw (Nat.le_trans hF.2.2.2.2.2.2.2.1.2.2.1 hS.1)
    omega
  have hcn : (Int32.ofInt (n : Int)).toNatClampNeg = n := by
    show (Int32.ofInt (n : Int)).toInt.toNat = n
    rw [toI ⟨by omega, by omega⟩]; rfl
  have hng : ¬ Int32.ofInt (n : Int) < 0 := fun q => by
    have := (of_lt (x := (n : Int)) (y := 0) ⟨by omega, by omega⟩ okI_0).mp q
    omega
  refine va_newaK (atype := .char) (n := Int32.ofInt (n : Int)) (N := n) (rest := st.map (cv E)) hF.1 hF.2.1 (hts _ harr) rfl hd rfl hng hcn (by show n * 2 ≤ 536870912; omega) (by rw [hR]; exact hrm.1) (by rw [hR]; exact hrm.2) hH (fun H1 cA e1 z1 o1 hAr hfc => ?_)
  have hcA : cA = eA E 14 := by
    have h1 := (hK.2 2 (eA E 14, .char) rfl).2
    exact Option.some.inj (hfc.symm.trans h1)
  subst hcA
  have hkp : ∀ (k : Nat) (x : Nat × va_E), (wR E mem)[k]? = some x → H1[x.1]? = H[x.1]? := fun k x hx => o1 x.1 (by rw [← hH]; exact (hw.1 k x hx).lt)
  have hP1 : va_P (eD E) ly_cl (wR E mem ++ [(eB E + mN mem, .inl (eA E 14, entAR E 14 n (fun _ => 0)))]) H1 := (hw.1.kept hkp).app (fun k x hx => by
    have hz : k < 1 := (List.getElem?_eq_some_iff.mp hx).1
    rw [show k = 0 by omega] at hx
    cases hx
    exact e1)
  have hW1 := RC_made (d := fun _ => 0) hw hlt (fun j => by rw [hk]; first | exact okI_0 | exact okL_0 | exact ⟨by decide, by decide⟩ | exact Or.inl rfl) (by rw [entR_arr hk (by decide)]) hP1
  have hS1 : va_S (nw E) s.heap H1 locs := ⟨by omega, fun x h1 h2 => (o1 x (by omega)).trans (hS.2.1 x h1 h2), hS.2.2⟩
  have h9 := k r mem' ho p e R s m args below meth c hF hnm H1 locs ls hL (okS_c trivial (okS_t hs)) hW1 (by rw [mN_nw]; omega) hS1
  rw [← cN_nw (d := fun _ => 0) hn0, ← cS_nw (d := fun _ => 0) hn0, hk] at h9
  exact h9
theorem RC_newaZ {n : Nat} {x : Int} (hx : x = (n : Int)) (hn : n ≤ 100000) (hk : ly_k (mN mem) = (15, n)) (ht : mN mem < tN) (harr : Cond.arrayClass .boolean ∈ TBL) (hd : decode M.2.1 pc = .ok (.newarray .boolean, 2)) (k : RC E n0 tN nm M o (pc + 2) lv (rf (mN mem) :: st) (mnw mem (fun _ => 0))) : RC E n0 tN nm M o pc lv (vi x :: st) mem := by
  intro r mem' ho p e R s m args below meth c hF hnm H locs ls hL hs hw hn0 hS
  subst hx
  have hts := hF.2.2.2.2.2.1
  obtain ⟨hR, hs0, hao⟩ := hF.2.2.2.2.2.2.2.2
  have hlt : mN mem < 261 := ly_lt hk (by omega)
  have hK := hF.2.2.2.2.2.2.2.1.1
  have hrm := room_nw (n0 := n0) (tN := tN) hn0 ht
  rw [hk] at hrm
  refine W_sz (fun hsz => ?_)
  have hH : H.size = eB E + mN mem := by
    have := Wc_lo hw (Nat.le_trans hF.2.2.2.2.2.2.2.1.2.2.1 hS.1)
    omega
  have hcn : (Int32.ofInt (n : Int)).toNatClampNeg = n := by
    show (Int32.ofInt (n : Int)).toInt.toNat = n
    rw [toI ⟨by omega, by omega⟩]; rfl
  have hng : ¬ Int32.ofInt (n : Int) < 0 := fun q => by
    have := (of_lt (x := (n : Int)) (y := 0) ⟨by omega, by omega⟩ okI_0).mp q
    omega
  refine va_newaK (atype := .boolean) (n := Int32.ofInt (n : Int)) (N := n) (rest := st.map (cv E)) hF.1 hF.2.1 (hts _ harr) rfl hd rfl hng hcn (by show n * 1 ≤ 536870912; omega) (by rw [hR]; exact hrm.1) (by rw [hR]; exact hrm.2) hH (fun H1 cA e1 z1 o1 hAr hfc => ?_)
  have hcA : cA = eA E 15 := by
    have h1 := (hK.2 3 (eA E 15, .boolean) rfl).2
    exact Option.some.inj (hfc.symm.trans h1)
  subst hcA
  have hkp : ∀ (k : Nat) (x : Nat × va_E), (wR E mem)[k]? = some x → H1[x.1]? = H[x.1]? := fun k x hx => o1 x.1 (by rw [← hH]; exact (hw.1 k x hx).lt)
  have hP1 : va_P (eD E) ly_cl (wR E mem ++ [(eB E + mN mem, .inl (eA E 15, entAR E 15 n (fun _ => 0)))]) H1 := (hw.1.kept hkp).app (fun k x hx => by
    have hz : k < 1 := (List.getElem?_eq_some_iff.mp hx).1
    rw [show k = 0 by omega] at hx
    cases hx
    exact e1)
  have hW1 := RC_made (d := fun _ => 0) hw hlt (fun j => by rw [hk]; first | exact okI_0 | exact okL_0 | exact ⟨by decide, by decide⟩ | exact Or.inl rfl) (by rw [entR_arr hk (by decide)]) hP1
  have hS1 : va_S (nw E) s.heap H1 locs := ⟨by omega, fun x h1 h2 => (o1 x (by omega)).trans (hS.2.1 x h1 h2), hS.2.2⟩
  have h9 := k r mem' ho p e R s m args below meth c hF hnm H1 locs ls hL (okS_c trivial (okS_t hs)) hW1 (by rw [mN_nw]; omega) hS1
  rw [← cN_nw (d := fun _ => 0) hn0, ← cS_nw (d := fun _ => 0) hn0, hk] at h9
  exact h9
theorem RC_anewW {n idx : Nat} {x : Int} (hx : x = (n : Int)) (hn : n ≤ 100000) (hk : ly_k (mN mem) = (18, n)) (ht : mN mem < tN) (hcl : Cond.classLink M.1 idx "HillClock$Walker" ∈ TBL) (hd : decode M.2.1 pc = .ok (.anewarray idx, 3)) (k : RC E n0 tN nm M o (pc + 3) lv (rf (mN mem) :: st) (mnw mem (fun _ => -1))) : RC E n0 tN nm M o pc lv (vi x :: st) mem := by
  intro r mem' ho p e R s m args below meth c hF hnm H locs ls hL hs hw hn0 hS
  subst hx
  have hts := hF.2.2.2.2.2.1
  obtain ⟨hR, hs0, hao⟩ := hF.2.2.2.2.2.2.2.2
  have hlt : mN mem < 261 := ly_lt hk (by omega)
  have hK := hF.2.2.2.2.2.2.2.1.1
  have hrm := room_nw (n0 := n0) (tN := tN) hn0 ht
  rw [hk] at hrm
  refine W_sz (fun hsz => ?_)
  have hH : H.size = eB E + mN mem := by
    have := Wc_lo hw (Nat.le_trans hF.2.2.2.2.2.2.2.1.2.2.1 hS.1)
    omega
  have hcn : (Int32.ofInt (n : Int)).toNatClampNeg = n := by
    show (Int32.ofInt (n : Int)).toInt.toNat = n
    rw [toI ⟨by omega, by omega⟩]; rfl
  have hng : ¬ Int32.ofInt (n : Int) < 0 := fun q => by
    have := (of_lt (x := (n : Int)) (y := 0) ⟨by omega, by omega⟩ okI_0).mp q
    omega
  refine W.anew (C := "HillClock$Walker") (n := Int32.ofInt (n : Int)) (rest := st.map (cv E)) hF.1 hF.2.1 hF.2.2.2.2.1 (hts _ hcl) (va_AO.use hao.1) rfl hd rfl hng (by rw [hcn]; omega) (by rw [hR]; exact hrm.1) (by rw [hR, hcn]; exact hrm.2) (fun cA kA comp f1 f2 f3 f4 => ?_)
  rw [hcn]
  generalize hH1 : H.push ({ cls := cA, slots := Array.replicate n .null, vm := .none } : Cell) = H1
  have z1 : H1.size = H.size + 1 := by rw [← hH1, Array.size_push]
  have e1 : H1[H.size]? = some (arrV cA n (fun _ => .null)) := by rw [← hH1, Array.getElem?_push_size, ← arrV_new]
  have o1 : ∀ q : Nat, q < H.size → H1[q]? = H[q]? := fun q hq => by rw [← hH1, Array.getElem?_push, if_neg (Nat.ne_of_lt hq)]
  have hcA : cA = eA E 18 := by
    obtain ⟨kA', comp', -, -, -, h1⟩ := (hK.2 6 (eA E 18, .object "HillClock$Walker") rfl).2
    exact Option.some.inj (f1.symm.trans h1)
  subst hcA
  have hkp : ∀ (k : Nat) (x : Nat × va_E), (wR E mem)[k]? = some x → H1[x.1]? = H[x.1]? := fun k x hx => o1 x.1 ((hw.1 k x hx).lt)
  rw [hH] at e1 ⊢
  have hP1 : va_P (eD E) ly_cl (wR E mem ++ [(eB E + mN mem, .inl (eA E 18, entAR E 18 n (fun _ => -1)))]) H1 := (hw.1.kept hkp).app (fun k x hx => by
    have hz : k < 1 := (List.getElem?_eq_some_iff.mp hx).1
    rw [show k = 0 by omega] at hx
    cases hx
    show H1[eB E + mN mem]? = some (vp_cell _ _)
    exact e1.trans (by rw [show entAR E 18 n (fun _ => -1) = (n, .inr (.inr (.inr (.inr (fun _ => none))))) from rfl, vp_cell_q]; rfl))
  have hW1 := RC_made (d := fun _ => -1) hw hlt (fun j => by rw [hk]; exact trivial) (by rw [entR_arr hk (by decide)]) hP1
  have hS1 : va_S (nw E) s.heap H1 locs := ⟨by omega, fun x h1 h2 => (o1 x (by omega)).trans (hS.2.1 x h1 h2), hS.2.2⟩
  have h9 := k r mem' ho p e R s m args below meth c hF hnm H1 locs ls hL (okS_c trivial (okS_t hs)) hW1 (by rw [mN_nw]; omega) hS1
  rw [← cN_nw (d := fun _ => -1) hn0, ← cS_nw (d := fun _ => -1) hn0, hk] at h9
  exact h9
theorem RC_anewD {n idx : Nat} {x : Int} (hx : x = (n : Int)) (hn : n ≤ 100000) (hk : ly_k (mN mem) = (16, n)) (ht : mN mem < tN) (hcl : Cond.classLink M.1 idx "HillClock$Standing" ∈ TBL) (hd : decode M.2.1 pc = .ok (.anewarray idx, 3)) (k : RC E n0 tN nm M o (pc + 3) lv (rf (mN mem) :: st) (mnw mem (fun _ => -1))) : RC E n0 tN nm M o pc lv (vi x :: st) mem := by
  intro r mem' ho p e R s m args below meth c hF hnm H locs ls hL hs hw hn0 hS
  subst hx
  have hts := hF.2.2.2.2.2.1
  obtain ⟨hR, hs0, hao⟩ := hF.2.2.2.2.2.2.2.2
  have hlt : mN mem < 261 := ly_lt hk (by omega)
  have hK := hF.2.2.2.2.2.2.2.1.1
  have hrm := room_nw (n0 := n0) (tN := tN) hn0 ht
  rw [hk] at hrm
  refine W_sz (fun hsz => ?_)
  have hH : H.size = eB E + mN mem := by
    have := Wc_lo hw (Nat.le_trans hF.2.2.2.2.2.2.2.1.2.2.1 hS.1)
    omega
  have hcn : (Int32.ofInt (n : Int)).toNatClampNeg = n := by
    show (Int32.ofInt (n : Int)).toInt.toNat = n
    rw [toI ⟨by omega, by omega⟩]; rfl
  have hng : ¬ Int32.ofInt (n : Int) < 0 := fun q => by
    have := (of_lt (x := (n : Int)) (y := 0) ⟨by omega, by omega⟩ okI_0).mp q
    omega
  refine W.anew (C := "HillClock$Standing") (n := Int32.ofInt (n : Int)) (rest := st.map (cv E)) hF.1 hF.2.1 hF.2.2.2.2.1 (hts _ hcl) (va_AO.use hao.2.1) rfl hd rfl hng (by rw [hcn]; omega) (by rw [hR]; exact hrm.1) (by rw [hR, hcn]; exact hrm.2) (fun cA kA comp f1 f2 f3 f4 => ?_)
  rw [hcn]
  generalize hH1 : H.push ({ cls := cA, slots := Array.replicate n .null, vm := .none } : Cell) = H1
  have z1 : H1.size = H.size + 1 := by rw [← hH1, Array.size_push]
  have e1 : H1[H.size]? = some (arrV cA n (fun _ => .null)) := by rw [← hH1, Array.getElem?_push_size, ← arrV_new]
  have o1 : ∀ q : Nat, q < H.size → H1[q]? = H[q]? := fun q hq => by rw [← hH1, Array.getElem?_push, if_neg (Nat.ne_of_lt hq)]
  have hcA : cA = eA E 16 := by
    obtain ⟨kA', comp', -, -, -, h1⟩ := (hK.2 4 (eA E 16, .object "HillClock$Standing") rfl).2
    exact Option.some.inj (f1.symm.trans h1)
  subst hcA
  have hkp : ∀ (k : Nat) (x : Nat × va_E), (wR E mem)[k]? = some x → H1[x.1]? = H[x.1]? := fun k x hx => o1 x.1 ((hw.1 k x hx).lt)
  rw [hH] at e1 ⊢
  have hP1 : va_P (eD E) ly_cl (wR E mem ++ [(eB E + mN mem, .inl (eA E 16, entAR E 16 n (fun _ => -1)))]) H1 := (hw.1.kept hkp).app (fun k x hx => by
    have hz : k < 1 := (List.getElem?_eq_some_iff.mp hx).1
    rw [show k = 0 by omega] at hx
    cases hx
    show H1[eB E + mN mem]? = some (vp_cell _ _)
    exact e1.trans (by rw [show entAR E 16 n (fun _ => -1) = (n, .inr (.inr (.inr (.inr (fun _ => none))))) from rfl, vp_cell_q]; rfl))
  have hW1 := RC_made (d := fun _ => -1) hw hlt (fun j => by rw [hk]; exact trivial) (by rw [entR_arr hk (by decide)]) hP1
  have hS1 : va_S (nw E) s.heap H1 locs := ⟨by omega, fun x h1 h2 => (o1 x (by omega)).trans (hS.2.1 x h1 h2), hS.2.2⟩
  have h9 := k r mem' ho p e R s m args below meth c hF hnm H1 locs ls hL (okS_c trivial (okS_t hs)) hW1 (by rw [mN_nw]; omega) hS1
  rw [← cN_nw (d := fun _ => -1) hn0, ← cS_nw (d := fun _ => -1) hn0, hk] at h9
  exact h9
theorem RC_anewS {n idx : Nat} {x : Int} (hx : x = (n : Int)) (hn : n ≤ 100000) (hk : ly_k (mN mem) = (17, n)) (ht : mN mem < tN) (hcl : Cond.classLink M.1 idx "HillClock$State" ∈ TBL) (hd : decode M.2.1 pc = .ok (.anewarray idx, 3)) (k : RC E n0 tN nm M o (pc + 3) lv (rf (mN mem) :: st) (mnw mem (fun _ => -1))) : RC E n0 tN nm M o pc lv (vi x :: st) mem := by
  intro r mem' ho p e R s m args below meth c hF hnm H locs ls hL hs hw hn0 hS
  subst hx
  have hts := hF.2.2.2.2.2.1
  obtain ⟨hR, hs0, hao⟩ := hF.2.2.2.2.2.2.2.2
  have hlt : mN mem < 261 := ly_lt hk (by omega)
  have hK := hF.2.2.2.2.2.2.2.1.1
  have hrm := room_nw (n0 := n0) (tN := tN) hn0 ht
  rw [hk] at hrm
  refine W_sz (fun hsz => ?_)
  have hH : H.size = eB E + mN mem := by
    have := Wc_lo hw (Nat.le_trans hF.2.2.2.2.2.2.2.1.2.2.1 hS.1)
    omega
  have hcn : (Int32.ofInt (n : Int)).toNatClampNeg = n := by
    show (Int32.ofInt (n : Int)).toInt.toNat = n
    rw [toI ⟨by omega, by omega⟩]; rfl
  have hng : ¬ Int32.ofInt (n : Int) < 0 := fun q => by
    have := (of_lt (x := (n : Int)) (y := 0) ⟨by omega, by omega⟩ okI_0).mp q
    omega
  refine W.anew (C := "HillClock$State") (n := Int32.ofInt (n : Int)) (rest := st.map (cv E)) hF.1 hF.2.1 hF.2.2.2.2.1 (hts _ hcl) (va_AO.use hao.2.2) rfl hd rfl hng (by rw [hcn]; omega) (by rw [hR]; exact hrm.1) (by rw [hR, hcn]; exact hrm.2) (fun cA kA comp f1 f2 f3 f4 => ?_)
  rw [hcn]
  generalize hH1 : H.push ({ cls := cA, slots := Array.replicate n .null, vm := .none } : Cell) = H1
  have z1 : H1.size = H.size + 1 := by rw [← hH1, Array.size_push]
  have e1 : H1[H.size]? = some (arrV cA n (fun _ => .null)) := by rw [← hH1, Array.getElem?_push_size, ← arrV_new]
  have o1 : ∀ q : Nat, q < H.size → H1[q]? = H[q]? := fun q hq => by rw [← hH1, Array.getElem?_push, if_neg (Nat.ne_of_lt hq)]
  have hcA : cA = eA E 17 := by
    obtain ⟨kA', comp', -, -, -, h1⟩ := (hK.2 5 (eA E 17, .object "HillClock$State") rfl).2
    exact Option.some.inj (f1.symm.trans h1)
  subst hcA
  have hkp : ∀ (k : Nat) (x : Nat × va_E), (wR E mem)[k]? = some x → H1[x.1]? = H[x.1]? := fun k x hx => o1 x.1 ((hw.1 k x hx).lt)
  rw [hH] at e1 ⊢
  have hP1 : va_P (eD E) ly_cl (wR E mem ++ [(eB E + mN mem, .inl (eA E 17, entAR E 17 n (fun _ => -1)))]) H1 := (hw.1.kept hkp).app (fun k x hx => by
    have hz : k < 1 := (List.getElem?_eq_some_iff.mp hx).1
    rw [show k = 0 by omega] at hx
    cases hx
    show H1[eB E + mN mem]? = some (vp_cell _ _)
    exact e1.trans (by rw [show entAR E 17 n (fun _ => -1) = (n, .inr (.inr (.inr (.inr (fun _ => none))))) from rfl, vp_cell_q]; rfl))
  have hW1 := RC_made (d := fun _ => -1) hw hlt (fun j => by rw [hk]; exact trivial) (by rw [entR_arr hk (by decide)]) hP1
  have hS1 : va_S (nw E) s.heap H1 locs := ⟨by omega, fun x h1 h2 => (o1 x (by omega)).trans (hS.2.1 x h1 h2), hS.2.2⟩
  have h9 := k r mem' ho p e R s m args below meth c hF hnm H1 locs ls hL (okS_c trivial (okS_t hs)) hW1 (by rw [mN_nw]; omega) hS1
  rw [← cN_nw (d := fun _ => -1) hn0, ← cS_nw (d := fun _ => -1) hn0, hk] at h9
  exact h9
end RawN
