/-! Calls of nest mates, of a word; the list of all words; the one text. -/
section More2
variable {E : EE} {M : MT} {o o1 o2 : Res} {pc : Nat} {lv : List (Nat × VV)} {st : List VV} {mem : Mm}
theorem RO_callN {g : Int → Mm → Res} {idx n d a ci nf maxL : Nat} {y : MethodName} {bytes : ByteArray} {ret : Option FieldType} {As rest : List VV} {host : String}
    (hmi : MI y bytes maxL ret n) (hmv0 : MV y ci) (hl : Cond.methodLinkNest M.1 idx y host ∈ nsW) (hk : ly_k a = (ci, nf)) (hdd : d < M.2.2.2.2) (hn : As.length = n) (hr : argsW rest ≤ 8) (hd : decode M.2.1 pc = .ok (.invokevirtual idx, 3))
    (hM : ∀ r mem', o1 = some (r, mem') → MetX E d y bytes maxL ret (rf a :: As) mem r mem') (k : ∀ r mem', RO E M (g r mem') (pc + 3) lv (rvs ret r ++ rest) mem') : RO E M (bd o1 g) pc lv (As.reverse ++ rf a :: rest) mem := by
  have hmv := And.intro hmv0.1 hmv0.2.1
  have hc := hmv0.2.2
  intro r mem' ho p e R s m args below meth c hF H locs ls hL hs hw hS
  cases h1 : o1 with
  | none => rw [h1] at ho; cases ho
  | some x =>
    obtain ⟨r1, mem1⟩ := x
    rw [h1] at ho
    have hM1 := hM r1 mem1 h1
    obtain ⟨okA, okR⟩ := okS_rev hs
    have hlt := ly_lt hk (by omega)
    have hts := hF.2.2.2.2.2.1
    have hR := hF.2.2.2.2.2.2.2.2
    have hrec := va_recv (q0 := a) (ci := ci) hF.2.2.2.2.2.2.2.1.1 hw.1 (ly_clg hc.1) ((wL_get hlt).trans (by rw [ent_obj hk hc.1]))
    have hst : (As.reverse ++ rf a :: rest).map (cv E) = (As.map (cv E)).reverse ++ Value.ref (eB E + a) :: rest.map (cv E) := by rw [List.map_append, List.map_reverse]; rfl
    rw [hst]
    obtain ⟨i1, i2, i3, i4, i5, i6⟩ := hmi
    have hcn : va_CN R s args M.1 idx y host bytes maxL ret (.code y bytes maxL ret :: TBL) (rmD d) 0 0 n := by
      refine ⟨⟨rfl, rfl, ?_, ?_, ?_, List.mem_cons_self⟩, hts _ i1, hts _ i2, ⟨i3, i4⟩, fun sig h => ?_, va_Nw.use rfl (hF.2.2.2.2.2.2.2.1.2.1 _ hl)⟩
      · rw [hR]; show d + 1 ≤ M.2.2.2.2; omega
      · rw [hR]; show 8 + (maxL + 11) + 40 * d ≤ 40 * M.2.2.2.2; omega
      · intro w hw a' U hW
        rcases List.mem_cons.mp hw with rfl | hw
        · exact tb_pay hts i1 a' U hW
        · exact tb_pay hts hw a' U hW
      · rw [h] at i5
        exact (Option.some.inj i5).symm
    refine W_run (ret := ret) (r := r1) (mem' := mem1) (rest := rest.map (cv E)) (va_runVN (C := y.cls) (nL := M.2.2.1) (b := eB E + a) (As := As.map (cv E)) ⟨hF.1, hF.2.1, hF.2.2.1, hF.2.2.2.2.1, hF.2.2.2.2.2.1⟩ hM1 ⟨hcn, hts _ hmv.1, hts _ hmv.2⟩ ⟨Pc_blind, by rw [← hc.2]; exact hrec, fun U hU hW => ⟨rfl, okS_c trivial okA, by rw [hU]; exact hw, EV_at hF hS hU hW⟩⟩ rfl (by rw [List.length_map]; exact hn) hL.1 rfl (by show 2 * 0 + _ ≤ 8; rw [cat_sum]; omega) hd ⟨Nat.zero_le _, Nat.zero_le _⟩) hS (fun H1 locs1 hok hw1 hS1 => ?_)
    rw [rvs_cv]
    exact k r1 mem1 r mem' ho p e R s m args below meth c hF H1 locs1 ls hL (rvs_ok hok (okS_t okR)) hw1 hS1
theorem RO_callNi {g : Int → Mm → Res} {idx n d a ci nf maxL : Nat} {y : MethodName} {bytes : ByteArray} {ret : Option FieldType} {As rest : List VV} {host : String}
    (hmi : MI y bytes maxL ret n) (hmv0 : MV y ci) (hl : Cond.methodLinkNest M.1 idx y host ∈ nsW) (hk : ly_k a = (ci, nf)) (hdd : d < M.2.2.2.2) (hn : As.length = n) (hr : argsW rest ≤ 8) (hret : ∀ r, rvs ret r = [vi r]) (hd : decode M.2.1 pc = .ok (.invokevirtual idx, 3))
    (hM : ∀ r mem', o1 = some (r, mem') → MetX E d y bytes maxL ret (rf a :: As) mem r mem') (k : ∀ r mem', RO E M (g r mem') (pc + 3) lv (vi r :: rest) mem') : RO E M (bd o1 g) pc lv (As.reverse ++ rf a :: rest) mem :=
  RO_callN hmi hmv0 hl hk hdd hn hr hd hM (fun r mem' => by rw [hret]; exact k r mem')
theorem RO_callNv {g : Int → Mm → Res} {idx n d a ci nf maxL : Nat} {y : MethodName} {bytes : ByteArray} {As rest : List VV} {host : String}
    (hmi : MI y bytes maxL none n) (hmv0 : MV y ci) (hl : Cond.methodLinkNest M.1 idx y host ∈ nsW) (hk : ly_k a = (ci, nf)) (hdd : d < M.2.2.2.2) (hn : As.length = n) (hr : argsW rest ≤ 8) (hd : decode M.2.1 pc = .ok (.invokevirtual idx, 3))
    (hM : ∀ r mem', o1 = some (r, mem') → MetX E d y bytes maxL none (rf a :: As) mem r mem') (k : ∀ r mem', RO E M (g r mem') (pc + 3) lv rest mem') : RO E M (bd o1 g) pc lv (As.reverse ++ rf a :: rest) mem :=
  RO_callN hmi hmv0 hl hk hdd hn hr hd hM k
theorem RO_callW {g : Int → Mm → Res} {idx d maxL : Nat} {x : Int} {y : MethodName} {bytes : ByteArray} {rest : List VV}
    (hmi : MI y bytes maxL (some .boolean) 0) (hmv : Cond.instanceMethod y ∈ TBL ∧ Cond.selects y.cls y y ∈ TBL ∧ y.cls = "HillClock$Word") (hl : Cond.methodLink M.1 idx y ∈ TBL) (hx : x ≠ -1) (hdd : d < M.2.2.2.2) (hr : argsW rest ≤ 8) (hd : decode M.2.1 pc = .ok (.invokevirtual idx, 3))
    (hM : ∀ r mem', o1 = some (r, mem') → MetX E d y bytes maxL (some .boolean) [vw x] mem r mem') (k : ∀ r mem', RO E M (g r mem') (pc + 3) lv (vi r :: rest) mem') : RO E M (bd o1 g) pc lv (vw x :: rest) mem := by
  intro r mem' ho p e R s m args below meth c hF H locs ls hL hs hw hS
  cases h1 : o1 with
  | none => rw [h1] at ho; cases ho
  | some z =>
    obtain ⟨r1, mem1⟩ := z
    rw [h1] at ho
    have hM1 := hM r1 mem1 h1
    have hts := hF.2.2.2.2.2.1
    have hxr : -30 ≤ x ∧ x ≤ -1 := okS_h hs
    have e1 : cv E (vw x) = .ref (eW E (-x - 2).toNat) := if_neg hx
    obtain ⟨cell, q1, q2, q3, -⟩ := ((hF.2.2.2.2.2.2.2.1.2.2.2.1.1 (-x - 2).toNat (by omega)).2.1).kept hS.2.1
    have hst : (vw x :: rest).map (cv E) = ([] : List Value).reverse ++ Value.ref (eW E (-x - 2).toNat) :: rest.map (cv E) := by
      show cv E (vw x) :: _ = _
      rw [e1]; rfl
    have hPe : ∀ U : State, U.heap = H → s.WarmedH U.vm → va_Pc ([vw x].map (cv E)) (fun U => okS [vw x] ∧ Wd E mem U.heap ∧ EV E U) (Value.ref (eW E (-x - 2).toNat) :: ([] : List Value)).toArray U := fun U hU hW => by
      refine ⟨?_, okS_c (okS_h hs) (fun v hv => by cases hv), by rw [hU]; exact hw, EV_at hF hS hU hW⟩
      show _ = [cv E (vw x)].toArray
      rw [e1]
    rw [hst]
    refine W_run (ret := some .boolean) (r := r1) (mem' := mem1) (rest := rest.map (cv E)) (va_runV (C := y.cls) (nL := M.2.2.1) (b := eW E (-x - 2).toNat) (As := []) ⟨hF.1, hF.2.1, hF.2.2.1, hF.2.2.2.2.1, hF.2.2.2.2.2.1⟩ hM1 ⟨callB_X hF hmi hl hdd, hts _ hmv.1, hts _ hmv.2.1⟩ ⟨Pc_blind, ⟨cell, q1, q2, by rw [hmv.2.2]; exact q3⟩, hPe⟩ rfl rfl hL.1 rfl (by show 2 * 0 + _ ≤ 8; rw [cat_sum]; omega) hd ⟨Nat.zero_le _, Nat.zero_le _⟩) hS (fun H1 locs1 hok hw1 hS1 => ?_)
    rw [rvs_cv]
    exact k r1 mem1 r mem' ho p e R s m args below meth c hF H1 locs1 ls hL (rvs_ok hok (okS_t hs)) hw1 hS1
theorem RO_getsALL (hm : Cond.fieldLinkNest M.1 68 "HillClock$Word" "ALL" "[LHillClock$Word;" "HillClock" ∈ nsW) (hd : decode M.2.1 pc = .ok (.getstatic 68, 3)) (k : RO E M o (pc + 3) lv (vk 29 :: st) mem) : RO E M o pc lv st mem :=
  RO_go (fun p e R s m args below meth c H locs ls Q hF hL hs hw hS kk => by
    exact va_getsN (v := .ref (eW E 29)) hF.1 hF.2.1 hF.2.2.2.2.2.2.2.1.2.2.2.1.2.2.1 hS hF.2.2.2.2.1 (va_Nw.use rfl (hF.2.2.2.2.2.2.2.1.2.1 _ hm)) (fun _ h => h) hd (kk ls hL (okS_c (v := vk 29) trivial hs))) k
theorem RO_lenALL (hd : decode M.2.1 pc = .ok (.arraylength, 1)) (k : RO E M o (pc + 1) lv (vi 29 :: st) mem) : RO E M o pc lv (vk 29 :: st) mem :=
  RO_go (fun p e R s m args below meth c H locs ls Q hF hL hs hw hS kk => by
    exact va_tlen (t := eW E 29) (N := 29) hF.1 hF.2.1 hF.2.2.2.2.2.2.2.1.2.2.2.1.2.2.2.1 hS rfl hd (kk ls hL (okS_i ⟨by decide, by decide⟩ (okS_t hs)))) k
theorem RO_aldALL {i : Int} (hi : 0 ≤ i ∧ i < 29) (hd : decode M.2.1 pc = .ok (.aaload, 1)) (k : RO E M o (pc + 1) lv (vw (-i - 2) :: st) mem) : RO E M o pc lv (vi i :: vk 29 :: st) mem :=
  RO_go (fun p e R s m args below meth c H locs ls Q hF hL hs hw hS kk => by
    obtain ⟨cell, q1, q2, q3, q4, q5, q6, q7⟩ := (hF.2.2.2.2.2.2.2.1.2.2.2.1.2.2.2.1).kept hS.2.1
    obtain ⟨z1, z2⟩ := of_ix (n := 29) (by decide) hi.1 hi.2
    have e1 : cv E (vw (-i - 2)) = .ref (eW E i.toNat) := by
      show wv E (-i - 2) = _
      unfold wv
      rw [if_neg (by omega), show (-(-i - 2) - 2).toNat = i.toNat by omega]
    have hkk := kk ls hL (okS_c (v := vw (-i - 2)) (okw (by omega) (by omega)) (okS_t (okS_t hs)))
    have h9 := q6 i.toNat (by omega)
    refine W.aald (v := .ref (eW E i.toNat)) (ty := .object "HillClock$Word") (j := Int32.ofInt i) (rest := st.map (cv E)) hF.1 hF.2.1 q1 q2 rfl q3 ?_ (by rw [z2]; exact h9) rfl rfl hd ?_
    · intro q
      rcases q with q | q
      · exact z1 (Or.inl q)
      · rw [z2] at q; omega
    · rw [← e1]
      exact hkk) k
theorem wdL_ok : ∀ i, i < 29 → okL (wdL.getD i 0) := by
  intro i hi
  have h : (List.range 29).all (fun i => decide (-9223372036854775808 ≤ wdL.getD i 0) && decide (wdL.getD i 0 ≤ 9223372036854775807)) = true := by decide +kernel
  have h1 := List.all_eq_true.mp h i (List.mem_range.mpr hi)
  simp only [Bool.and_eq_true, decide_eq_true_eq] at h1
  exact h1
theorem RO_letters {x : Int} (hm : Cond.fieldLinkNest M.1 74 "HillClock$Word" "letters" "J" "HillClock" ∈ nsW) (hx : x ≠ -1) (hd : decode M.2.1 pc = .ok (.getfield 74, 3)) (k : RO E M o (pc + 3) lv (vl (wdL.getD (-x - 2).toNat 0) :: st) mem) : RO E M o pc lv (vw x :: st) mem :=
  RO_go (fun p e R s m args below meth c H locs ls Q hF hL hs hw hS kk => by
    have hxr : -30 ≤ x ∧ x ≤ -1 := okS_h hs
    have hi : (-x - 2).toNat < 29 := by omega
    obtain ⟨cf, kf, fi, f, cell, q1, q2, q3, q4, q5, q6⟩ := ((hF.2.2.2.2.2.2.2.1.2.2.2.1.1 (-x - 2).toNat hi).2.2).kept hS.2.1
    have e1 : cv E (vw x) = .ref (eW E (-x - 2).toNat) := if_neg hx
    have hkk := kk ls hL (okS_l (wdL_ok _ hi) (okS_t hs))
    show W p (eL E) e R s m args below meth c H locs 0 0 Q (F0 m pc ls (cv E (vw x) :: st.map (cv E)))
    rw [e1]
    exact va_Wgetf (rest := st.map (cv E)) hF.1 hF.2.1 hF.2.2.2.2.1 (va_Nw.use rfl (hF.2.2.2.2.2.2.2.1.2.1 _ hm)) q1 q2 q3 q4 q5 rfl rfl hd hkk) k
theorem RO_ldcS (hm : M.1 = "HillClock$Tape") (hd : decode M.2.1 pc = .ok (.ldc 56, 2)) (k : RO E M o (pc + 2) lv (vk 30 :: st) mem) : RO E M o pc lv st mem :=
  RO_go (fun p e R s m args below meth c H locs ls Q hF hL hs hw hS kk => by
    exact va_ldcS (q := eW E 30) hF.1 hF.2.1 hF.2.2.2.2.1 (by rw [hm]; exact hF.2.2.2.2.2.2.2.1.2.2.2.2) hd (kk ls hL (okS_c (v := vk 30) trivial hs))) k
end More2
