/-! The one text and its bytes. -/
def i2b (x : Int) : Int := (Int32.ofInt x).toInt8.toInt32.toInt
def bsS (i : Nat) : Int := ([40, 41, 60, 61, 43, 45, 42, 59] : List Int).getD i 0
section More3
variable {E : EE} {M : MT} {o o1 o2 : Res} {pc : Nat} {lv : List (Nat × VV)} {st : List VV} {mem : Mm}
theorem RO_i2b {x : Int} (hd : decode M.2.1 pc = .ok (.i2b, 1)) (k : RO E M o (pc + 1) lv (vi (i2b x) :: st) mem) : RO E M o pc lv (vi x :: st) mem :=
  RO_go (fun p e R s m args below meth c H locs ls Q hF hL hs hw hS kk => lv_i2b (x := Int32.ofInt x) (rest := st.map (cv E)) hF.1 hF.2.1 hd (Int32.ofInt_toInt _).symm (kk ls hL (okS_i (okI_32 _) (okS_t hs)))) k
theorem RO_kload_n {j : Fin 4} {i : Nat} {x : Int} (hd : decode M.2.1 pc = .ok (.aload_n j, 1)) (hi : (j : Nat) = i) (hg : lget lv i = some (vk x)) (k : RO E M o (pc + 1) lv (vk x :: st) mem) : RO E M o pc lv st mem :=
  RO_go (fun p e R s m args below meth c H locs ls Q hF hL hs hw hS kk => lv_aload_n (x := eW E x.toNat) hF.1 hF.2.1 hd hi (hL.2.2 _ _ hg).1 (kk ls hL (okS_c (hL.2.2 _ _ hg).2 hs))) k
theorem RO_strV {idx : Nat} (hl : Cond.fieldLink M.1 idx "java/lang/String" "value" "[B" ∈ TBL) (hd : decode M.2.1 pc = .ok (.getfield idx, 3)) (k : RO E M o (pc + 3) lv (vk 31 :: st) mem) : RO E M o pc lv (vk 30 :: st) mem :=
  RO_go (fun p e R s m args below meth c H locs ls Q hF hL hs hw hS kk => by
    obtain ⟨cf, kf, fi, f, cell, q1, q2, q3, q4, q5, q6⟩ := ((hF.2.2.2.2.2.2.2.1.2.2.2.1.2.2.2.2.2).1 0 (by decide)).2.2.1.kept hS.2.1
    exact W.getf (rest := st.map (cv E)) hF.1 hF.2.1 hF.2.2.2.2.1 (hF.2.2.2.2.2.1 _ hl) q1 q2 q3 q4 q5 rfl rfl hd (kk ls hL (okS_c (v := vk 31) trivial (okS_t hs)))) k
theorem RO_strC {idx : Nat} (hl : Cond.fieldLink M.1 idx "java/lang/String" "coder" "B" ∈ TBL) (hd : decode M.2.1 pc = .ok (.getfield idx, 3)) (k : RO E M o (pc + 3) lv (vi 0 :: st) mem) : RO E M o pc lv (vk 30 :: st) mem :=
  RO_go (fun p e R s m args below meth c H locs ls Q hF hL hs hw hS kk => by
    obtain ⟨cf, kf, fi, f, cell, q1, q2, q3, q4, q5, q6⟩ := ((hF.2.2.2.2.2.2.2.1.2.2.2.1.2.2.2.2.2).1 0 (by decide)).2.1.kept hS.2.1
    exact W.getf (rest := st.map (cv E)) hF.1 hF.2.1 hF.2.2.2.2.1 (hF.2.2.2.2.2.1 _ hl) q1 q2 q3 q4 q5 rfl rfl hd (kk ls hL (okS_i okI_0 (okS_t hs)))) k
theorem RO_getsCS {idx : Nat} (hl : Cond.fieldLink M.1 idx "java/lang/String" "COMPACT_STRINGS" "Z" ∈ TBL) (hd : decode M.2.1 pc = .ok (.getstatic idx, 3)) (k : RO E M o (pc + 3) lv (vi 1 :: st) mem) : RO E M o pc lv st mem :=
  RO_go (fun p e R s m args below meth c H locs ls Q hF hL hs hw hS kk => by
    exact va_gets (v := .int 1) hF.1 hF.2.1 hF.2.2.2.2.2.2.2.1.2.2.2.1.2.2.2.2.1 hS hF.2.2.2.2.1 (hF.2.2.2.2.2.1 _ hl) (fun _ h => h) hd (kk ls hL (okS_i ⟨by decide, by decide⟩ hs))) k
theorem RO_lenS (hd : decode M.2.1 pc = .ok (.arraylength, 1)) (k : RO E M o (pc + 1) lv (vi 8 :: st) mem) : RO E M o pc lv (vk 31 :: st) mem :=
  RO_go (fun p e R s m args below meth c H locs ls Q hF hL hs hw hS kk => by
    exact va_tlen (t := eW E 31) (N := 8) hF.1 hF.2.1 ((hF.2.2.2.2.2.2.2.1.2.2.2.1.2.2.2.2.2).1 0 (by decide)).2.2.2 hS rfl hd (kk ls hL (okS_i ⟨by decide, by decide⟩ (okS_t hs)))) k
theorem bsS_32 : ∀ i, i < 8 → (([[40, 41, 60, 61, 43, 45, 42, 59]] : List (List Int32)).getD 0 []).getD i 0 = Int32.ofInt (bsS i) ∧ okI (bsS i) := by
  intro i hi
  have h : i = 0 ∨ i = 1 ∨ i = 2 ∨ i = 3 ∨ i = 4 ∨ i = 5 ∨ i = 6 ∨ i = 7 := by omega
  rcases h with rfl | rfl | rfl | rfl | rfl | rfl | rfl | rfl <;> exact ⟨rfl, by decide, by decide⟩
theorem RO_baS {i : Int} (hi : 0 ≤ i ∧ i < 8) (hd : decode M.2.1 pc = .ok (.baload, 1)) (k : RO E M o (pc + 1) lv (vi (bsS i.toNat) :: st) mem) : RO E M o pc lv (vi i :: vk 31 :: st) mem :=
  RO_go (fun p e R s m args below meth c H locs ls Q hF hL hs hw hS kk => by
    obtain ⟨z1, z2⟩ := of_ix (n := 8) (by decide) hi.1 hi.2
    obtain ⟨b1, b2⟩ := bsS_32 i.toNat (by omega)
    exact va_tb (t := eW E 31) (N := 8) (i := Int32.ofInt i) (v := .int (Int32.ofInt (bsS i.toNat))) (rest := st.map (cv E)) hF.1 hF.2.1 ((hF.2.2.2.2.2.2.2.1.2.2.2.1.2.2.2.2.2).1 0 (by decide)).2.2.2 hS z1 (by rw [z2, b1]) hd (kk ls hL (okS_i b2 (okS_t (okS_t hs))))) k
theorem RO_bret {x : Int} (hr : M.2.2.2.1 = some .byte) (hx : x = 0 ∨ x = 1) (hd : decode M.2.1 pc = .ok (.ireturn, 1)) : RO E M (some (x, mem)) pc lv [vi x] mem := by
  intro r mem' ho p e R s m args below meth c hF H locs ls hL hs hw hS
  cases ho
  have hk : meth.locks = false := hF.2.2.2.2.2.2.1
  refine W.zret (ty := .byte) hF.1 hF.2.1 (hF.2.2.2.1.trans hr) (by rcases hx with rfl | rfl <;> rfl) (fun t ht hW => ⟨?_, ?_, by rw [ht]; exact hw, hS.F ht⟩) hS.2.2 hd
  · rw [hr]; rfl
  · rw [hr]; exact okS_h hs
theorem RO_callK {g : Int → Mm → Res} {idx d n maxL : Nat} {y : MethodName} {bytes : ByteArray} {ret : Option FieldType} {As rest : List VV}
    (hmi : MI y bytes maxL ret n) (hmv : Cond.instanceMethod y ∈ TBL ∧ Cond.selects y.cls y y ∈ TBL) (hl : Cond.methodLink M.1 idx y ∈ TBL) (hdd : d < M.2.2.2.2) (hn : As.length = n) (hr : argsW rest ≤ 8) (hret : ∀ r, rvs ret r = [vi r]) (hd : decode M.2.1 pc = .ok (.invokevirtual idx, 3))
    (hM : ∀ r mem', o1 = some (r, mem') → MetX E d y bytes maxL ret (vk 30 :: As) mem r mem') (k : ∀ r mem', RO E M (g r mem') (pc + 3) lv (vi r :: rest) mem') (hy : y.cls = "java/lang/String" := by rfl) : RO E M (bd o1 g) pc lv (As.reverse ++ vk 30 :: rest) mem := by
  intro r mem' ho p e R s m args below meth c hF H locs ls hL hs hw hS
  cases h1 : o1 with
  | none => rw [h1] at ho; cases ho
  | some z =>
    obtain ⟨r1, mem1⟩ := z
    rw [h1] at ho
    have hM1 := hM r1 mem1 h1
    have hts := hF.2.2.2.2.2.1
    obtain ⟨okA, okR⟩ := okS_rev hs
    obtain ⟨cell, q1, q2, q3, -⟩ := ((hF.2.2.2.2.2.2.2.1.2.2.2.1.2.2.2.2.2).1 0 (by decide)).1.kept hS.2.1
    have hst : (As.reverse ++ vk 30 :: rest).map (cv E) = (As.map (cv E)).reverse ++ Value.ref (eW E 30) :: rest.map (cv E) := by rw [List.map_append, List.map_reverse]; rfl
    rw [hst]
    refine W_run (ret := ret) (r := r1) (mem' := mem1) (rest := rest.map (cv E)) (va_runV (C := y.cls) (nL := M.2.2.1) (b := eW E 30) (As := As.map (cv E)) ⟨hF.1, hF.2.1, hF.2.2.1, hF.2.2.2.2.1, hF.2.2.2.2.2.1⟩ hM1 ⟨callB_X hF hmi hl hdd, hts _ hmv.1, hts _ hmv.2⟩ ⟨Pc_blind, ⟨cell, q1, q2, by rw [hy]; exact q3⟩, fun U hU hW => ⟨rfl, okS_c (v := vk 30) trivial okA, by rw [hU]; exact hw, EV_at hF hS hU hW⟩⟩ rfl (by rw [List.length_map]; exact hn) hL.1 rfl (by show 2 * 0 + _ ≤ 8; rw [cat_sum]; omega) hd ⟨Nat.zero_le _, Nat.zero_le _⟩) hS (fun H1 locs1 hok hw1 hS1 => ?_)
    rw [rvs_cv, hret]
    have hok2 := rvs_ok hok (okS_t okR)
    rw [hret] at hok2
    exact k r1 mem1 r mem' ho p e R s m args below meth c hF H1 locs1 ls hL hok2 hw1 hS1
end More3
