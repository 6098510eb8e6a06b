/-! Rows of the law: its end, its room, the script, branches whose way is known, calls whose answer is known. -/
section Lw
def ZW : ZT := fun _ _ _ _ _ s _ args below _ _ => lw_Z below args s
def FLW (E : EE) (b L : Nat) (xs : Nat → Int32) : FT := fun _ _ R s _ args _ _ _ => R = room_1 ∧ eB E = s.heap.size ∧ args = #[Value.ref b] ∧ va_X b L xs s s.heap ∧ b < s.heap.size ∧ exF E s ∧ eW E 32 = b ∧ (eL E).stackTraces = false
def oW : Res := some (1, fun _ _ => 0)
abbrev RL (E : EE) (b L : Nat) (xs : Nat → Int32) (cl sl pc : Nat) (lv : List (Nat × VV)) (st : List VV) (mem : Mm) : Prop := RG E mt_law cl sl (FLW E b L xs) ZW oW pc lv st mem
abbrev LV (i : Int) : List (Nat × VV) := [(4, vi i), (3, rf 260), (2, rf 203), (1, rf 0), (0, vk 32)]
def bz (x : Int) : Int := if x = 0 then 0 else 1
theorem bz_01 (x : Int) : bz x = 0 ∨ bz x = 1 := by unfold bz; split <;> simp
section Gen
variable {E : EE} {M : MT} {cl sl : Nat} {Fx : FT} {Z : ZT} {o : Res} {pc : Nat} {lv : List (Nat × VV)} {st : List VV} {mem : Mm}
theorem RG_eqT {x y : Int} {off : Int} {tgt : Nat} (h : x = y) (hd : decode M.2.1 pc = .ok (.if_icmp .eq off, 3)) (ht : (pc : Int) + off = (tgt : Int)) (ka : RG E M cl sl Fx Z o tgt lv st mem) : RG E M cl sl Fx Z o pc lv (vi y :: vi x :: st) mem := by
  have := RG_icmp_eq (x := x) (y := y) (o1 := o) (o2 := none) hd ht ka RG_none
  rwa [if_pos h] at this
theorem RG_gtT {x y : Int} {off : Int} {tgt : Nat} (h : y < x) (hd : decode M.2.1 pc = .ok (.if_icmp .gt off, 3)) (ht : (pc : Int) + off = (tgt : Int)) (ka : RG E M cl sl Fx Z o tgt lv st mem) : RG E M cl sl Fx Z o pc lv (vi y :: vi x :: st) mem := by
  have := RG_icmp_gt (x := x) (y := y) (o1 := o) (o2 := none) hd ht ka RG_none
  rwa [if_pos h] at this
theorem RG_gtF {x y : Int} {off : Int} {tgt : Nat} (h : ¬ y < x) (hd : decode M.2.1 pc = .ok (.if_icmp .gt off, 3)) (ht : (pc : Int) + off = (tgt : Int)) (ka : RG E M cl sl Fx Z o (pc + 3) lv st mem) : RG E M cl sl Fx Z o pc lv (vi y :: vi x :: st) mem := by
  have := RG_icmp_gt (x := x) (y := y) (o1 := none) (o2 := o) hd ht RG_none ka
  rwa [if_neg h] at this
theorem RG_zT {x : Int} {off : Int} {tgt : Nat} (h : x = 0) (hd : decode M.2.1 pc = .ok (.ifCond .eq off, 3)) (ht : (pc : Int) + off = (tgt : Int)) (ka : RG E M cl sl Fx Z o tgt lv st mem) : RG E M cl sl Fx Z o pc lv (vi x :: st) mem := by
  have := RG_if_eq (x := x) (o1 := o) (o2 := none) hd ht ka RG_none
  rwa [if_pos h] at this
theorem RG_zF {x : Int} {off : Int} {tgt : Nat} (h : ¬ x = 0) (hd : decode M.2.1 pc = .ok (.ifCond .eq off, 3)) (ht : (pc : Int) + off = (tgt : Int)) (ka : RG E M cl sl Fx Z o (pc + 3) lv st mem) : RG E M cl sl Fx Z o pc lv (vi x :: st) mem := by
  have := RG_if_eq (x := x) (o1 := none) (o2 := o) hd ht RG_none ka
  rwa [if_neg h] at this
theorem RG_nT {x : Int} {off : Int} {tgt : Nat} (h : ¬ x = 0) (hd : decode M.2.1 pc = .ok (.ifCond .ne off, 3)) (ht : (pc : Int) + off = (tgt : Int)) (ka : RG E M cl sl Fx Z o tgt lv st mem) : RG E M cl sl Fx Z o pc lv (vi x :: st) mem := by
  have := RG_if_ne (x := x) (o1 := none) (o2 := o) hd ht RG_none ka
  rwa [if_neg h] at this
theorem RG_nF {x : Int} {off : Int} {tgt : Nat} (h : x = 0) (hd : decode M.2.1 pc = .ok (.ifCond .ne off, 3)) (ht : (pc : Int) + off = (tgt : Int)) (ka : RG E M cl sl Fx Z o (pc + 3) lv st mem) : RG E M cl sl Fx Z o pc lv (vi x :: st) mem := by
  have := RG_if_ne (x := x) (o1 := o) (o2 := none) hd ht ka RG_none
  rwa [if_pos h] at this
theorem RG_bool {x : Int} (h0 : decode M.2.1 pc = .ok (.ifCond .eq 7, 3)) (h3 : decode M.2.1 (pc + 3) = .ok (.iconst 1, 1)) (h4 : decode M.2.1 (pc + 4) = .ok (.goto 4, 3)) (h7 : decode M.2.1 (pc + 7) = .ok (.iconst 0, 1)) (k : RG E M cl sl Fx Z o (pc + 8) lv (vi (bz x) :: st) mem) : RG E M cl sl Fx Z o pc lv (vi x :: st) mem := by
  by_cases h : x = 0
  · refine RG_zT (tgt := pc + 7) h h0 (by omega) ?_
    refine RG_iconst h7 ?_
    have e : bz x = 0 := if_pos h
    rw [e] at k
    exact k
  · refine RG_zF (tgt := pc + 7) h h0 (by omega) ?_
    refine RG_iconst h3 ?_
    refine RG_goto (tgt := pc + 8) h4 (by omega) ?_
    have e : bz x = 1 := if_neg h
    rw [e] at k
    exact k
theorem RG_callVT {idx n d a ci nf maxL : Nat} {y : MethodName} {bytes : ByteArray} {ret : Option FieldType} {As rest : List VV} {r1 : Int} {mem1 : Mm}
    (hmi : MI y bytes maxL ret n) (hmv0 : MV y ci) (hl : Cond.methodLink M.1 idx y ∈ TBL) (hk : ly_k a = (ci, nf)) (hrm : roomG Fx d maxL cl sl) (hn : As.length = n) (hr : argsW rest ≤ 8) (hd : decode M.2.1 pc = .ok (.invokevirtual idx, 3))
    (hM : MetX E d y bytes maxL ret (rf a :: As) mem r1 mem1) (k : okr ret r1 → RG E M cl sl Fx Z o (pc + 3) lv (rvs ret r1 ++ rest) mem1) : RG E M cl sl Fx Z o pc lv (As.reverse ++ rf a :: rest) mem := by
  have := RG_callV (Z := Z) (lv := lv) (rest := rest) (g := fun _ _ => o) (o1 := some (r1, mem1)) hmi hmv0 hl hk hrm hn hr hd (fun r m h => by cases h; exact hM) (fun r m h ho => by cases h; exact k ho)
  exact this
theorem RG_ldS (hd : decode M.2.1 pc = .ok (.aload_n 0, 1)) (hg : lget lv 0 = some (vk 32)) (k : RG E M cl sl Fx Z o (pc + 1) lv (vk 32 :: st) mem) : RG E M cl sl Fx Z o pc lv st mem :=
  RG_go (fun p e R s m args below meth c H locs ls Q hF hL hs hw hS kk => lv_aload_n hF.1 hF.2.1 hd rfl (hL.2.2 _ _ hg).1 (kk ls hL (okS_c (hL.2.2 _ _ hg).2 hs))) k
end Gen
variable {E : EE} {b L : Nat} {xs : Nat → Int32} {cl sl : Nat} {pc : Nat} {lv : List (Nat × VV)} {st : List VV} {mem : Mm}
def X (xs : Nat → Int32) (i k : Int) : Int := (xs (i + k).toNat).toInt
theorem okI_x32 (x : Int32) : okI x.toInt := by
  have h1 := Int32.le_toInt x
  have h2 := Int32.toInt_lt x
  exact ⟨by omega, by omega⟩
theorem RL_len (hL : L ≤ 3584) (hd : decode code pc = .ok (.arraylength, 1)) (k : RL E b L xs cl sl (pc + 1) lv (vi L :: st) mem) : RL E b L xs cl sl pc lv (vk 32 :: st) mem := by
  intro r mem' ho p e R s m args below meth c hF hFx H locs ls hLo hs hw hS
  obtain ⟨-, h1, -, h3, h4, -, h6, -⟩ := id hFx
  have h9 := k r mem' ho p e R s m args below meth c hF hFx H locs ls hLo (okS_i (x := (L : Int)) ⟨by omega, by omega⟩ (okS_t hs)) hw hS
  have e1 : cv E (vk 32) = .ref b := by show Value.ref (eW E 32) = _; rw [h6]
  show W _ _ _ _ _ _ _ _ _ _ _ _ _ _ _ (F0 m pc ls (cv E (vk 32) :: st.map (cv E)))
  rw [e1]
  exact va_slen hF.1 hF.2.1 h3 h4 (fun q => by have : eB E ≤ b := q; omega) hS hd h9
theorem RL_ld {j : Int} (h0 : 0 ≤ j) (h1 : j < L) (hL : L ≤ 3584) (hd : decode code pc = .ok (.iaload, 1)) (k : RL E b L xs cl sl (pc + 1) lv (vi (xs j.toNat).toInt :: st) mem) : RL E b L xs cl sl pc lv (vi j :: vk 32 :: st) mem := by
  intro r mem' ho p e R s m args below meth c hF hFx H locs ls hLo hs hw hS
  obtain ⟨-, h2, -, h3, h4, -, h6, -⟩ := id hFx
  have h9 := k r mem' ho p e R s m args below meth c hF hFx H locs ls hLo (okS_i (okI_x32 _) (okS_t (okS_t hs))) hw hS
  have e1 : cv E (vk 32) = .ref b := by show Value.ref (eW E 32) = _; rw [h6]
  obtain ⟨q1, q2⟩ := of_ix (n := L) (by omega) h0 h1
  show W _ _ _ _ _ _ _ _ _ _ _ _ _ _ _ (F0 m pc ls (.int (Int32.ofInt j) :: cv E (vk 32) :: st.map (cv E)))
  rw [e1]
  refine va_sld hF.1 hF.2.1 h3 h4 (fun q => by have : eB E ≤ b := q; omega) hS q1 hd ?_
  rw [q2]
  have e2 : cv E (vi (xs j.toNat).toInt) = .int (xs j.toNat) := by show Value.int (Int32.ofInt (xs j.toNat).toInt) = _; rw [Int32.ofInt_toInt]
  rw [← e2]
  exact h9
theorem RL_arg {i k : Int} (h0 : 0 ≤ i) (hk : 0 ≤ k ∧ k ≤ 5 := by decide) (h1 : i + 6 < L) (hL : L ≤ 3584) (hg0 : lget lv 0 = some (vk 32)) (hg4 : lget lv 4 = some (vi i)) (d0 : decode code pc = .ok (.aload_n 0, 1)) (d1 : decode code (pc + 1) = .ok (.iload 4, 2)) (d3 : decode code (pc + 3) = .ok (.iconst k, 1)) (d4 : decode code (pc + 4) = .ok (.iadd, 1)) (d5 : decode code (pc + 5) = .ok (.iaload, 1)) (kk : RL E b L xs cl sl (pc + 6) lv (vi (X xs i k) :: st) mem) : RL E b L xs cl sl pc lv st mem := by
  refine RG_ldS d0 hg0 ?_
  refine RG_iload d1 hg4 ?_
  refine RG_iconst d3 ?_ ⟨by omega, by omega⟩
  refine RG_iadd d4 ?_
  rw [w32_in (by omega) (by omega)]
  exact RL_ld (by omega) (by omega) hL d5 kk
theorem RL_arg6 {i : Int} (h0 : 0 ≤ i) (h1 : i + 6 < L) (hL : L ≤ 3584) (hg0 : lget lv 0 = some (vk 32)) (hg4 : lget lv 4 = some (vi i)) (d0 : decode code pc = .ok (.aload_n 0, 1)) (d1 : decode code (pc + 1) = .ok (.iload 4, 2)) (d3 : decode code (pc + 3) = .ok (.bipush 6, 2)) (d4 : decode code (pc + 5) = .ok (.iadd, 1)) (d5 : decode code (pc + 6) = .ok (.iaload, 1)) (kk : RL E b L xs cl sl (pc + 7) lv (vi (X xs i 6) :: st) mem) : RL E b L xs cl sl pc lv st mem := by
  refine RG_ldS d0 hg0 ?_
  refine RG_iload d1 hg4 ?_
  refine RG_bipush d3 ?_
  refine RG_iadd d4 ?_
  rw [w32_in (by omega) (by omega)]
  exact RL_ld (by omega) (by omega) hL d5 kk
theorem room_law {d maxL : Nat} (hc : cl ≤ 601024) (hs : sl ≤ 7293034) (hd : d ≤ 2000 := by decide) (hm : maxL ≤ 100 := by decide) : roomG (FLW E b L xs) d maxL cl sl := by
  intro p e R s m args below meth c hx
  obtain ⟨rfl, -⟩ := hx
  refine ⟨?_, ?_, ?_, ?_⟩
  · show d + 1 ≤ 2048; omega
  · show 8 + (maxL + 11) + 40 * d ≤ 84000; omega
  · show cl ≤ 601024; omega
  · show sl ≤ 7293034; omega
theorem RL_end (hc : cl ≤ 601024) (hs : sl ≤ 7293034) (d0 : decode code pc = .ok (.iconst 1, 1)) (d1 : decode code (pc + 1) = .ok (.ireturn, 1)) : RL E b L xs cl sl pc lv [] mem := by
  refine RG_iconst d0 ?_
  intro r mem' ho p e R s m args below meth c hF hFx H locs ls hLo hs2 hw hS
  obtain ⟨rfl, h2, rfl, -⟩ := hFx
  refine va_forget (fun q hq => by have h9 : eB E ≤ q.base := hS.2.2 q hq; omega) ?_
  refine W_wide (k := 601024) (n := 7293034) hc hs ?_
  exact lw_ret hF.1 hF.2.1 hF.2.2.2.1 hF.2.2.2.2.2.2.1 d1
end Lw
