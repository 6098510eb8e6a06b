def fn_Standing_begin (th : Nat) (p1 : Nat) (mem : Mm) : Res := bd (fn_State_begin (th + 1) p1 mem) fun r1 m2 => bn (mst m2 (th + 4) 0 0) fun m3 => bn (mst m3 th 3 0) fun m4 => bd (fn_Arrays_fillI 6 (th + 10) (-2) m4) fun r5 m6 => some (0, m6)
set_option maxHeartbeats 4000000 in
theorem pf_Standing_begin {E : EE} (th : Nat) (p1 : Nat) (hk_th : ly_k th = (5, 8)) (hk_p1 : ly_k p1 = (0, 15)) (mem : Mm) {r : Int} {mem9 : Mm} (h : fn_Standing_begin th p1 mem = some (r, mem9)) : MetX E 3 yn_Standing_begin cd_Standing_begin 2 none [rf th, rf p1] mem r mem9 := by
  refine RO_met (y := yn_Standing_begin) (by decide +kernel) (Nat.le_of_ble_eq_true rfl) ?_ h
  show RO E mt_Standing_begin (fn_Standing_begin th p1 mem) 0 [(0, rf th), (1, rf p1)] [] mem
  unfold fn_Standing_begin
  refine RO_aload_n dc_Standing_begin_0 rfl rfl ?_
  refine RO_getR (b := (th + 1)) gf_Standing_12 hk_th (by omega) dc_Standing_begin_1 ?_
  refine RO_aload_n dc_Standing_begin_4 rfl rfl ?_
  refine RO_callVv (As := [rf p1]) (rest := []) mi_State_begin mv_State_begin ml_Standing_35 (cl_5_1 hk_th) (Nat.le_of_ble_eq_true rfl) rfl (Nat.le_of_ble_eq_true rfl) dc_Standing_begin_5 (fun rq mq hq => pf_State_begin (th + 1) p1 (cl_5_1 hk_th) hk_p1 mem hq) (fun r1 m2 => ?_)
  refine RO_aload_n dc_Standing_begin_8 rfl rfl ?_
  refine RO_getR (b := (th + 4)) gf_Standing_21 hk_th (by omega) dc_Standing_begin_9 ?_
  refine RO_iconst dc_Standing_begin_12 ?_
  refine RO_putI gp_Standing_39 (cl_5_2 hk_th) dc_Standing_begin_13 ?_
  refine RO_bnM (fun m3 => ?_)
  refine RO_aload_n dc_Standing_begin_16 rfl rfl ?_
  refine RO_iconst dc_Standing_begin_17 ?_
  refine RO_putI gp_Standing_43 hk_th dc_Standing_begin_18 ?_
  refine RO_bnM (fun m4 => ?_)
  refine RO_aload_n dc_Standing_begin_21 rfl rfl ?_
  refine RO_getR (b := (th + 10)) gf_Standing_32 hk_th (by omega) dc_Standing_begin_22 ?_
  refine RO_bipush dc_Standing_begin_25 ?_
  refine RO_callSv (As := [rf (th + 10), vi (-2)]) (rest := []) mi_Arrays_fillI ms_Arrays_fillI ml_Standing_46 (Nat.le_of_ble_eq_true rfl) rfl (Nat.le_of_ble_eq_true rfl) dc_Standing_begin_27 (fun rq mq hq => pf_Arrays_fillI 6 (th + 10) (-2) (cl_5_7 hk_th) m4 hq) (fun r5 m6 => ?_)
  exact RO_vret rfl dc_Standing_begin_30
def bo_Standing_isAsTold_37 (th : Nat) (p1 : Nat) (k2 : Int → Mm → Res) (v3 : Int) (mem : Mm) : Res := k2 (w32 (v3 + 1)) mem
set_option maxHeartbeats 4000000 in
theorem rb_Standing_isAsTold_37 {E : EE} (th : Nat) (p1 : Nat) (hk_th : ly_k th = (5, 8)) (hk_p1 : ly_k p1 = (0, 15)) (k2 : Int → Mm → Res) (H2 : ∀ (v3 : Int)  (mem : Mm), RO E mt_Standing_isAsTold (k2 v3 mem) 2 [(0, rf th), (1, rf p1), (2, rf 98), (3, vi v3)] [] mem) (v3 : Int)  (mem : Mm) : RO E mt_Standing_isAsTold (bo_Standing_isAsTold_37 th p1 k2 v3 mem) 37 [(0, rf th), (1, rf p1), (2, rf 98), (3, vi v3)] [] mem := by
  unfold bo_Standing_isAsTold_37
  refine RO_iinc dc_Standing_isAsTold_37 rfl (Nat.le_of_ble_eq_true rfl) ?_
  refine RO_goto (tgt := 2) dc_Standing_isAsTold_40 rfl ?_
  refine RO_sub ?_ (H2 (w32 (v3 + 1)) mem)
  exact ⟨rfl, rfl, rfl, rfl, trivial⟩
def bo_Standing_isAsTold_2 (th : Nat) (p1 : Nat) (k2 : Int → Mm → Res) (v3 : Int) (mem : Mm) : Res := if v3 < (mem p1 2) then (if 0 ≤ v3 ∧ v3 < 6 then if (mem (th + 10) v3.toNat) = (-2) then (bo_Standing_isAsTold_37 th p1 k2 v3 mem) else (if 0 ≤ v3 ∧ v3 < 6 then bd (fn_Walk_minuteOf v3 mem) fun r3 m4 => if (mem (th + 10) v3.toNat) = r3 then (bo_Standing_isAsTold_37 th p1 k2 v3 m4) else (some (0, m4)) else none) else none) else (some (1, mem))
set_option maxHeartbeats 4000000 in
theorem rb_Standing_isAsTold_2 {E : EE} (th : Nat) (p1 : Nat) (hk_th : ly_k th = (5, 8)) (hk_p1 : ly_k p1 = (0, 15)) (k2 : Int → Mm → Res) (H2 : ∀ (v3 : Int)  (mem : Mm), RO E mt_Standing_isAsTold (k2 v3 mem) 2 [(0, rf th), (1, rf p1), (2, rf 98), (3, vi v3)] [] mem) (v3 : Int)  (mem : Mm) : RO E mt_Standing_isAsTold (bo_Standing_isAsTold_2 th p1 k2 v3 mem) 2 [(0, rf th), (1, rf p1), (2, rf 98), (3, vi v3)] [] mem := by
  unfold bo_Standing_isAsTold_2
  refine RO_iload_n dc_Standing_isAsTold_2 rfl rfl ?_
  refine RO_aload_n dc_Standing_isAsTold_3 rfl rfl ?_
  refine RO_getI gf_Standing_74 hk_p1 dc_Standing_isAsTold_4 ?_
  refine RO_icmp_ge (tgt := 43) dc_Standing_isAsTold_7 rfl ?_ ?_
  · refine RO_aload_n dc_Standing_isAsTold_10 rfl rfl ?_
    refine RO_getR (b := (th + 10)) gf_Standing_32 hk_th (by omega) dc_Standing_isAsTold_11 ?_
    refine RO_iload_n dc_Standing_isAsTold_14 rfl rfl ?_
    refine RO_chk (fun hi1 => ?_)
    refine RO_ia (cl_5_7 hk_th) hi1 dc_Standing_isAsTold_15 ?_
    refine RO_bipush dc_Standing_isAsTold_16 ?_
    refine RO_icmp_eq (tgt := 37) dc_Standing_isAsTold_18 rfl ?_ ?_
    · refine RO_sub ?_ (rb_Standing_isAsTold_37 th p1 hk_th hk_p1 k2 H2 v3 mem)
      exact ⟨rfl, rfl, rfl, rfl, trivial⟩
    · refine RO_aload_n dc_Standing_isAsTold_21 rfl rfl ?_
      refine RO_getR (b := (th + 10)) gf_Standing_32 hk_th (by omega) dc_Standing_isAsTold_22 ?_
      refine RO_iload_n dc_Standing_isAsTold_25 rfl rfl ?_
      refine RO_chk (fun hi2 => ?_)
      refine RO_ia (cl_5_7 hk_th) hi2 dc_Standing_isAsTold_26 ?_
      refine RO_aload_n dc_Standing_isAsTold_27 rfl rfl ?_
      refine RO_iload_n dc_Standing_isAsTold_28 rfl rfl ?_
      refine RO_callVi (As := [vi v3]) (rest := [vi (mem (th + 10) v3.toNat)]) mi_Walk_minuteOf mv_Walk_minuteOf ml_Standing_79 lk_98 (Nat.le_of_ble_eq_true rfl) rfl (Nat.le_of_ble_eq_true rfl) (fun _ => rfl) dc_Standing_isAsTold_29 (fun rq mq hq => pf_Walk_minuteOf v3  mem hq) (fun r3 m4 => ?_)
      refine RO_icmp_eq (tgt := 37) dc_Standing_isAsTold_32 rfl ?_ ?_
      · refine RO_sub ?_ (rb_Standing_isAsTold_37 th p1 hk_th hk_p1 k2 H2 v3 m4)
        exact ⟨rfl, rfl, rfl, rfl, trivial⟩
      · refine RO_iconst dc_Standing_isAsTold_35 ?_
        exact RO_zret rfl (Or.inl rfl) dc_Standing_isAsTold_36
  · refine RO_iconst dc_Standing_isAsTold_43 ?_
    exact RO_zret rfl (Or.inr rfl) dc_Standing_isAsTold_44
def lp_Standing_isAsTold_2 (th : Nat) (p1 : Nat)  : Nat → Int → Mm → Res
  | 0 => fun _ _ => none
  | n + 1 => bo_Standing_isAsTold_2 th p1  (lp_Standing_isAsTold_2 th p1  n)
theorem rp_Standing_isAsTold_2 {E : EE} (th : Nat) (p1 : Nat) (hk_th : ly_k th = (5, 8)) (hk_p1 : ly_k p1 = (0, 15))   : ∀ (n : Nat) (v3 : Int)  (mem : Mm), RO E mt_Standing_isAsTold (lp_Standing_isAsTold_2 th p1  n v3 mem) 2 [(0, rf th), (1, rf p1), (2, rf 98), (3, vi v3)] [] mem := by
  intro n
  induction n with
  | zero => intro v3  mem; exact RO_none
  | succ n ih => intro v3  mem; exact rb_Standing_isAsTold_2 th p1 hk_th hk_p1  (lp_Standing_isAsTold_2 th p1  n)  ih v3  mem
def fn_Standing_isAsTold (th : Nat) (p1 : Nat) (mem : Mm) : Res := lp_Standing_isAsTold_2 th p1 FU 0 mem
set_option maxHeartbeats 4000000 in
theorem pf_Standing_isAsTold {E : EE} (th : Nat) (p1 : Nat) (hk_th : ly_k th = (5, 8)) (hk_p1 : ly_k p1 = (0, 15)) (mem : Mm) {r : Int} {mem9 : Mm} (h : fn_Standing_isAsTold th p1 mem = some (r, mem9)) : MetX E 3 yn_Standing_isAsTold cd_Standing_isAsTold 4 (some .boolean) [rf th, rf p1, rf 98] mem r mem9 := by
  refine RO_met (y := yn_Standing_isAsTold) (by decide +kernel) (Nat.le_of_ble_eq_true rfl) ?_ h
  show RO E mt_Standing_isAsTold (fn_Standing_isAsTold th p1 mem) 0 [(0, rf th), (1, rf p1), (2, rf 98)] [] mem
  unfold fn_Standing_isAsTold
  refine RO_iconst dc_Standing_isAsTold_0 ?_
  refine RO_istore_n dc_Standing_isAsTold_1 rfl (Nat.le_of_ble_eq_true rfl) ?_
  refine RO_sub ?_ (rp_Standing_isAsTold_2 th p1 hk_th hk_p1 FU 0 mem)
  exact ⟨rfl, rfl, rfl, rfl, trivial⟩
def fn_Tape_which (p1 : Nat) (p2 : Int) (mem : Mm) : Res := bd (fn_Tape_isName  mem) fun r1 m2 => if r1 = 0 then (bd (fn_Tape_wrong 1 m2) fun r3 m4 => some ((-1), m4)) else (bd (fn_Tape_find p1 p2 (m2 1 3) m2) fun r5 m6 => if r5 = (-1) then (bd (fn_Tape_wrong 2 m6) fun r7 m8 => some (r5, m8)) else (some (r5, m6)))
set_option maxHeartbeats 4000000 in
theorem pf_Tape_which {E : EE} (p1 : Nat) (p2 : Int) (hk_p1 : ly_k p1 = (13, 6)) (mem : Mm) {r : Int} {mem9 : Mm} (h : fn_Tape_which p1 p2 mem = some (r, mem9)) : MetX E 3 yn_Tape_which cd_Tape_which 4 (some .int) [rf 1, rf p1, vi p2] mem r mem9 := by
  refine RO_met (y := yn_Tape_which) (by decide +kernel) (Nat.le_of_ble_eq_true rfl) ?_ h
  show RO E mt_Tape_which (fn_Tape_which p1 p2 mem) 0 [(0, rf 1), (1, rf p1), (2, vi p2)] [] mem
  unfold fn_Tape_which
  refine RO_aload_n dc_Tape_which_0 rfl rfl ?_
  refine RO_callVi (As := []) (rest := []) mi_Tape_isName mv_Tape_isName ml_Tape_94 lk_1 (Nat.le_of_ble_eq_true rfl) rfl (Nat.le_of_ble_eq_true rfl) (fun _ => rfl) dc_Tape_which_1 (fun rq mq hq => pf_Tape_isName   mem hq) (fun r1 m2 => ?_)
  refine RO_if_ne (tgt := 15) dc_Tape_which_4 rfl ?_ ?_
  · refine RO_aload_n dc_Tape_which_7 rfl rfl ?_
    refine RO_iconst dc_Tape_which_8 ?_
    refine RO_callVi (As := [vi 1]) (rest := []) mi_Tape_wrong mv_Tape_wrong ml_Tape_84 lk_1 (Nat.le_of_ble_eq_true rfl) rfl (Nat.le_of_ble_eq_true rfl) (fun _ => rfl) dc_Tape_which_9 (fun rq mq hq => pf_Tape_wrong 1  m2 hq) (fun r3 m4 => ?_)
    refine RO_pop dc_Tape_which_12 (nt0 _) ?_
    refine RO_iconst dc_Tape_which_13 ?_
    exact RO_iret rfl dc_Tape_which_14
  · refine RO_aload_n dc_Tape_which_15 rfl rfl ?_
    refine RO_iload_n dc_Tape_which_16 rfl rfl ?_
    refine RO_aload_n dc_Tape_which_17 rfl rfl ?_
    refine RO_getL gf_Tape_64 lk_1 dc_Tape_which_18 ?_
    refine RO_callSi (As := [rf p1, vi p2, vl (m2 1 3)]) (rest := []) mi_Tape_find ms_Tape_find ml_Tape_97 (Nat.le_of_ble_eq_true rfl) rfl (Nat.le_of_ble_eq_true rfl) (fun _ => rfl) dc_Tape_which_21 (fun rq mq hq => pf_Tape_find p1 p2 (m2 1 3) hk_p1 m2 hq) (fun r5 m6 => ?_)
    refine RO_istore_n dc_Tape_which_24 rfl (Nat.le_of_ble_eq_true rfl) ?_
    refine RO_iload_n dc_Tape_which_25 rfl rfl ?_
    refine RO_iconst dc_Tape_which_26 ?_
    refine RO_icmp_ne (tgt := 36) dc_Tape_which_27 rfl ?_ ?_
    · refine RO_aload_n dc_Tape_which_30 rfl rfl ?_
      refine RO_iconst dc_Tape_which_31 ?_
      refine RO_callVi (As := [vi 2]) (rest := []) mi_Tape_wrong mv_Tape_wrong ml_Tape_84 lk_1 (Nat.le_of_ble_eq_true rfl) rfl (Nat.le_of_ble_eq_true rfl) (fun _ => rfl) dc_Tape_which_32 (fun rq mq hq => pf_Tape_wrong 2  m6 hq) (fun r7 m8 => ?_)
      refine RO_pop dc_Tape_which_35 (nt0 _) ?_
      refine RO_iload_n dc_Tape_which_36 rfl rfl ?_
      exact RO_iret rfl dc_Tape_which_37
    · refine RO_iload_n dc_Tape_which_36 rfl rfl ?_
      exact RO_iret rfl dc_Tape_which_37
def bo_Walk_comeAll_154 (p1 : Int) (k2 : Int → Mm → Res) (v2 : Int) (mem : Mm) : Res := k2 (w32 (v2 + 1)) mem
set_option maxHeartbeats 4000000 in
theorem rb_Walk_comeAll_154 {E : EE} (p1 : Int)  (k2 : Int → Mm → Res) (H2 : ∀ (v2 : Int)  (mem : Mm), RO E mt_Walk_comeAll (k2 v2 mem) 2 [(0, rf 98), (1, vi p1), (2, vi v2)] [] mem) (v2 : Int)  (mem : Mm) : RO E mt_Walk_comeAll (bo_Walk_comeAll_154 p1 k2 v2 mem) 154 [(0, rf 98), (1, vi p1), (2, vi v2)] [] mem := by
  unfold bo_Walk_comeAll_154
  refine RO_iinc dc_Walk_comeAll_154 rfl (Nat.le_of_ble_eq_true rfl) ?_
  refine RO_goto (tgt := 2) dc_Walk_comeAll_157 rfl ?_
  refine RO_sub ?_ (H2 (w32 (v2 + 1)) mem)
  exact ⟨rfl, rfl, rfl, trivial⟩
def bo_Walk_comeAll_153 (p1 : Int) (k2 : Int → Mm → Res) (v2 : Int) (s1 : Int) (s2 : Int) (mem : Mm) : Res := if 0 ≤ s1 ∧ s1 < 6 then bn (mst mem 103 s1.toNat s2) fun m2 => bo_Walk_comeAll_154 p1 k2 v2 m2 else none
set_option maxHeartbeats 4000000 in
theorem rb_Walk_comeAll_153 {E : EE} (p1 : Int)  (k2 : Int → Mm → Res) (H2 : ∀ (v2 : Int)  (mem : Mm), RO E mt_Walk_comeAll (k2 v2 mem) 2 [(0, rf 98), (1, vi p1), (2, vi v2)] [] mem) (v2 : Int) (s1 : Int) (s2 : Int)  (mem : Mm) : RO E mt_Walk_comeAll (bo_Walk_comeAll_153 p1 k2 v2 s1 s2 mem) 153 [(0, rf 98), (1, vi p1), (2, vi v2)] [vi s2, vi s1, rf 103] mem := by
  unfold bo_Walk_comeAll_153
  refine RO_chk (fun hi1 => ?_)
  refine RO_is lk_103 hi1 dc_Walk_comeAll_153 ?_
  refine RO_bnM (fun m2 => ?_)
  refine RO_sub ?_ (rb_Walk_comeAll_154 p1 k2 H2 v2 m2)
  exact ⟨rfl, rfl, rfl, trivial⟩
def bo_Walk_comeAll_2 (p1 : Int) (k2 : Int → Mm → Res) (v2 : Int) (mem : Mm) : Res := if isK 0 (mem 98 0) = true then if v2 < (mem (mem 98 0).toNat 1) then (if 0 ≤ v2 ∧ v2 < 6 then if (mem 103 v2.toNat) = p1 then (bd (fn_Walk_isThere v2 mem) fun r3 m4 => if r3 = 0 then (if 0 ≤ v2 ∧ v2 < 6 then if (m4 99 v2.toNat) < 4 then (if isK 0 (m4 98 0) = true then if 0 ≤ v2 ∧ v2 < 6 then if 0 ≤ v2 ∧ v2 < 6 then bn (w32 ((w32 (v2 * 4)) + (m4 99 v2.toNat))) fun x11 => if 0 ≤ v2 ∧ v2 < 6 then if 0 ≤ m4 99 v2.toNat ∧ m4 99 v2.toNat < 4 then if 0 ≤ x11 ∧ x11 < 24 then bn (mst m4 100 x11.toNat (m4 (((m4 98 0).toNat + 4 * v2.toNat) + 14) (m4 99 v2.toNat).toNat)) fun m15 => if 0 ≤ x11 ∧ x11 < 24 then bn (mst m15 101 x11.toNat p1) fun m17 => if 0 ≤ x11 ∧ x11 < 24 then bn (mst m17 102 x11.toNat 239) fun m19 => if 0 ≤ v2 ∧ v2 < 6 then if 0 ≤ v2 ∧ v2 < 6 then bn (mst m19 99 v2.toNat (w32 ((m19 99 v2.toNat) + 1))) fun m22 => bn (mst m22 98 7 (ior (m22 98 7) (ishl 1 v2))) fun m23 => bd (fn_Walk_nextWay v2 m23) fun r24 m25 => if r24 = (-1) then (bo_Walk_comeAll_153 p1 k2 v2 v2 1000000 m25) else (if 0 ≤ x11 ∧ x11 < 24 then bd (fn_Walk_longestStay (((m4 98 0).toNat + 4 * v2.toNat) + 13) (m25 100 x11.toNat) m25) fun r27 m28 => bo_Walk_comeAll_153 p1 k2 v2 v2 (w32 (p1 + r27)) m28 else none) else none else none else none else none else none else none else none else none else none else none) else (bo_Walk_comeAll_154 p1 k2 v2 m4) else none) else (bo_Walk_comeAll_154 p1 k2 v2 m4)) else (bo_Walk_comeAll_154 p1 k2 v2 mem) else none) else (some (0, mem)) else none
set_option maxHeartbeats 4000000 in
theorem rb_Walk_comeAll_2 {E : EE} (p1 : Int)  (k2 : Int → Mm → Res) (H2 : ∀ (v2 : Int)  (mem : Mm), RO E mt_Walk_comeAll (k2 v2 mem) 2 [(0, rf 98), (1, vi p1), (2, vi v2)] [] mem) (v2 : Int)  (mem : Mm) : RO E mt_Walk_comeAll (bo_Walk_comeAll_2 p1 k2 v2 mem) 2 [(0, rf 98), (1, vi p1), (2, vi v2)] [] mem := by
  unfold bo_Walk_comeAll_2
  refine RO_iload_n dc_Walk_comeAll_2 rfl rfl ?_
  refine RO_aload_n dc_Walk_comeAll_3 rfl rfl ?_
  refine RO_chk (fun hz1 => ?_)
  refine RO_getM gf_Walk_27 lk_98 (isK_0 hz1) dc_Walk_comeAll_4 ?_
  refine RO_getI gf_Walk_39 (kd_0 hz1) dc_Walk_comeAll_7 ?_
  refine RO_icmp_ge (tgt := 160) dc_Walk_comeAll_10 rfl ?_ ?_
  · refine RO_aload_n dc_Walk_comeAll_13 rfl rfl ?_
    refine RO_getR (b := 103) gf_Walk_24 lk_98 rfl dc_Walk_comeAll_14 ?_
    refine RO_iload_n dc_Walk_comeAll_17 rfl rfl ?_
    refine RO_chk (fun hi2 => ?_)
    refine RO_ia lk_103 hi2 dc_Walk_comeAll_18 ?_
    refine RO_iload_n dc_Walk_comeAll_19 rfl rfl ?_
    refine RO_icmp_ne (tgt := 154) dc_Walk_comeAll_20 rfl ?_ ?_
    · refine RO_aload_n dc_Walk_comeAll_23 rfl rfl ?_
      refine RO_iload_n dc_Walk_comeAll_24 rfl rfl ?_
      refine RO_callVi (As := [vi v2]) (rest := []) mi_Walk_isThere mv_Walk_isThere ml_Walk_83 lk_98 (Nat.le_of_ble_eq_true rfl) rfl (Nat.le_of_ble_eq_true rfl) (fun _ => rfl) dc_Walk_comeAll_25 (fun rq mq hq => pf_Walk_isThere v2  mem hq) (fun r3 m4 => ?_)
      refine RO_if_ne (tgt := 154) dc_Walk_comeAll_28 rfl ?_ ?_
      · refine RO_aload_n dc_Walk_comeAll_31 rfl rfl ?_
        refine RO_getR (b := 99) gf_Walk_9 lk_98 rfl dc_Walk_comeAll_32 ?_
        refine RO_iload_n dc_Walk_comeAll_35 rfl rfl ?_
        refine RO_chk (fun hi5 => ?_)
        refine RO_ia lk_99 hi5 dc_Walk_comeAll_36 ?_
        refine RO_iconst dc_Walk_comeAll_37 ?_
        refine RO_icmp_ge (tgt := 154) dc_Walk_comeAll_38 rfl ?_ ?_
        · refine RO_aload_n dc_Walk_comeAll_41 rfl rfl ?_
          refine RO_chk (fun hz6 => ?_)
          refine RO_getM gf_Walk_27 lk_98 (isK_0 hz6) dc_Walk_comeAll_42 ?_
          refine RO_getR (b := ((m4 98 0).toNat + 6)) gf_Walk_50 (kd_0 hz6) (by omega) dc_Walk_comeAll_45 ?_
          refine RO_iload_n dc_Walk_comeAll_48 rfl rfl ?_
          refine RO_chk (fun hi7 => ?_)
          have hb8 : ((m4 98 0).toNat + 6) + (raO 18).1 + (raO 18).2 * v2.toNat = (((m4 98 0).toNat + 4 * v2.toNat) + 13) := by show _ + 7 + 4 * _ = _; omega
          have hk9 := el_18 (cl_0_10 (kd_0 hz6)) hi7 hb8
          refine RO_aa (by decide) (cl_0_10 (kd_0 hz6)) hi7 hb8 dc_Walk_comeAll_49 ?_
          refine RO_astore_n dc_Walk_comeAll_50 rfl (Nat.le_of_ble_eq_true rfl) ?_
          refine RO_iload_n dc_Walk_comeAll_51 rfl rfl ?_
          refine RO_iconst dc_Walk_comeAll_52 ?_
          refine RO_imul dc_Walk_comeAll_53 ?_
          refine RO_aload_n dc_Walk_comeAll_54 rfl rfl ?_
          refine RO_getR (b := 99) gf_Walk_9 lk_98 rfl dc_Walk_comeAll_55 ?_
          refine RO_iload_n dc_Walk_comeAll_58 rfl rfl ?_
          refine RO_chk (fun hi10 => ?_)
          refine RO_ia lk_99 hi10 dc_Walk_comeAll_59 ?_
          refine RO_iadd dc_Walk_comeAll_60 ?_
          refine RO_bnT (fun x11 => ?_)
          refine RO_istore dc_Walk_comeAll_61 (Nat.le_of_ble_eq_true rfl) ?_
          refine RO_aload_n dc_Walk_comeAll_63 rfl rfl ?_
          refine RO_getR (b := 100) gf_Walk_15 lk_98 rfl dc_Walk_comeAll_64 ?_
          refine RO_iload dc_Walk_comeAll_67 rfl ?_
          refine RO_aload_n dc_Walk_comeAll_69 rfl rfl ?_
          refine RO_getR (b := (((m4 98 0).toNat + 4 * v2.toNat) + 14)) gf_Walk_86 hk9 (by omega) dc_Walk_comeAll_70 ?_
          refine RO_aload_n dc_Walk_comeAll_73 rfl rfl ?_
          refine RO_getR (b := 99) gf_Walk_9 lk_98 rfl dc_Walk_comeAll_74 ?_
          refine RO_iload_n dc_Walk_comeAll_77 rfl rfl ?_
          refine RO_chk (fun hi12 => ?_)
          refine RO_ia lk_99 hi12 dc_Walk_comeAll_78 ?_
          refine RO_chk (fun hi13 => ?_)
          refine RO_ia (cl_9_5 hk9) hi13 dc_Walk_comeAll_79 ?_
          refine RO_chk (fun hi14 => ?_)
          refine RO_is lk_100 hi14 dc_Walk_comeAll_80 ?_
          refine RO_bnM (fun m15 => ?_)
          refine RO_aload_n dc_Walk_comeAll_81 rfl rfl ?_
          refine RO_getR (b := 101) gf_Walk_18 lk_98 rfl dc_Walk_comeAll_82 ?_
          refine RO_iload dc_Walk_comeAll_85 rfl ?_
          refine RO_iload_n dc_Walk_comeAll_87 rfl rfl ?_
          refine RO_chk (fun hi16 => ?_)
          refine RO_is lk_101 hi16 dc_Walk_comeAll_88 ?_
          refine RO_bnM (fun m17 => ?_)
          refine RO_aload_n dc_Walk_comeAll_89 rfl rfl ?_
          refine RO_getR (b := 102) gf_Walk_21 lk_98 rfl dc_Walk_comeAll_90 ?_
          refine RO_iload dc_Walk_comeAll_93 rfl ?_
          refine RO_sipush dc_Walk_comeAll_95 ?_
          refine RO_chk (fun hi18 => ?_)
          refine RO_is lk_102 hi18 dc_Walk_comeAll_98 ?_
          refine RO_bnM (fun m19 => ?_)
          refine RO_aload_n dc_Walk_comeAll_99 rfl rfl ?_
          refine RO_getR (b := 99) gf_Walk_9 lk_98 rfl dc_Walk_comeAll_100 ?_
          refine RO_iload_n dc_Walk_comeAll_103 rfl rfl ?_
          refine RO_dup2 dc_Walk_comeAll_104 (nt0 _) (nt2 _) ?_
          refine RO_chk (fun hi20 => ?_)
          refine RO_ia lk_99 hi20 dc_Walk_comeAll_105 ?_
          refine RO_iconst dc_Walk_comeAll_106 ?_
          refine RO_iadd dc_Walk_comeAll_107 ?_
          refine RO_chk (fun hi21 => ?_)
          refine RO_is lk_99 hi21 dc_Walk_comeAll_108 ?_
          refine RO_bnM (fun m22 => ?_)
          refine RO_aload_n dc_Walk_comeAll_109 rfl rfl ?_
          refine RO_dup dc_Walk_comeAll_110 (nt2 _) ?_
          refine RO_getI gf_Walk_35 lk_98 dc_Walk_comeAll_111 ?_
          refine RO_iconst dc_Walk_comeAll_114 ?_
          refine RO_iload_n dc_Walk_comeAll_115 rfl rfl ?_
          refine RO_ishl dc_Walk_comeAll_116 ?_
          refine RO_ior dc_Walk_comeAll_117 ?_
          refine RO_putI gp_Walk_35 lk_98 dc_Walk_comeAll_118 ?_
          refine RO_bnM (fun m23 => ?_)
          refine RO_aload_n dc_Walk_comeAll_121 rfl rfl ?_
          refine RO_getR (b := 103) gf_Walk_24 lk_98 rfl dc_Walk_comeAll_122 ?_
          refine RO_iload_n dc_Walk_comeAll_125 rfl rfl ?_
          refine RO_aload_n dc_Walk_comeAll_126 rfl rfl ?_
          refine RO_iload_n dc_Walk_comeAll_127 rfl rfl ?_
          refine RO_callVi (As := [vi v2]) (rest := [vi v2, rf 103]) mi_Walk_nextWay mv_Walk_nextWay ml_Walk_89 lk_98 (Nat.le_of_ble_eq_true rfl) rfl (Nat.le_of_ble_eq_true rfl) (fun _ => rfl) dc_Walk_comeAll_128 (fun rq mq hq => pf_Walk_nextWay v2  m23 hq) (fun r24 m25 => ?_)
          refine RO_iconst dc_Walk_comeAll_131 ?_
          refine RO_icmp_ne (tgt := 140) dc_Walk_comeAll_132 rfl ?_ ?_
          · refine RO_ldc (x := 1000000) c1_Walk_62 ⟨by decide, ⟨by decide, by decide⟩⟩ dc_Walk_comeAll_135 ?_
            refine RO_goto (tgt := 153) dc_Walk_comeAll_137 rfl ?_
            refine RO_sub ?_ (rb_Walk_comeAll_153 p1 k2 H2 v2 v2 1000000 m25)
            exact ⟨rfl, rfl, rfl, trivial⟩
          · refine RO_iload_n dc_Walk_comeAll_140 rfl rfl ?_
            refine RO_aload_n dc_Walk_comeAll_141 rfl rfl ?_
            refine RO_aload_n dc_Walk_comeAll_142 rfl rfl ?_
            refine RO_getR (b := 100) gf_Walk_15 lk_98 rfl dc_Walk_comeAll_143 ?_
            refine RO_iload dc_Walk_comeAll_146 rfl ?_
            refine RO_chk (fun hi26 => ?_)
            refine RO_ia lk_100 hi26 dc_Walk_comeAll_148 ?_
            refine RO_callSi (As := [rf (((m4 98 0).toNat + 4 * v2.toNat) + 13), vi (m25 100 x11.toNat)]) (rest := [vi p1, vi v2, rf 103]) mi_Walk_longestStay ms_Walk_longestStay ml_Walk_93 (Nat.le_of_ble_eq_true rfl) rfl (Nat.le_of_ble_eq_true rfl) (fun _ => rfl) dc_Walk_comeAll_149 (fun rq mq hq => pf_Walk_longestStay (((m4 98 0).toNat + 4 * v2.toNat) + 13) (m25 100 x11.toNat) hk9 m25 hq) (fun r27 m28 => ?_)
            refine RO_iadd dc_Walk_comeAll_152 ?_
            refine RO_sub ?_ (rb_Walk_comeAll_153 p1 k2 H2 v2 v2 (w32 (p1 + r27)) m28)
            exact ⟨rfl, rfl, rfl, trivial⟩
        · refine RO_sub ?_ (rb_Walk_comeAll_154 p1 k2 H2 v2 m4)
          exact ⟨rfl, rfl, rfl, trivial⟩
      · refine RO_sub ?_ (rb_Walk_comeAll_154 p1 k2 H2 v2 m4)
        exact ⟨rfl, rfl, rfl, trivial⟩
    · refine RO_sub ?_ (rb_Walk_comeAll_154 p1 k2 H2 v2 mem)
      exact ⟨rfl, rfl, rfl, trivial⟩
  · exact RO_vret rfl dc_Walk_comeAll_160
def lp_Walk_comeAll_2 (p1 : Int)  : Nat → Int → Mm → Res
  | 0 => fun _ _ => none
  | n + 1 => bo_Walk_comeAll_2 p1  (lp_Walk_comeAll_2 p1  n)
theorem rp_Walk_comeAll_2 {E : EE} (p1 : Int)    : ∀ (n : Nat) (v2 : Int)  (mem : Mm), RO E mt_Walk_comeAll (lp_Walk_comeAll_2 p1  n v2 mem) 2 [(0, rf 98), (1, vi p1), (2, vi v2)] [] mem := by
  intro n
  induction n with
  | zero => intro v2  mem; exact RO_none
  | succ n ih => intro v2  mem; exact rb_Walk_comeAll_2 p1   (lp_Walk_comeAll_2 p1  n)  ih v2  mem
def fn_Walk_comeAll (p1 : Int) (mem : Mm) : Res := lp_Walk_comeAll_2 p1 FU 0 mem
set_option maxHeartbeats 4000000 in
theorem pf_Walk_comeAll {E : EE} (p1 : Int)  (mem : Mm) {r : Int} {mem9 : Mm} (h : fn_Walk_comeAll p1 mem = some (r, mem9)) : MetX E 3 yn_Walk_comeAll cd_Walk_comeAll 5 none [rf 98, vi p1] mem r mem9 := by
  refine RO_met (y := yn_Walk_comeAll) (by decide +kernel) (Nat.le_of_ble_eq_true rfl) ?_ h
  show RO E mt_Walk_comeAll (fn_Walk_comeAll p1 mem) 0 [(0, rf 98), (1, vi p1)] [] mem
  unfold fn_Walk_comeAll
  refine RO_iconst dc_Walk_comeAll_0 ?_
  refine RO_istore_n dc_Walk_comeAll_1 rfl (Nat.le_of_ble_eq_true rfl) ?_
  refine RO_sub ?_ (rp_Walk_comeAll_2 p1 FU 0 mem)
  exact ⟨rfl, rfl, rfl, trivial⟩
def fn_Walk_off (p1 : Int) (mem : Mm) : Res := if isK 6 (mem 98 1) = true then if 0 ≤ p1 ∧ p1 < 6 then bd (fn_Walk_offBy p1 (mem ((mem 98 1).toNat + 2) p1.toNat) mem) fun r3 m4 => some (r3, m4) else none else none
set_option maxHeartbeats 4000000 in
theorem pf_Walk_off {E : EE} (p1 : Int)  (mem : Mm) {r : Int} {mem9 : Mm} (h : fn_Walk_off p1 mem = some (r, mem9)) : MetX E 3 yn_Walk_off cd_Walk_off 2 (some .int) [rf 98, vi p1] mem r mem9 := by
  refine RO_met (y := yn_Walk_off) (by decide +kernel) (Nat.le_of_ble_eq_true rfl) ?_ h
  show RO E mt_Walk_off (fn_Walk_off p1 mem) 0 [(0, rf 98), (1, vi p1)] [] mem
  unfold fn_Walk_off
  refine RO_aload_n dc_Walk_off_0 rfl rfl ?_
  refine RO_iload_n dc_Walk_off_1 rfl rfl ?_
  refine RO_aload_n dc_Walk_off_2 rfl rfl ?_
  refine RO_chk (fun hz1 => ?_)
  refine RO_getM gf_Walk_31 lk_98 (isK_0 hz1) dc_Walk_off_3 ?_
  refine RO_getR (b := ((mem 98 1).toNat + 2)) gf_Walk_133 (kd_6 hz1) (by omega) dc_Walk_off_6 ?_
  refine RO_iload_n dc_Walk_off_9 rfl rfl ?_
  refine RO_chk (fun hi2 => ?_)
  refine RO_ia (cl_6_5 (kd_6 hz1)) hi2 dc_Walk_off_10 ?_
  refine RO_callVi (As := [vi p1, vi (mem ((mem 98 1).toNat + 2) p1.toNat)]) (rest := []) mi_Walk_offBy mv_Walk_offBy ml_Walk_142 lk_98 (Nat.le_of_ble_eq_true rfl) rfl (Nat.le_of_ble_eq_true rfl) (fun _ => rfl) dc_Walk_off_11 (fun rq mq hq => pf_Walk_offBy p1 (mem ((mem 98 1).toNat + 2) p1.toNat)  mem hq) (fun r3 m4 => ?_)
  exact RO_iret rfl dc_Walk_off_14
def bo_Walk_missing_27  (k4 : Int → Int → Mm → Res) (v1 : Int) (v2 : Int) (mem : Mm) : Res := k4 v1 (w32 (v2 + 1)) mem
set_option maxHeartbeats 4000000 in
theorem rb_Walk_missing_27 {E : EE}   (k4 : Int → Int → Mm → Res) (H4 : ∀ (v1 : Int) (v2 : Int)  (mem : Mm), RO E mt_Walk_missing (k4 v1 v2 mem) 4 [(0, rf 98), (1, vi v1), (2, vi v2)] [] mem) (v1 : Int) (v2 : Int)  (mem : Mm) : RO E mt_Walk_missing (bo_Walk_missing_27  k4 v1 v2 mem) 27 [(0, rf 98), (1, vi v1), (2, vi v2)] [] mem := by
  unfold bo_Walk_missing_27
  refine RO_iinc dc_Walk_missing_27 rfl (Nat.le_of_ble_eq_true rfl) ?_
  refine RO_goto (tgt := 4) dc_Walk_missing_30 rfl ?_
  refine RO_sub ?_ (H4 v1 (w32 (v2 + 1)) mem)
  exact ⟨rfl, rfl, rfl, trivial⟩
def bo_Walk_missing_4  (k4 : Int → Int → Mm → Res) (v1 : Int) (v2 : Int) (mem : Mm) : Res := if isK 0 (mem 98 0) = true then if v2 < (mem (mem 98 0).toNat 2) then (bd (fn_Walk_minuteOf v2 mem) fun r2 m3 => if r2 = (-1) then (bo_Walk_missing_27 k4 (w32 (v1 + 1)) v2 m3) else (bo_Walk_missing_27 k4 v1 v2 m3)) else (some (v1, mem)) else none
set_option maxHeartbeats 4000000 in
theorem rb_Walk_missing_4 {E : EE}   (k4 : Int → Int → Mm → Res) (H4 : ∀ (v1 : Int) (v2 : Int)  (mem : Mm), RO E mt_Walk_missing (k4 v1 v2 mem) 4 [(0, rf 98), (1, vi v1), (2, vi v2)] [] mem) (v1 : Int) (v2 : Int)  (mem : Mm) : RO E mt_Walk_missing (bo_Walk_missing_4  k4 v1 v2 mem) 4 [(0, rf 98), (1, vi v1), (2, vi v2)] [] mem := by
  unfold bo_Walk_missing_4
  refine RO_iload_n dc_Walk_missing_4 rfl rfl ?_
  refine RO_aload_n dc_Walk_missing_5 rfl rfl ?_
  refine RO_chk (fun hz1 => ?_)
  refine RO_getM gf_Walk_27 lk_98 (isK_0 hz1) dc_Walk_missing_6 ?_
  refine RO_getI gf_Walk_170 (kd_0 hz1) dc_Walk_missing_9 ?_
  refine RO_icmp_ge (tgt := 33) dc_Walk_missing_12 rfl ?_ ?_
  · refine RO_aload_n dc_Walk_missing_15 rfl rfl ?_
    refine RO_iload_n dc_Walk_missing_16 rfl rfl ?_
    refine RO_callVi (As := [vi v2]) (rest := []) mi_Walk_minuteOf mv_Walk_minuteOf ml_Walk_158 lk_98 (Nat.le_of_ble_eq_true rfl) rfl (Nat.le_of_ble_eq_true rfl) (fun _ => rfl) dc_Walk_missing_17 (fun rq mq hq => pf_Walk_minuteOf v2  mem hq) (fun r2 m3 => ?_)
    refine RO_iconst dc_Walk_missing_20 ?_
    refine RO_icmp_ne (tgt := 27) dc_Walk_missing_21 rfl ?_ ?_
    · refine RO_iinc dc_Walk_missing_24 rfl (Nat.le_of_ble_eq_true rfl) ?_
      refine RO_sub ?_ (rb_Walk_missing_27 k4 H4 (w32 (v1 + 1)) v2 m3)
      exact ⟨rfl, rfl, rfl, trivial⟩
    · refine RO_sub ?_ (rb_Walk_missing_27 k4 H4 v1 v2 m3)
      exact ⟨rfl, rfl, rfl, trivial⟩
  · refine RO_iload_n dc_Walk_missing_33 rfl rfl ?_
    exact RO_iret rfl dc_Walk_missing_34
def lp_Walk_missing_4   : Nat → Int → Int → Mm → Res
  | 0 => fun _ _ _ => none
  | n + 1 => bo_Walk_missing_4   (lp_Walk_missing_4   n)
theorem rp_Walk_missing_4 {E : EE}     : ∀ (n : Nat) (v1 : Int) (v2 : Int)  (mem : Mm), RO E mt_Walk_missing (lp_Walk_missing_4   n v1 v2 mem) 4 [(0, rf 98), (1, vi v1), (2, vi v2)] [] mem := by
  intro n
  induction n with
  | zero => intro v1 v2  mem; exact RO_none
  | succ n ih => intro v1 v2  mem; exact rb_Walk_missing_4    (lp_Walk_missing_4   n)  ih v1 v2  mem
def fn_Walk_missing  (mem : Mm) : Res := lp_Walk_missing_4 FU 0 0 mem
set_option maxHeartbeats 4000000 in
theorem pf_Walk_missing {E : EE}   (mem : Mm) {r : Int} {mem9 : Mm} (h : fn_Walk_missing  mem = some (r, mem9)) : MetX E 3 yn_Walk_missing cd_Walk_missing 3 (some .int) [rf 98] mem r mem9 := by
  refine RO_met (y := yn_Walk_missing) (by decide +kernel) (Nat.le_of_ble_eq_true rfl) ?_ h
  show RO E mt_Walk_missing (fn_Walk_missing  mem) 0 [(0, rf 98)] [] mem
  unfold fn_Walk_missing
  refine RO_iconst dc_Walk_missing_0 ?_
  refine RO_istore_n dc_Walk_missing_1 rfl (Nat.le_of_ble_eq_true rfl) ?_
  refine RO_iconst dc_Walk_missing_2 ?_
  refine RO_istore_n dc_Walk_missing_3 rfl (Nat.le_of_ble_eq_true rfl) ?_
  refine RO_sub ?_ (rp_Walk_missing_4 FU 0 0 mem)
  exact ⟨rfl, rfl, rfl, trivial⟩
def bo_Walk_meetings_49  (k4 : Int → Int → Mm → Res) (v1 : Int) (v2 : Int) (mem : Mm) : Res := k4 v1 (w32 (v2 + 1)) mem
set_option maxHeartbeats 4000000 in
theorem rb_Walk_meetings_49 {E : EE}   (k4 : Int → Int → Mm → Res) (H4 : ∀ (v1 : Int) (v2 : Int)  (mem : Mm), RO E mt_Walk_meetings (k4 v1 v2 mem) 4 [(0, rf 98), (1, vi v1), (2, vi v2)] [] mem) (v1 : Int) (v2 : Int)  (mem : Mm) : RO E mt_Walk_meetings (bo_Walk_meetings_49  k4 v1 v2 mem) 49 [(0, rf 98), (1, vi v1), (2, vi v2)] [] mem := by
  unfold bo_Walk_meetings_49
  refine RO_iinc dc_Walk_meetings_49 rfl (Nat.le_of_ble_eq_true rfl) ?_
  refine RO_goto (tgt := 4) dc_Walk_meetings_52 rfl ?_
  refine RO_sub ?_ (H4 v1 (w32 (v2 + 1)) mem)
  exact ⟨rfl, rfl, rfl, trivial⟩
def bo_Walk_meetings_43  (k4 : Int → Int → Mm → Res) (k19 : Int → Int → Int → Mm → Res) (v1 : Int) (v2 : Int) (v3 : Int) (mem : Mm) : Res := k19 v1 v2 (w32 (v3 + 1)) mem
set_option maxHeartbeats 4000000 in
theorem rb_Walk_meetings_43 {E : EE}   (k4 : Int → Int → Mm → Res) (k19 : Int → Int → Int → Mm → Res) (H4 : ∀ (v1 : Int) (v2 : Int)  (mem : Mm), RO E mt_Walk_meetings (k4 v1 v2 mem) 4 [(0, rf 98), (1, vi v1), (2, vi v2)] [] mem) (H19 : ∀ (v1 : Int) (v2 : Int) (v3 : Int)  (mem : Mm), RO E mt_Walk_meetings (k19 v1 v2 v3 mem) 19 [(0, rf 98), (1, vi v1), (2, vi v2), (3, vi v3)] [] mem) (v1 : Int) (v2 : Int) (v3 : Int)  (mem : Mm) : RO E mt_Walk_meetings (bo_Walk_meetings_43  k4 k19 v1 v2 v3 mem) 43 [(0, rf 98), (1, vi v1), (2, vi v2), (3, vi v3)] [] mem := by
  unfold bo_Walk_meetings_43
  refine RO_iinc dc_Walk_meetings_43 rfl (Nat.le_of_ble_eq_true rfl) ?_
  refine RO_goto (tgt := 19) dc_Walk_meetings_46 rfl ?_
  refine RO_sub ?_ (H19 v1 v2 (w32 (v3 + 1)) mem)
  exact ⟨rfl, rfl, rfl, rfl, trivial⟩
def bo_Walk_meetings_19  (k4 : Int → Int → Mm → Res) (k19 : Int → Int → Int → Mm → Res) (v1 : Int) (v2 : Int) (v3 : Int) (mem : Mm) : Res := if isK 0 (mem 98 0) = true then if v3 < (mem (mem 98 0).toNat 1) then (bd (fn_Walk_firstMeeting v2 v3 mem) fun r2 m3 => if r2 = (-1) then (bo_Walk_meetings_43 k4 k19 v1 v2 v3 m3) else (bo_Walk_meetings_43 k4 k19 (w32 (v1 + 1)) v2 v3 m3)) else (bo_Walk_meetings_49 k4 v1 v2 mem) else none
set_option maxHeartbeats 4000000 in
theorem rb_Walk_meetings_19 {E : EE}   (k4 : Int → Int → Mm → Res) (k19 : Int → Int → Int → Mm → Res) (H4 : ∀ (v1 : Int) (v2 : Int)  (mem : Mm), RO E mt_Walk_meetings (k4 v1 v2 mem) 4 [(0, rf 98), (1, vi v1), (2, vi v2)] [] mem) (H19 : ∀ (v1 : Int) (v2 : Int) (v3 : Int)  (mem : Mm), RO E mt_Walk_meetings (k19 v1 v2 v3 mem) 19 [(0, rf 98), (1, vi v1), (2, vi v2), (3, vi v3)] [] mem) (v1 : Int) (v2 : Int) (v3 : Int)  (mem : Mm) : RO E mt_Walk_meetings (bo_Walk_meetings_19  k4 k19 v1 v2 v3 mem) 19 [(0, rf 98), (1, vi v1), (2, vi v2), (3, vi v3)] [] mem := by
  unfold bo_Walk_meetings_19
  refine RO_iload_n dc_Walk_meetings_19 rfl rfl ?_
  refine RO_aload_n dc_Walk_meetings_20 rfl rfl ?_
  refine RO_chk (fun hz1 => ?_)
  refine RO_getM gf_Walk_27 lk_98 (isK_0 hz1) dc_Walk_meetings_21 ?_
  refine RO_getI gf_Walk_39 (kd_0 hz1) dc_Walk_meetings_24 ?_
  refine RO_icmp_ge (tgt := 49) dc_Walk_meetings_27 rfl ?_ ?_
  · refine RO_aload_n dc_Walk_meetings_30 rfl rfl ?_
    refine RO_iload_n dc_Walk_meetings_31 rfl rfl ?_
    refine RO_iload_n dc_Walk_meetings_32 rfl rfl ?_
    refine RO_callVi (As := [vi v2, vi v3]) (rest := []) mi_Walk_firstMeeting mv_Walk_firstMeeting ml_Walk_175 lk_98 (Nat.le_of_ble_eq_true rfl) rfl (Nat.le_of_ble_eq_true rfl) (fun _ => rfl) dc_Walk_meetings_33 (fun rq mq hq => pf_Walk_firstMeeting v2 v3  mem hq) (fun r2 m3 => ?_)
    refine RO_iconst dc_Walk_meetings_36 ?_
    refine RO_icmp_eq (tgt := 43) dc_Walk_meetings_37 rfl ?_ ?_
    · refine RO_sub ?_ (rb_Walk_meetings_43 k4 k19 H4 H19 v1 v2 v3 m3)
      exact ⟨rfl, rfl, rfl, rfl, trivial⟩
    · refine RO_iinc dc_Walk_meetings_40 rfl (Nat.le_of_ble_eq_true rfl) ?_
      refine RO_sub ?_ (rb_Walk_meetings_43 k4 k19 H4 H19 (w32 (v1 + 1)) v2 v3 m3)
      exact ⟨rfl, rfl, rfl, rfl, trivial⟩
  · refine RO_sub ?_ (rb_Walk_meetings_49 k4 H4 v1 v2 mem)
    exact ⟨rfl, rfl, rfl, trivial⟩
def lp_Walk_meetings_19  (k4 : Int → Int → Mm → Res) : Nat → Int → Int → Int → Mm → Res
  | 0 => fun _ _ _ _ => none
  | n + 1 => bo_Walk_meetings_19  k4 (lp_Walk_meetings_19  k4 n)
theorem rp_Walk_meetings_19 {E : EE}   (k4 : Int → Int → Mm → Res) (H4 : ∀ (v1 : Int) (v2 : Int)  (mem : Mm), RO E mt_Walk_meetings (k4 v1 v2 mem) 4 [(0, rf 98), (1, vi v1), (2, vi v2)] [] mem) : ∀ (n : Nat) (v1 : Int) (v2 : Int) (v3 : Int)  (mem : Mm), RO E mt_Walk_meetings (lp_Walk_meetings_19  k4 n v1 v2 v3 mem) 19 [(0, rf 98), (1, vi v1), (2, vi v2), (3, vi v3)] [] mem := by
  intro n
  induction n with
  | zero => intro v1 v2 v3  mem; exact RO_none
  | succ n ih => intro v1 v2 v3  mem; exact rb_Walk_meetings_19   k4 (lp_Walk_meetings_19  k4 n) H4 ih v1 v2 v3  mem
def bo_Walk_meetings_4  (k4 : Int → Int → Mm → Res) (v1 : Int) (v2 : Int) (mem : Mm) : Res := if isK 0 (mem 98 0) = true then if v2 < (mem (mem 98 0).toNat 1) then (bn (w32 (v2 + 1)) fun x2 => lp_Walk_meetings_19 k4 FU v1 v2 x2 mem) else (some (v1, mem)) else none
set_option maxHeartbeats 4000000 in
theorem rb_Walk_meetings_4 {E : EE}   (k4 : Int → Int → Mm → Res) (H4 : ∀ (v1 : Int) (v2 : Int)  (mem : Mm), RO E mt_Walk_meetings (k4 v1 v2 mem) 4 [(0, rf 98), (1, vi v1), (2, vi v2)] [] mem) (v1 : Int) (v2 : Int)  (mem : Mm) : RO E mt_Walk_meetings (bo_Walk_meetings_4  k4 v1 v2 mem) 4 [(0, rf 98), (1, vi v1), (2, vi v2)] [] mem := by
  unfold bo_Walk_meetings_4
  refine RO_iload_n dc_Walk_meetings_4 rfl rfl ?_
  refine RO_aload_n dc_Walk_meetings_5 rfl rfl ?_
  refine RO_chk (fun hz1 => ?_)
  refine RO_getM gf_Walk_27 lk_98 (isK_0 hz1) dc_Walk_meetings_6 ?_
  refine RO_getI gf_Walk_39 (kd_0 hz1) dc_Walk_meetings_9 ?_
  refine RO_icmp_ge (tgt := 55) dc_Walk_meetings_12 rfl ?_ ?_
  · refine RO_iload_n dc_Walk_meetings_15 rfl rfl ?_
    refine RO_iconst dc_Walk_meetings_16 ?_
    refine RO_iadd dc_Walk_meetings_17 ?_
    refine RO_bnT (fun x2 => ?_)
    refine RO_istore_n dc_Walk_meetings_18 rfl (Nat.le_of_ble_eq_true rfl) ?_
    refine RO_sub ?_ (rp_Walk_meetings_19 k4 H4 FU v1 v2 x2 mem)
    exact ⟨rfl, rfl, rfl, rfl, trivial⟩
  · refine RO_iload_n dc_Walk_meetings_55 rfl rfl ?_
    exact RO_iret rfl dc_Walk_meetings_56
def lp_Walk_meetings_4   : Nat → Int → Int → Mm → Res
  | 0 => fun _ _ _ => none
  | n + 1 => bo_Walk_meetings_4   (lp_Walk_meetings_4   n)
theorem rp_Walk_meetings_4 {E : EE}     : ∀ (n : Nat) (v1 : Int) (v2 : Int)  (mem : Mm), RO E mt_Walk_meetings (lp_Walk_meetings_4   n v1 v2 mem) 4 [(0, rf 98), (1, vi v1), (2, vi v2)] [] mem := by
  intro n
  induction n with
  | zero => intro v1 v2  mem; exact RO_none
  | succ n ih => intro v1 v2  mem; exact rb_Walk_meetings_4    (lp_Walk_meetings_4   n)  ih v1 v2  mem
def fn_Walk_meetings  (mem : Mm) : Res := lp_Walk_meetings_4 FU 0 0 mem
set_option maxHeartbeats 4000000 in
theorem pf_Walk_meetings {E : EE}   (mem : Mm) {r : Int} {mem9 : Mm} (h : fn_Walk_meetings  mem = some (r, mem9)) : MetX E 3 yn_Walk_meetings cd_Walk_meetings 4 (some .int) [rf 98] mem r mem9 := by
  refine RO_met (y := yn_Walk_meetings) (by decide +kernel) (Nat.le_of_ble_eq_true rfl) ?_ h
  show RO E mt_Walk_meetings (fn_Walk_meetings  mem) 0 [(0, rf 98)] [] mem
  unfold fn_Walk_meetings
  refine RO_iconst dc_Walk_meetings_0 ?_
  refine RO_istore_n dc_Walk_meetings_1 rfl (Nat.le_of_ble_eq_true rfl) ?_
  refine RO_iconst dc_Walk_meetings_2 ?_
  refine RO_istore_n dc_Walk_meetings_3 rfl (Nat.le_of_ble_eq_true rfl) ?_
  refine RO_sub ?_ (rp_Walk_meetings_4 FU 0 0 mem)
  exact ⟨rfl, rfl, rfl, trivial⟩
def fn_String_indexOf2 (p1 : Int) (p2 : Int) (mem : Mm) : Res := bd (fn_String_isLatin1  mem) fun r1 m2 => if r1 = 0 then (bd (fn_String_length  m2) fun r3 m4 => none) else (bd (fn_String_length  m2) fun r5 m6 => bd (fn_StringLatin1_indexOf p1 p2 r5 m6) fun r7 m8 => some (r7, m8))
set_option maxHeartbeats 4000000 in
theorem pf_String_indexOf2 {E : EE} (p1 : Int) (p2 : Int)  (mem : Mm) {r : Int} {mem9 : Mm} (h : fn_String_indexOf2 p1 p2 mem = some (r, mem9)) : MetX E 3 yn_String_indexOf2 cd_String_indexOf2 3 (some .int) [vk 30, vi p1, vi p2] mem r mem9 := by
  refine RO_met (y := yn_String_indexOf2) (by decide +kernel) (Nat.le_of_ble_eq_true rfl) ?_ h
  show RO E mt_String_indexOf2 (fn_String_indexOf2 p1 p2 mem) 0 [(0, vk 30), (1, vi p1), (2, vi p2)] [] mem
  unfold fn_String_indexOf2
  refine RO_kload_n dc_String_indexOf2_0 rfl rfl ?_
  refine RO_callK (As := []) (rest := []) mi_String_isLatin1 mk_String_isLatin1 ml_String_492 (Nat.le_of_ble_eq_true rfl) rfl (Nat.le_of_ble_eq_true rfl) (fun _ => rfl) dc_String_indexOf2_1 (fun rq mq hq => pf_String_isLatin1   mem hq) (fun r1 m2 => ?_)
  refine RO_if_eq (tgt := 23) dc_String_indexOf2_4 rfl ?_ ?_
  · refine RO_kload_n dc_String_indexOf2_23 rfl rfl ?_
    refine RO_strV gS_9 dc_String_indexOf2_24 ?_
    refine RO_iload_n dc_String_indexOf2_27 rfl rfl ?_
    refine RO_iload_n dc_String_indexOf2_28 rfl rfl ?_
    refine RO_kload_n dc_String_indexOf2_29 rfl rfl ?_
    refine RO_callK (As := []) (rest := [vi p2, vi p1, vk 31]) mi_String_length mk_String_length ml_String_505 (Nat.le_of_ble_eq_true rfl) rfl (Nat.le_of_ble_eq_true rfl) (fun _ => rfl) dc_String_indexOf2_30 (fun rq mq hq => pf_String_length   m2 hq) (fun r3 m4 => ?_)
    exact RO_none
  · refine RO_kload_n dc_String_indexOf2_7 rfl rfl ?_
    refine RO_strV gS_9 dc_String_indexOf2_8 ?_
    refine RO_iload_n dc_String_indexOf2_11 rfl rfl ?_
    refine RO_iload_n dc_String_indexOf2_12 rfl rfl ?_
    refine RO_kload_n dc_String_indexOf2_13 rfl rfl ?_
    refine RO_callK (As := []) (rest := [vi p2, vi p1, vk 31]) mi_String_length mk_String_length ml_String_505 (Nat.le_of_ble_eq_true rfl) rfl (Nat.le_of_ble_eq_true rfl) (fun _ => rfl) dc_String_indexOf2_14 (fun rq mq hq => pf_String_length   m2 hq) (fun r5 m6 => ?_)
    refine RO_callSi (As := [vk 31, vi p1, vi p2, vi r5]) (rest := []) mi_StringLatin1_indexOf ms_StringLatin1_indexOf ml_String_637 (Nat.le_of_ble_eq_true rfl) rfl (Nat.le_of_ble_eq_true rfl) (fun _ => rfl) dc_String_indexOf2_17 (fun rq mq hq => pf_StringLatin1_indexOf p1 p2 r5  m6 hq) (fun r7 m8 => ?_)
    refine RO_goto (tgt := 36) dc_String_indexOf2_20 rfl ?_
    exact RO_iret rfl dc_String_indexOf2_36
def fn_HillsReader_whichPlace  (mem : Mm) : Res := if isK 0 (mem 3 1) = true then if isK 0 (mem 3 1) = true then bd (fn_Tape_which ((mem 3 1).toNat + 1) (mem (mem 3 1).toNat 0) mem) fun r3 m4 => some (r3, m4) else none else none
set_option maxHeartbeats 4000000 in
theorem pf_HillsReader_whichPlace {E : EE}   (mem : Mm) {r : Int} {mem9 : Mm} (h : fn_HillsReader_whichPlace  mem = some (r, mem9)) : MetX E 4 yn_HillsReader_whichPlace cd_HillsReader_whichPlace 1 (some .int) [rf 3] mem r mem9 := by
  refine RO_met (y := yn_HillsReader_whichPlace) (by decide +kernel) (Nat.le_of_ble_eq_true rfl) ?_ h
  show RO E mt_HillsReader_whichPlace (fn_HillsReader_whichPlace  mem) 0 [(0, rf 3)] [] mem
  unfold fn_HillsReader_whichPlace
  refine RO_aload_n dc_HillsReader_whichPlace_0 rfl rfl ?_
  refine RO_getR (b := 1) gf_HillsReader_9 lk_3 rfl dc_HillsReader_whichPlace_1 ?_
  refine RO_aload_n dc_HillsReader_whichPlace_4 rfl rfl ?_
  refine RO_chk (fun hz1 => ?_)
  refine RO_getM gf_HillsReader_15 lk_3 (isK_0 hz1) dc_HillsReader_whichPlace_5 ?_
  refine RO_getR (b := ((mem 3 1).toNat + 1)) gf_HillsReader_124 (kd_0 hz1) (by omega) dc_HillsReader_whichPlace_8 ?_
  refine RO_aload_n dc_HillsReader_whichPlace_11 rfl rfl ?_
  refine RO_chk (fun hz2 => ?_)
  refine RO_getM gf_HillsReader_15 lk_3 (isK_0 hz2) dc_HillsReader_whichPlace_12 ?_
  refine RO_getI gf_HillsReader_46 (kd_0 hz2) dc_HillsReader_whichPlace_15 ?_
  refine RO_callVi (As := [rf ((mem 3 1).toNat + 1), vi (mem (mem 3 1).toNat 0)]) (rest := []) mi_Tape_which mv_Tape_which ml_HillsReader_128 lk_1 (Nat.le_of_ble_eq_true rfl) rfl (Nat.le_of_ble_eq_true rfl) (fun _ => rfl) dc_HillsReader_whichPlace_18 (fun rq mq hq => pf_Tape_which ((mem 3 1).toNat + 1) (mem (mem 3 1).toNat 0) (cl_0_5 (kd_0 hz1)) mem hq) (fun r3 m4 => ?_)
  exact RO_iret rfl dc_HillsReader_whichPlace_21
def fn_HillsReader_whichWalker  (mem : Mm) : Res := if isK 0 (mem 3 1) = true then if isK 0 (mem 3 1) = true then bd (fn_Tape_which ((mem 3 1).toNat + 2) (mem (mem 3 1).toNat 1) mem) fun r3 m4 => some (r3, m4) else none else none
set_option maxHeartbeats 4000000 in
theorem pf_HillsReader_whichWalker {E : EE}   (mem : Mm) {r : Int} {mem9 : Mm} (h : fn_HillsReader_whichWalker  mem = some (r, mem9)) : MetX E 4 yn_HillsReader_whichWalker cd_HillsReader_whichWalker 1 (some .int) [rf 3] mem r mem9 := by
  refine RO_met (y := yn_HillsReader_whichWalker) (by decide +kernel) (Nat.le_of_ble_eq_true rfl) ?_ h
  show RO E mt_HillsReader_whichWalker (fn_HillsReader_whichWalker  mem) 0 [(0, rf 3)] [] mem
  unfold fn_HillsReader_whichWalker
  refine RO_aload_n dc_HillsReader_whichWalker_0 rfl rfl ?_
  refine RO_getR (b := 1) gf_HillsReader_9 lk_3 rfl dc_HillsReader_whichWalker_1 ?_
  refine RO_aload_n dc_HillsReader_whichWalker_4 rfl rfl ?_
  refine RO_chk (fun hz1 => ?_)
  refine RO_getM gf_HillsReader_15 lk_3 (isK_0 hz1) dc_HillsReader_whichWalker_5 ?_
  refine RO_getR (b := ((mem 3 1).toNat + 2)) gf_HillsReader_132 (kd_0 hz1) (by omega) dc_HillsReader_whichWalker_8 ?_
  refine RO_aload_n dc_HillsReader_whichWalker_11 rfl rfl ?_
  refine RO_chk (fun hz2 => ?_)
  refine RO_getM gf_HillsReader_15 lk_3 (isK_0 hz2) dc_HillsReader_whichWalker_12 ?_
  refine RO_getI gf_HillsReader_70 (kd_0 hz2) dc_HillsReader_whichWalker_15 ?_
  refine RO_callVi (As := [rf ((mem 3 1).toNat + 2), vi (mem (mem 3 1).toNat 1)]) (rest := []) mi_Tape_which mv_Tape_which ml_HillsReader_128 lk_1 (Nat.le_of_ble_eq_true rfl) rfl (Nat.le_of_ble_eq_true rfl) (fun _ => rfl) dc_HillsReader_whichWalker_18 (fun rq mq hq => pf_Tape_which ((mem 3 1).toNat + 2) (mem (mem 3 1).toNat 1) (cl_0_6 (kd_0 hz1)) mem hq) (fun r3 m4 => ?_)
  exact RO_iret rfl dc_HillsReader_whichWalker_21
def bo_Walk_go_81 (p1 : Nat) (p2 : Nat) (k81 : Int → Int → Mm → Res) (v3 : Int) (v4 : Int) (mem : Mm) : Res := if v4 < 240 then (if v3 < 240 then (bd (fn_Walk_comeAll v3 mem) fun r1 m2 => bd (fn_Walk_greetAll v3 m2) fun r3 m4 => bd (fn_Walk_leaveAll v3 m4) fun r5 m6 => bd (fn_Walk_nextMinute  m6) fun r7 m8 => k81 r7 (w32 (v4 + 1)) m8) else (some (0, mem))) else (some (0, mem))
set_option maxHeartbeats 4000000 in
theorem rb_Walk_go_81 {E : EE} (p1 : Nat) (p2 : Nat) (hk_p1 : ly_k p1 = (0, 15)) (hk_p2 : ly_k p2 = (6, 6)) (k81 : Int → Int → Mm → Res) (H81 : ∀ (v3 : Int) (v4 : Int)  (mem : Mm), RO E mt_Walk_go (k81 v3 v4 mem) 81 [(0, rf 98), (3, vi v3), (4, vi v4)] [] mem) (v3 : Int) (v4 : Int)  (mem : Mm) : RO E mt_Walk_go (bo_Walk_go_81 p1 p2 k81 v3 v4 mem) 81 [(0, rf 98), (3, vi v3), (4, vi v4)] [] mem := by
  unfold bo_Walk_go_81
  refine RO_iload dc_Walk_go_81 rfl ?_
  refine RO_sipush dc_Walk_go_83 ?_
  refine RO_icmp_ge (tgt := 122) dc_Walk_go_86 rfl ?_ ?_
  · refine RO_iload_n dc_Walk_go_89 rfl rfl ?_
    refine RO_sipush dc_Walk_go_90 ?_
    refine RO_icmp_ge (tgt := 122) dc_Walk_go_93 rfl ?_ ?_
    · refine RO_aload_n dc_Walk_go_96 rfl rfl ?_
      refine RO_iload_n dc_Walk_go_97 rfl rfl ?_
      refine RO_callVv (As := [vi v3]) (rest := []) mi_Walk_comeAll mv_Walk_comeAll ml_Walk_67 lk_98 (Nat.le_of_ble_eq_true rfl) rfl (Nat.le_of_ble_eq_true rfl) dc_Walk_go_98 (fun rq mq hq => pf_Walk_comeAll v3  mem hq) (fun r1 m2 => ?_)
      refine RO_aload_n dc_Walk_go_101 rfl rfl ?_
      refine RO_iload_n dc_Walk_go_102 rfl rfl ?_
      refine RO_callVv (As := [vi v3]) (rest := []) mi_Walk_greetAll mv_Walk_greetAll ml_Walk_71 lk_98 (Nat.le_of_ble_eq_true rfl) rfl (Nat.le_of_ble_eq_true rfl) dc_Walk_go_103 (fun rq mq hq => pf_Walk_greetAll v3  m2 hq) (fun r3 m4 => ?_)
      refine RO_aload_n dc_Walk_go_106 rfl rfl ?_
      refine RO_iload_n dc_Walk_go_107 rfl rfl ?_
      refine RO_callVv (As := [vi v3]) (rest := []) mi_Walk_leaveAll mv_Walk_leaveAll ml_Walk_74 lk_98 (Nat.le_of_ble_eq_true rfl) rfl (Nat.le_of_ble_eq_true rfl) dc_Walk_go_108 (fun rq mq hq => pf_Walk_leaveAll v3  m4 hq) (fun r5 m6 => ?_)
      refine RO_aload_n dc_Walk_go_111 rfl rfl ?_
      refine RO_callVi (As := []) (rest := []) mi_Walk_nextMinute mv_Walk_nextMinute ml_Walk_63 lk_98 (Nat.le_of_ble_eq_true rfl) rfl (Nat.le_of_ble_eq_true rfl) (fun _ => rfl) dc_Walk_go_112 (fun rq mq hq => pf_Walk_nextMinute   m6 hq) (fun r7 m8 => ?_)
      refine RO_istore_n dc_Walk_go_115 rfl (Nat.le_of_ble_eq_true rfl) ?_
      refine RO_iinc dc_Walk_go_116 rfl (Nat.le_of_ble_eq_true rfl) ?_
      refine RO_goto (tgt := 81) dc_Walk_go_119 rfl ?_
      refine RO_sub ?_ (H81 r7 (w32 (v4 + 1)) m8)
      exact ⟨rfl, rfl, rfl, trivial⟩
    · exact RO_vret rfl dc_Walk_go_122
  · exact RO_vret rfl dc_Walk_go_122
def lp_Walk_go_81 (p1 : Nat) (p2 : Nat)  : Nat → Int → Int → Mm → Res
  | 0 => fun _ _ _ => none
  | n + 1 => bo_Walk_go_81 p1 p2  (lp_Walk_go_81 p1 p2  n)
theorem rp_Walk_go_81 {E : EE} (p1 : Nat) (p2 : Nat) (hk_p1 : ly_k p1 = (0, 15)) (hk_p2 : ly_k p2 = (6, 6))   : ∀ (n : Nat) (v3 : Int) (v4 : Int)  (mem : Mm), RO E mt_Walk_go (lp_Walk_go_81 p1 p2  n v3 v4 mem) 81 [(0, rf 98), (3, vi v3), (4, vi v4)] [] mem := by
  intro n
  induction n with
  | zero => intro v3 v4  mem; exact RO_none
  | succ n ih => intro v3 v4  mem; exact rb_Walk_go_81 p1 p2 hk_p1 hk_p2  (lp_Walk_go_81 p1 p2  n)  ih v3 v4  mem
def bo_Walk_go_73 (p1 : Nat) (p2 : Nat)   (mem : Mm) : Res := bd (fn_Walk_nextMinute  mem) fun r1 m2 => lp_Walk_go_81 p1 p2 FU r1 0 m2
set_option maxHeartbeats 4000000 in
theorem rb_Walk_go_73 {E : EE} (p1 : Nat) (p2 : Nat) (hk_p1 : ly_k p1 = (0, 15)) (hk_p2 : ly_k p2 = (6, 6))     (mem : Mm) : RO E mt_Walk_go (bo_Walk_go_73 p1 p2   mem) 73 [(0, rf 98)] [] mem := by
  unfold bo_Walk_go_73
  refine RO_aload_n dc_Walk_go_73 rfl rfl ?_
  refine RO_callVi (As := []) (rest := []) mi_Walk_nextMinute mv_Walk_nextMinute ml_Walk_63 lk_98 (Nat.le_of_ble_eq_true rfl) rfl (Nat.le_of_ble_eq_true rfl) (fun _ => rfl) dc_Walk_go_74 (fun rq mq hq => pf_Walk_nextMinute   mem hq) (fun r1 m2 => ?_)
  refine RO_istore_n dc_Walk_go_77 rfl (Nat.le_of_ble_eq_true rfl) ?_
  refine RO_iconst dc_Walk_go_78 ?_
  refine RO_istore dc_Walk_go_79 (Nat.le_of_ble_eq_true rfl) ?_
  refine RO_sub ?_ (rp_Walk_go_81 p1 p2 hk_p1 hk_p2 FU r1 0 m2)
  exact ⟨rfl, rfl, rfl, trivial⟩
def bo_Walk_go_66 (p1 : Nat) (p2 : Nat) (k17 : Int → Mm → Res) (v3 : Int) (s1 : Int) (s2 : Int) (mem : Mm) : Res := if 0 ≤ s1 ∧ s1 < 6 then bn (mst mem 103 s1.toNat s2) fun m2 => k17 (w32 (v3 + 1)) m2 else none
set_option maxHeartbeats 4000000 in
theorem rb_Walk_go_66 {E : EE} (p1 : Nat) (p2 : Nat) (hk_p1 : ly_k p1 = (0, 15)) (hk_p2 : ly_k p2 = (6, 6)) (k17 : Int → Mm → Res) (H17 : ∀ (v3 : Int)  (mem : Mm), RO E mt_Walk_go (k17 v3 mem) 17 [(0, rf 98), (1, rf p1), (2, rf p2), (3, vi v3)] [] mem) (v3 : Int) (s1 : Int) (s2 : Int)  (mem : Mm) : RO E mt_Walk_go (bo_Walk_go_66 p1 p2 k17 v3 s1 s2 mem) 66 [(0, rf 98), (1, rf p1), (2, rf p2), (3, vi v3)] [vi s2, vi s1, rf 103] mem := by
  unfold bo_Walk_go_66
  refine RO_chk (fun hi1 => ?_)
  refine RO_is lk_103 hi1 dc_Walk_go_66 ?_
  refine RO_bnM (fun m2 => ?_)
  refine RO_iinc dc_Walk_go_67 rfl (Nat.le_of_ble_eq_true rfl) ?_
  refine RO_goto (tgt := 17) dc_Walk_go_70 rfl ?_
  refine RO_sub ?_ (H17 (w32 (v3 + 1)) m2)
  exact ⟨rfl, rfl, rfl, rfl, trivial⟩
def bo_Walk_go_17 (p1 : Nat) (p2 : Nat) (k17 : Int → Mm → Res) (v3 : Int) (mem : Mm) : Res := if v3 < (mem p1 1) then (if 0 ≤ v3 ∧ v3 < 6 then bn (mst mem 99 v3.toNat 0) fun m2 => bd (fn_State_lives p2 v3 m2) fun r3 m4 => if r3 = 0 then (bo_Walk_go_66 p1 p2 k17 v3 v3 1000000 m4) else (if 0 ≤ v3 ∧ v3 < 6 then if 0 ≤ v3 ∧ v3 < 6 then bo_Walk_go_66 p1 p2 k17 v3 v3 (w32 ((m4 ((p1 + 4 * v3.toNat) + 13) 1) + (m4 (p2 + 1) v3.toNat))) m4 else none else none) else none) else (bo_Walk_go_73 p1 p2 mem)
set_option maxHeartbeats 4000000 in
theorem rb_Walk_go_17 {E : EE} (p1 : Nat) (p2 : Nat) (hk_p1 : ly_k p1 = (0, 15)) (hk_p2 : ly_k p2 = (6, 6)) (k17 : Int → Mm → Res) (H17 : ∀ (v3 : Int)  (mem : Mm), RO E mt_Walk_go (k17 v3 mem) 17 [(0, rf 98), (1, rf p1), (2, rf p2), (3, vi v3)] [] mem) (v3 : Int)  (mem : Mm) : RO E mt_Walk_go (bo_Walk_go_17 p1 p2 k17 v3 mem) 17 [(0, rf 98), (1, rf p1), (2, rf p2), (3, vi v3)] [] mem := by
  unfold bo_Walk_go_17
  refine RO_iload_n dc_Walk_go_17 rfl rfl ?_
  refine RO_aload_n dc_Walk_go_18 rfl rfl ?_
  refine RO_getI gf_Walk_39 hk_p1 dc_Walk_go_19 ?_
  refine RO_icmp_ge (tgt := 73) dc_Walk_go_22 rfl ?_ ?_
  · refine RO_aload_n dc_Walk_go_25 rfl rfl ?_
    refine RO_getR (b := 99) gf_Walk_9 lk_98 rfl dc_Walk_go_26 ?_
    refine RO_iload_n dc_Walk_go_29 rfl rfl ?_
    refine RO_iconst dc_Walk_go_30 ?_
    refine RO_chk (fun hi1 => ?_)
    refine RO_is lk_99 hi1 dc_Walk_go_31 ?_
    refine RO_bnM (fun m2 => ?_)
    refine RO_aload_n dc_Walk_go_32 rfl rfl ?_
    refine RO_getR (b := 103) gf_Walk_24 lk_98 rfl dc_Walk_go_33 ?_
    refine RO_iload_n dc_Walk_go_36 rfl rfl ?_
    refine RO_aload_n dc_Walk_go_37 rfl rfl ?_
    refine RO_iload_n dc_Walk_go_38 rfl rfl ?_
    refine RO_callVi (As := [vi v3]) (rest := [vi v3, rf 103]) mi_State_lives mv_State_lives ml_Walk_44 hk_p2 (Nat.le_of_ble_eq_true rfl) rfl (Nat.le_of_ble_eq_true rfl) (fun _ => rfl) dc_Walk_go_39 (fun rq mq hq => pf_State_lives p2 v3 hk_p2 m2 hq) (fun r3 m4 => ?_)
    refine RO_if_eq (tgt := 64) dc_Walk_go_42 rfl ?_ ?_
    · refine RO_ldc (x := 1000000) c1_Walk_62 ⟨by decide, ⟨by decide, by decide⟩⟩ dc_Walk_go_64 ?_
      refine RO_sub ?_ (rb_Walk_go_66 p1 p2 hk_p1 hk_p2 k17 H17 v3 v3 1000000 m4)
      exact ⟨rfl, rfl, rfl, rfl, trivial⟩
    · refine RO_aload_n dc_Walk_go_45 rfl rfl ?_
      refine RO_getR (b := (p1 + 6)) gf_Walk_50 hk_p1 (by omega) dc_Walk_go_46 ?_
      refine RO_iload_n dc_Walk_go_49 rfl rfl ?_
      refine RO_chk (fun hi5 => ?_)
      have hb6 : (p1 + 6) + (raO 18).1 + (raO 18).2 * v3.toNat = ((p1 + 4 * v3.toNat) + 13) := by show _ + 7 + 4 * _ = _; omega
      have hk7 := el_18 (cl_0_10 hk_p1) hi5 hb6
      refine RO_aa (by decide) (cl_0_10 hk_p1) hi5 hb6 dc_Walk_go_50 ?_
      refine RO_getI gf_Walk_54 hk7 dc_Walk_go_51 ?_
      refine RO_aload_n dc_Walk_go_54 rfl rfl ?_
      refine RO_getR (b := (p2 + 1)) gf_Walk_59 hk_p2 (by omega) dc_Walk_go_55 ?_
      refine RO_iload_n dc_Walk_go_58 rfl rfl ?_
      refine RO_chk (fun hi8 => ?_)
      refine RO_ia (cl_6_4 hk_p2) hi8 dc_Walk_go_59 ?_
      refine RO_iadd dc_Walk_go_60 ?_
      refine RO_goto (tgt := 66) dc_Walk_go_61 rfl ?_
      refine RO_sub ?_ (rb_Walk_go_66 p1 p2 hk_p1 hk_p2 k17 H17 v3 v3 (w32 ((m4 ((p1 + 4 * v3.toNat) + 13) 1) + (m4 (p2 + 1) v3.toNat))) m4)
      exact ⟨rfl, rfl, rfl, rfl, trivial⟩
  · refine RO_sub ?_ (rb_Walk_go_73 p1 p2 hk_p1 hk_p2 mem)
    exact ⟨rfl, trivial⟩
def lp_Walk_go_17 (p1 : Nat) (p2 : Nat)  : Nat → Int → Mm → Res
  | 0 => fun _ _ => none
  | n + 1 => bo_Walk_go_17 p1 p2  (lp_Walk_go_17 p1 p2  n)
theorem rp_Walk_go_17 {E : EE} (p1 : Nat) (p2 : Nat) (hk_p1 : ly_k p1 = (0, 15)) (hk_p2 : ly_k p2 = (6, 6))   : ∀ (n : Nat) (v3 : Int)  (mem : Mm), RO E mt_Walk_go (lp_Walk_go_17 p1 p2  n v3 mem) 17 [(0, rf 98), (1, rf p1), (2, rf p2), (3, vi v3)] [] mem := by
  intro n
  induction n with
  | zero => intro v3  mem; exact RO_none
  | succ n ih => intro v3  mem; exact rb_Walk_go_17 p1 p2 hk_p1 hk_p2  (lp_Walk_go_17 p1 p2  n)  ih v3  mem
def fn_Walk_go (p1 : Nat) (p2 : Nat) (mem : Mm) : Res := bn (mst mem 98 0 (((p1 : Nat) : Int))) fun m1 => bn (mst m1 98 1 (((p2 : Nat) : Int))) fun m2 => bn (mst m2 98 7 0) fun m3 => lp_Walk_go_17 p1 p2 FU 0 m3
set_option maxHeartbeats 4000000 in
theorem pf_Walk_go {E : EE} (p1 : Nat) (p2 : Nat) (hk_p1 : ly_k p1 = (0, 15)) (hk_p2 : ly_k p2 = (6, 6)) (mem : Mm) {r : Int} {mem9 : Mm} (h : fn_Walk_go p1 p2 mem = some (r, mem9)) : MetX E 4 yn_Walk_go cd_Walk_go 5 none [rf 98, rf p1, rf p2] mem r mem9 := by
  refine RO_met (y := yn_Walk_go) (by decide +kernel) (Nat.le_of_ble_eq_true rfl) ?_ h
  show RO E mt_Walk_go (fn_Walk_go p1 p2 mem) 0 [(0, rf 98), (1, rf p1), (2, rf p2)] [] mem
  unfold fn_Walk_go
  refine RO_aload_n dc_Walk_go_0 rfl rfl ?_
  refine RO_aload_n dc_Walk_go_1 rfl rfl ?_
  refine RO_putM gp_Walk_27 lk_98 dc_Walk_go_2 ?_
  refine RO_bnM (fun m1 => ?_)
  refine RO_aload_n dc_Walk_go_5 rfl rfl ?_
  refine RO_aload_n dc_Walk_go_6 rfl rfl ?_
  refine RO_putM gp_Walk_31 lk_98 dc_Walk_go_7 ?_
  refine RO_bnM (fun m2 => ?_)
  refine RO_aload_n dc_Walk_go_10 rfl rfl ?_
  refine RO_iconst dc_Walk_go_11 ?_
  refine RO_putI gp_Walk_35 lk_98 dc_Walk_go_12 ?_
  refine RO_bnM (fun m3 => ?_)
  refine RO_iconst dc_Walk_go_15 ?_
  refine RO_istore_n dc_Walk_go_16 rfl (Nat.le_of_ble_eq_true rfl) ?_
  refine RO_sub ?_ (rp_Walk_go_17 p1 p2 hk_p1 hk_p2 FU 0 m3)
  exact ⟨rfl, rfl, rfl, rfl, trivial⟩
def bo_Walk_cost_26 (p1 : Int)  (s0 : Nat) (s1 : Int) (s2 : Int) (mem : Mm) : Res := if isK 6 (mem 98 1) = true then bd (fn_Law_cost s0 s1 s2 (mem (mem 98 1).toNat 0) mem) fun r2 m3 => some (r2, m3) else none
set_option maxHeartbeats 4000000 in
theorem rb_Walk_cost_26 {E : EE} (p1 : Int)    (s0 : Nat) (s1 : Int) (s2 : Int) (hk_s0 : ly_k s0 = (2, 4)) (mem : Mm) : RO E mt_Walk_cost (bo_Walk_cost_26 p1  s0 s1 s2 mem) 26 [(0, rf 98)] [vi s2, vi s1, rf s0] mem := by
  unfold bo_Walk_cost_26
  refine RO_aload_n dc_Walk_cost_26 rfl rfl ?_
  refine RO_chk (fun hz1 => ?_)
  refine RO_getM gf_Walk_31 lk_98 (isK_0 hz1) dc_Walk_cost_27 ?_
  refine RO_getI gf_Walk_161 (kd_6 hz1) dc_Walk_cost_30 ?_
  refine RO_callVi (As := [vi s1, vi s2, vi (mem (mem 98 1).toNat 0)]) (rest := []) mi_Law_cost mv_Law_cost ml_Walk_164 hk_s0 (Nat.le_of_ble_eq_true rfl) rfl (Nat.le_of_ble_eq_true rfl) (fun _ => rfl) dc_Walk_cost_33 (fun rq mq hq => pf_Law_cost s0 s1 s2 (mem (mem 98 1).toNat 0) hk_s0 mem hq) (fun r2 m3 => ?_)
  exact RO_iret rfl dc_Walk_cost_36
def fn_Walk_cost (p1 : Int) (mem : Mm) : Res := if isK 0 (mem 98 0) = true then bd (fn_Walk_off p1 mem) fun r2 m3 => bd (fn_Walk_minuteOf p1 m3) fun r4 m5 => if r4 = (-1) then (bo_Walk_cost_26 p1 ((mem 98 0).toNat + 10) r2 1 m5) else (bo_Walk_cost_26 p1 ((mem 98 0).toNat + 10) r2 0 m5) else none
set_option maxHeartbeats 4000000 in
theorem pf_Walk_cost {E : EE} (p1 : Int)  (mem : Mm) {r : Int} {mem9 : Mm} (h : fn_Walk_cost p1 mem = some (r, mem9)) : MetX E 4 yn_Walk_cost cd_Walk_cost 2 (some .int) [rf 98, vi p1] mem r mem9 := by
  refine RO_met (y := yn_Walk_cost) (by decide +kernel) (Nat.le_of_ble_eq_true rfl) ?_ h
  show RO E mt_Walk_cost (fn_Walk_cost p1 mem) 0 [(0, rf 98), (1, vi p1)] [] mem
  unfold fn_Walk_cost
  refine RO_aload_n dc_Walk_cost_0 rfl rfl ?_
  refine RO_chk (fun hz1 => ?_)
  refine RO_getM gf_Walk_27 lk_98 (isK_0 hz1) dc_Walk_cost_1 ?_
  refine RO_getR (b := ((mem 98 0).toNat + 10)) gf_Walk_151 (kd_0 hz1) (by omega) dc_Walk_cost_4 ?_
  refine RO_aload_n dc_Walk_cost_7 rfl rfl ?_
  refine RO_iload_n dc_Walk_cost_8 rfl rfl ?_
  refine RO_callVi (As := [vi p1]) (rest := [rf ((mem 98 0).toNat + 10)]) mi_Walk_off mv_Walk_off ml_Walk_155 lk_98 (Nat.le_of_ble_eq_true rfl) rfl (Nat.le_of_ble_eq_true rfl) (fun _ => rfl) dc_Walk_cost_9 (fun rq mq hq => pf_Walk_off p1  mem hq) (fun r2 m3 => ?_)
  refine RO_aload_n dc_Walk_cost_12 rfl rfl ?_
  refine RO_iload_n dc_Walk_cost_13 rfl rfl ?_
  refine RO_callVi (As := [vi p1]) (rest := [vi r2, rf ((mem 98 0).toNat + 10)]) mi_Walk_minuteOf mv_Walk_minuteOf ml_Walk_158 lk_98 (Nat.le_of_ble_eq_true rfl) rfl (Nat.le_of_ble_eq_true rfl) (fun _ => rfl) dc_Walk_cost_14 (fun rq mq hq => pf_Walk_minuteOf p1  m3 hq) (fun r4 m5 => ?_)
  refine RO_iconst dc_Walk_cost_17 ?_
  refine RO_icmp_ne (tgt := 25) dc_Walk_cost_18 rfl ?_ ?_
  · refine RO_iconst dc_Walk_cost_21 ?_
    refine RO_goto (tgt := 26) dc_Walk_cost_22 rfl ?_
    refine RO_sub ?_ (rb_Walk_cost_26 p1 ((mem 98 0).toNat + 10) r2 1 (cl_0_14 (kd_0 hz1)) m5)
    exact ⟨rfl, trivial⟩
  · refine RO_iconst dc_Walk_cost_25 ?_
    refine RO_sub ?_ (rb_Walk_cost_26 p1 ((mem 98 0).toNat + 10) r2 0 (cl_0_14 (kd_0 hz1)) m5)
    exact ⟨rfl, trivial⟩
def fn_String_indexOf (p1 : Int) (mem : Mm) : Res := bd (fn_String_indexOf2 p1 0 mem) fun r1 m2 => some (r1, m2)
set_option maxHeartbeats 4000000 in
theorem pf_String_indexOf {E : EE} (p1 : Int)  (mem : Mm) {r : Int} {mem9 : Mm} (h : fn_String_indexOf p1 mem = some (r, mem9)) : MetX E 4 yn_String_indexOf cd_String_indexOf 2 (some .int) [vk 30, vi p1] mem r mem9 := by
  refine RO_met (y := yn_String_indexOf) (by decide +kernel) (Nat.le_of_ble_eq_true rfl) ?_ h
  show RO E mt_String_indexOf (fn_String_indexOf p1 mem) 0 [(0, vk 30), (1, vi p1)] [] mem
  unfold fn_String_indexOf
  refine RO_kload_n dc_String_indexOf_0 rfl rfl ?_
  refine RO_iload_n dc_String_indexOf_1 rfl rfl ?_
  refine RO_iconst dc_String_indexOf_2 ?_
  refine RO_callK (As := [vi p1, vi 0]) (rest := []) mi_String_indexOf2 mk_String_indexOf2 ml_String_633 (Nat.le_of_ble_eq_true rfl) rfl (Nat.le_of_ble_eq_true rfl) (fun _ => rfl) dc_String_indexOf_3 (fun rq mq hq => pf_String_indexOf2 p1 0  mem hq) (fun r1 m2 => ?_)
  exact RO_iret rfl dc_String_indexOf_6
def fn_Clock_where (p1 : Int) (p2 : Int) (mem : Mm) : Res := bd (fn_Clock_isWalker p1 mem) fun r1 m2 => if r1 = 0 then (some ((-1), m2)) else (bd (fn_Clock_isMinute p2 m2) fun r3 m4 => if r3 = 0 then (some ((-1), m4)) else (if isK 0 (m4 0 2) = true then bd (fn_Walk_go (m4 0 2).toNat 83 m4) fun r6 m7 => bd (fn_Walk_placeOf p1 p2 m7) fun r8 m9 => some (r8, m9) else none))
set_option maxHeartbeats 4000000 in
theorem pf_Clock_where {E : EE} (p1 : Int) (p2 : Int)  (mem : Mm) {r : Int} {mem9 : Mm} (h : fn_Clock_where p1 p2 mem = some (r, mem9)) : MetX E 5 yn_Clock_where cd_Clock_where 3 (some .int) [rf 0, vi p1, vi p2] mem r mem9 := by
  refine RO_met (y := yn_Clock_where) (by decide +kernel) (Nat.le_of_ble_eq_true rfl) ?_ h
  show RO E mt_Clock_where (fn_Clock_where p1 p2 mem) 0 [(0, rf 0), (1, vi p1), (2, vi p2)] [] mem
  unfold fn_Clock_where
  refine RO_aload_n dc_Clock_where_0 rfl rfl ?_
  refine RO_iload_n dc_Clock_where_1 rfl rfl ?_
  refine RO_callVi (As := [vi p1]) (rest := []) mi_Clock_isWalker mv_Clock_isWalker ml_Clock_131 lk_0 (Nat.le_of_ble_eq_true rfl) rfl (Nat.le_of_ble_eq_true rfl) (fun _ => rfl) dc_Clock_where_2 (fun rq mq hq => pf_Clock_isWalker p1  mem hq) (fun r1 m2 => ?_)
  refine RO_if_eq (tgt := 16) dc_Clock_where_5 rfl ?_ ?_
  · refine RO_iconst dc_Clock_where_16 ?_
    exact RO_iret rfl dc_Clock_where_17
  · refine RO_aload_n dc_Clock_where_8 rfl rfl ?_
    refine RO_iload_n dc_Clock_where_9 rfl rfl ?_
    refine RO_callVi (As := [vi p2]) (rest := []) mi_Clock_isMinute mv_Clock_isMinute ml_Clock_158 lk_0 (Nat.le_of_ble_eq_true rfl) rfl (Nat.le_of_ble_eq_true rfl) (fun _ => rfl) dc_Clock_where_10 (fun rq mq hq => pf_Clock_isMinute p2  m2 hq) (fun r3 m4 => ?_)
    refine RO_if_ne (tgt := 18) dc_Clock_where_13 rfl ?_ ?_
    · refine RO_iconst dc_Clock_where_16 ?_
      exact RO_iret rfl dc_Clock_where_17
    · refine RO_aload_n dc_Clock_where_18 rfl rfl ?_
      refine RO_getR (b := 98) gf_Clock_67 lk_0 rfl dc_Clock_where_19 ?_
      refine RO_aload_n dc_Clock_where_22 rfl rfl ?_
      refine RO_chk (fun hz5 => ?_)
      refine RO_getM gf_Clock_28 lk_0 (isK_0 hz5) dc_Clock_where_23 ?_
      refine RO_aload_n dc_Clock_where_26 rfl rfl ?_
      refine RO_getR (b := 82) gf_Clock_45 lk_0 rfl dc_Clock_where_27 ?_
      refine RO_getR (b := 83) gf_Clock_143 lk_82 rfl dc_Clock_where_30 ?_
      refine RO_callVv (As := [rf (m4 0 2).toNat, rf 83]) (rest := []) mi_Walk_go mv_Walk_go ml_Clock_161 lk_98 (Nat.le_of_ble_eq_true rfl) rfl (Nat.le_of_ble_eq_true rfl) dc_Clock_where_33 (fun rq mq hq => pf_Walk_go (m4 0 2).toNat 83 (kd_0 hz5) lk_83 m4 hq) (fun r6 m7 => ?_)
      refine RO_aload_n dc_Clock_where_36 rfl rfl ?_
      refine RO_getR (b := 98) gf_Clock_67 lk_0 rfl dc_Clock_where_37 ?_
      refine RO_iload_n dc_Clock_where_40 rfl rfl ?_
      refine RO_iload_n dc_Clock_where_41 rfl rfl ?_
      refine RO_callVi (As := [vi p1, vi p2]) (rest := []) mi_Walk_placeOf mv_Walk_placeOf ml_Clock_165 lk_98 (Nat.le_of_ble_eq_true rfl) rfl (Nat.le_of_ble_eq_true rfl) (fun _ => rfl) dc_Clock_where_42 (fun rq mq hq => pf_Walk_placeOf p1 p2  m7 hq) (fun r8 m9 => ?_)
      exact RO_iret rfl dc_Clock_where_45
def fn_Clock_hour (p1 : Int) (p2 : Int) (mem : Mm) : Res := bd (fn_Clock_isHour p1 mem) fun r1 m2 => if r1 = 0 then (some ((-2), m2)) else (if p2 < 0 then (some ((-2), m2)) else (if 5 < p2 then (some ((-2), m2)) else (swi p2 0 [if 0 ≤ p1 ∧ p1 < 6 then some (m2 85 p1.toNat, m2) else none, if isK 0 (m2 0 2) = true then if 0 ≤ p1 ∧ p1 < 6 then some (m2 ((m2 0 2).toNat + 8) p1.toNat, m2) else none else none, if isK 0 (m2 0 2) = true then if 0 ≤ p1 ∧ p1 < 6 then some (m2 ((m2 0 2).toNat + 9) p1.toNat, m2) else none else none] (if isK 0 (m2 0 2) = true then bd (fn_Walk_go (m2 0 2).toNat 83 m2) fun r9 m10 => if p2 = 3 then (bd (fn_Walk_minuteOf p1 m10) fun r11 m12 => some (r11, m12)) else (if p2 = 4 then (bd (fn_Walk_off p1 m10) fun r13 m14 => some (r13, m14)) else (bd (fn_Walk_cost p1 m10) fun r15 m16 => some (r15, m16))) else none))))
set_option maxHeartbeats 4000000 in
theorem pf_Clock_hour {E : EE} (p1 : Int) (p2 : Int)  (mem : Mm) {r : Int} {mem9 : Mm} (h : fn_Clock_hour p1 p2 mem = some (r, mem9)) : MetX E 5 yn_Clock_hour cd_Clock_hour 3 (some .int) [rf 0, vi p1, vi p2] mem r mem9 := by
  refine RO_met (y := yn_Clock_hour) (by decide +kernel) (Nat.le_of_ble_eq_true rfl) ?_ h
  show RO E mt_Clock_hour (fn_Clock_hour p1 p2 mem) 0 [(0, rf 0), (1, vi p1), (2, vi p2)] [] mem
  unfold fn_Clock_hour
  refine RO_aload_n dc_Clock_hour_0 rfl rfl ?_
  refine RO_iload_n dc_Clock_hour_1 rfl rfl ?_
  refine RO_callVi (As := [vi p1]) (rest := []) mi_Clock_isHour mv_Clock_isHour ml_Clock_169 lk_0 (Nat.le_of_ble_eq_true rfl) rfl (Nat.le_of_ble_eq_true rfl) (fun _ => rfl) dc_Clock_hour_2 (fun rq mq hq => pf_Clock_isHour p1  mem hq) (fun r1 m2 => ?_)
  refine RO_if_eq (tgt := 17) dc_Clock_hour_5 rfl ?_ ?_
  · refine RO_bipush dc_Clock_hour_17 ?_
    exact RO_iret rfl dc_Clock_hour_19
  · refine RO_iload_n dc_Clock_hour_8 rfl rfl ?_
    refine RO_if_lt (tgt := 17) dc_Clock_hour_9 rfl ?_ ?_
    · refine RO_bipush dc_Clock_hour_17 ?_
      exact RO_iret rfl dc_Clock_hour_19
    · refine RO_iload_n dc_Clock_hour_12 rfl rfl ?_
      refine RO_iconst dc_Clock_hour_13 ?_
      refine RO_icmp_le (tgt := 20) dc_Clock_hour_14 rfl ?_ ?_
      · refine RO_bipush dc_Clock_hour_17 ?_
        exact RO_iret rfl dc_Clock_hour_19
      · refine RO_iload_n dc_Clock_hour_20 rfl rfl ?_
        refine RO_tab3 (t0 := 48) (t1 := 61) (t2 := 71) (td := 81) dc_Clock_hour_21 rfl rfl rfl ?_ ?_ ?_ ?_
        · refine RO_aload_n dc_Clock_hour_48 rfl rfl ?_
          refine RO_getR (b := 82) gf_Clock_45 lk_0 rfl dc_Clock_hour_49 ?_
          refine RO_getR (b := 83) gf_Clock_143 lk_82 rfl dc_Clock_hour_52 ?_
          refine RO_getR (b := 85) gf_Clock_172 lk_83 rfl dc_Clock_hour_55 ?_
          refine RO_iload_n dc_Clock_hour_58 rfl rfl ?_
          refine RO_chk (fun hi3 => ?_)
          refine RO_ia lk_85 hi3 dc_Clock_hour_59 ?_
          exact RO_iret rfl dc_Clock_hour_60
        · refine RO_aload_n dc_Clock_hour_61 rfl rfl ?_
          refine RO_chk (fun hz4 => ?_)
          refine RO_getM gf_Clock_28 lk_0 (isK_0 hz4) dc_Clock_hour_62 ?_
          refine RO_getR (b := ((m2 0 2).toNat + 8)) gf_Clock_175 (kd_0 hz4) (by omega) dc_Clock_hour_65 ?_
          refine RO_iload_n dc_Clock_hour_68 rfl rfl ?_
          refine RO_chk (fun hi5 => ?_)
          refine RO_ia (cl_0_12 (kd_0 hz4)) hi5 dc_Clock_hour_69 ?_
          exact RO_iret rfl dc_Clock_hour_70
        · refine RO_aload_n dc_Clock_hour_71 rfl rfl ?_
          refine RO_chk (fun hz6 => ?_)
          refine RO_getM gf_Clock_28 lk_0 (isK_0 hz6) dc_Clock_hour_72 ?_
          refine RO_getR (b := ((m2 0 2).toNat + 9)) gf_Clock_178 (kd_0 hz6) (by omega) dc_Clock_hour_75 ?_
          refine RO_iload_n dc_Clock_hour_78 rfl rfl ?_
          refine RO_chk (fun hi7 => ?_)
          refine RO_ia (cl_0_13 (kd_0 hz6)) hi7 dc_Clock_hour_79 ?_
          exact RO_iret rfl dc_Clock_hour_80
        · refine RO_aload_n dc_Clock_hour_81 rfl rfl ?_
          refine RO_getR (b := 98) gf_Clock_67 lk_0 rfl dc_Clock_hour_82 ?_
          refine RO_aload_n dc_Clock_hour_85 rfl rfl ?_
          refine RO_chk (fun hz8 => ?_)
          refine RO_getM gf_Clock_28 lk_0 (isK_0 hz8) dc_Clock_hour_86 ?_
          refine RO_aload_n dc_Clock_hour_89 rfl rfl ?_
          refine RO_getR (b := 82) gf_Clock_45 lk_0 rfl dc_Clock_hour_90 ?_
          refine RO_getR (b := 83) gf_Clock_143 lk_82 rfl dc_Clock_hour_93 ?_
          refine RO_callVv (As := [rf (m2 0 2).toNat, rf 83]) (rest := []) mi_Walk_go mv_Walk_go ml_Clock_161 lk_98 (Nat.le_of_ble_eq_true rfl) rfl (Nat.le_of_ble_eq_true rfl) dc_Clock_hour_96 (fun rq mq hq => pf_Walk_go (m2 0 2).toNat 83 (kd_0 hz8) lk_83 m2 hq) (fun r9 m10 => ?_)
          refine RO_iload_n dc_Clock_hour_99 rfl rfl ?_
          refine RO_iconst dc_Clock_hour_100 ?_
          refine RO_icmp_ne (tgt := 113) dc_Clock_hour_101 rfl ?_ ?_
          · refine RO_aload_n dc_Clock_hour_104 rfl rfl ?_
            refine RO_getR (b := 98) gf_Clock_67 lk_0 rfl dc_Clock_hour_105 ?_
            refine RO_iload_n dc_Clock_hour_108 rfl rfl ?_
            refine RO_callVi (As := [vi p1]) (rest := []) mi_Walk_minuteOf mv_Walk_minuteOf ml_Clock_181 lk_98 (Nat.le_of_ble_eq_true rfl) rfl (Nat.le_of_ble_eq_true rfl) (fun _ => rfl) dc_Clock_hour_109 (fun rq mq hq => pf_Walk_minuteOf p1  m10 hq) (fun r11 m12 => ?_)
            exact RO_iret rfl dc_Clock_hour_112
          · refine RO_iload_n dc_Clock_hour_113 rfl rfl ?_
            refine RO_iconst dc_Clock_hour_114 ?_
            refine RO_icmp_ne (tgt := 129) dc_Clock_hour_115 rfl ?_ ?_
            · refine RO_aload_n dc_Clock_hour_118 rfl rfl ?_
              refine RO_getR (b := 98) gf_Clock_67 lk_0 rfl dc_Clock_hour_119 ?_
              refine RO_iload_n dc_Clock_hour_122 rfl rfl ?_
              refine RO_callVi (As := [vi p1]) (rest := []) mi_Walk_off mv_Walk_off ml_Clock_185 lk_98 (Nat.le_of_ble_eq_true rfl) rfl (Nat.le_of_ble_eq_true rfl) (fun _ => rfl) dc_Clock_hour_123 (fun rq mq hq => pf_Walk_off p1  m10 hq) (fun r13 m14 => ?_)
              refine RO_goto (tgt := 137) dc_Clock_hour_126 rfl ?_
              exact RO_iret rfl dc_Clock_hour_137
            · refine RO_aload_n dc_Clock_hour_129 rfl rfl ?_
              refine RO_getR (b := 98) gf_Clock_67 lk_0 rfl dc_Clock_hour_130 ?_
              refine RO_iload_n dc_Clock_hour_133 rfl rfl ?_
              refine RO_callVi (As := [vi p1]) (rest := []) mi_Walk_cost mv_Walk_cost ml_Clock_188 lk_98 (Nat.le_of_ble_eq_true rfl) rfl (Nat.le_of_ble_eq_true rfl) (fun _ => rfl) dc_Clock_hour_134 (fun rq mq hq => pf_Walk_cost p1  m10 hq) (fun r15 m16 => ?_)
              exact RO_iret rfl dc_Clock_hour_137
def fn_Clock_meet (p1 : Int) (p2 : Int) (p3 : Int) (mem : Mm) : Res := bd (fn_Clock_areTwo p1 p2 mem) fun r1 m2 => if r1 = 0 then (some ((-2), m2)) else (if p3 < 0 then (some ((-2), m2)) else (if 1 < p3 then (some ((-2), m2)) else (if isK 0 (m2 0 2) = true then bd (fn_Walk_go (m2 0 2).toNat 83 m2) fun r4 m5 => bd (fn_Walk_firstMeeting p1 p2 m5) fun r6 m7 => if p3 = 0 then (some (r6, m7)) else (if r6 = (-1) then (some (r6, m7)) else (bd (fn_Walk_placeOf p1 r6 m7) fun r8 m9 => some (r8, m9))) else none)))
set_option maxHeartbeats 4000000 in
theorem pf_Clock_meet {E : EE} (p1 : Int) (p2 : Int) (p3 : Int)  (mem : Mm) {r : Int} {mem9 : Mm} (h : fn_Clock_meet p1 p2 p3 mem = some (r, mem9)) : MetX E 5 yn_Clock_meet cd_Clock_meet 5 (some .int) [rf 0, vi p1, vi p2, vi p3] mem r mem9 := by
  refine RO_met (y := yn_Clock_meet) (by decide +kernel) (Nat.le_of_ble_eq_true rfl) ?_ h
  show RO E mt_Clock_meet (fn_Clock_meet p1 p2 p3 mem) 0 [(0, rf 0), (1, vi p1), (2, vi p2), (3, vi p3)] [] mem
  unfold fn_Clock_meet
  refine RO_aload_n dc_Clock_meet_0 rfl rfl ?_
  refine RO_iload_n dc_Clock_meet_1 rfl rfl ?_
  refine RO_iload_n dc_Clock_meet_2 rfl rfl ?_
  refine RO_callVi (As := [vi p1, vi p2]) (rest := []) mi_Clock_areTwo mv_Clock_areTwo ml_Clock_191 lk_0 (Nat.le_of_ble_eq_true rfl) rfl (Nat.le_of_ble_eq_true rfl) (fun _ => rfl) dc_Clock_meet_3 (fun rq mq hq => pf_Clock_areTwo p1 p2  mem hq) (fun r1 m2 => ?_)
  refine RO_if_eq (tgt := 18) dc_Clock_meet_6 rfl ?_ ?_
  · refine RO_bipush dc_Clock_meet_18 ?_
    exact RO_iret rfl dc_Clock_meet_20
  · refine RO_iload_n dc_Clock_meet_9 rfl rfl ?_
    refine RO_if_lt (tgt := 18) dc_Clock_meet_10 rfl ?_ ?_
    · refine RO_bipush dc_Clock_meet_18 ?_
      exact RO_iret rfl dc_Clock_meet_20
    · refine RO_iload_n dc_Clock_meet_13 rfl rfl ?_
      refine RO_iconst dc_Clock_meet_14 ?_
      refine RO_icmp_le (tgt := 21) dc_Clock_meet_15 rfl ?_ ?_
      · refine RO_bipush dc_Clock_meet_18 ?_
        exact RO_iret rfl dc_Clock_meet_20
      · refine RO_aload_n dc_Clock_meet_21 rfl rfl ?_
        refine RO_getR (b := 98) gf_Clock_67 lk_0 rfl dc_Clock_meet_22 ?_
        refine RO_aload_n dc_Clock_meet_25 rfl rfl ?_
        refine RO_chk (fun hz3 => ?_)
        refine RO_getM gf_Clock_28 lk_0 (isK_0 hz3) dc_Clock_meet_26 ?_
        refine RO_aload_n dc_Clock_meet_29 rfl rfl ?_
        refine RO_getR (b := 82) gf_Clock_45 lk_0 rfl dc_Clock_meet_30 ?_
        refine RO_getR (b := 83) gf_Clock_143 lk_82 rfl dc_Clock_meet_33 ?_
        refine RO_callVv (As := [rf (m2 0 2).toNat, rf 83]) (rest := []) mi_Walk_go mv_Walk_go ml_Clock_161 lk_98 (Nat.le_of_ble_eq_true rfl) rfl (Nat.le_of_ble_eq_true rfl) dc_Clock_meet_36 (fun rq mq hq => pf_Walk_go (m2 0 2).toNat 83 (kd_0 hz3) lk_83 m2 hq) (fun r4 m5 => ?_)
        refine RO_aload_n dc_Clock_meet_39 rfl rfl ?_
        refine RO_getR (b := 98) gf_Clock_67 lk_0 rfl dc_Clock_meet_40 ?_
        refine RO_iload_n dc_Clock_meet_43 rfl rfl ?_
        refine RO_iload_n dc_Clock_meet_44 rfl rfl ?_
        refine RO_callVi (As := [vi p1, vi p2]) (rest := []) mi_Walk_firstMeeting mv_Walk_firstMeeting ml_Clock_195 lk_98 (Nat.le_of_ble_eq_true rfl) rfl (Nat.le_of_ble_eq_true rfl) (fun _ => rfl) dc_Clock_meet_45 (fun rq mq hq => pf_Walk_firstMeeting p1 p2  m5 hq) (fun r6 m7 => ?_)
        refine RO_istore dc_Clock_meet_48 (Nat.le_of_ble_eq_true rfl) ?_
        refine RO_iload_n dc_Clock_meet_50 rfl rfl ?_
        refine RO_if_eq (tgt := 60) dc_Clock_meet_51 rfl ?_ ?_
        · refine RO_iload dc_Clock_meet_60 rfl ?_
          refine RO_goto (tgt := 75) dc_Clock_meet_62 rfl ?_
          exact RO_iret rfl dc_Clock_meet_75
        · refine RO_iload dc_Clock_meet_54 rfl ?_
          refine RO_iconst dc_Clock_meet_56 ?_
          refine RO_icmp_ne (tgt := 65) dc_Clock_meet_57 rfl ?_ ?_
          · refine RO_iload dc_Clock_meet_60 rfl ?_
            refine RO_goto (tgt := 75) dc_Clock_meet_62 rfl ?_
            exact RO_iret rfl dc_Clock_meet_75
          · refine RO_aload_n dc_Clock_meet_65 rfl rfl ?_
            refine RO_getR (b := 98) gf_Clock_67 lk_0 rfl dc_Clock_meet_66 ?_
            refine RO_iload_n dc_Clock_meet_69 rfl rfl ?_
            refine RO_iload dc_Clock_meet_70 rfl ?_
            refine RO_callVi (As := [vi p1, vi r6]) (rest := []) mi_Walk_placeOf mv_Walk_placeOf ml_Clock_165 lk_98 (Nat.le_of_ble_eq_true rfl) rfl (Nat.le_of_ble_eq_true rfl) (fun _ => rfl) dc_Clock_meet_72 (fun rq mq hq => pf_Walk_placeOf p1 r6  m7 hq) (fun r8 m9 => ?_)
            exact RO_iret rfl dc_Clock_meet_75
def bo_Clock_sure_207 (p1 : Int) (p2 : Int) (p3 : Int)  (v4 : Int) (v5 : Int) (mem : Mm) : Res := if p3 = 0 then (some (v4, mem)) else (if v4 = (-1) then (some (v4, mem)) else (some (v5, mem)))
set_option maxHeartbeats 4000000 in
theorem rb_Clock_sure_207 {E : EE} (p1 : Int) (p2 : Int) (p3 : Int)    (v4 : Int) (v5 : Int)  (mem : Mm) : RO E mt_Clock_sure (bo_Clock_sure_207 p1 p2 p3  v4 v5 mem) 207 [(3, vi p3), (4, vi v4), (5, vi v5)] [] mem := by
  unfold bo_Clock_sure_207
  refine RO_iload_n dc_Clock_sure_207 rfl rfl ?_
  refine RO_if_eq (tgt := 217) dc_Clock_sure_208 rfl ?_ ?_
  · refine RO_iload dc_Clock_sure_217 rfl ?_
    refine RO_goto (tgt := 224) dc_Clock_sure_219 rfl ?_
    exact RO_iret rfl dc_Clock_sure_224
  · refine RO_iload dc_Clock_sure_211 rfl ?_
    refine RO_iconst dc_Clock_sure_213 ?_
    refine RO_icmp_ne (tgt := 222) dc_Clock_sure_214 rfl ?_ ?_
    · refine RO_iload dc_Clock_sure_217 rfl ?_
      refine RO_goto (tgt := 224) dc_Clock_sure_219 rfl ?_
      exact RO_iret rfl dc_Clock_sure_224
    · refine RO_iload dc_Clock_sure_222 rfl ?_
      exact RO_iret rfl dc_Clock_sure_224
def bo_Clock_sure_201 (p1 : Int) (p2 : Int) (p3 : Int) (k130 : Int → Int → Int → Mm → Res) (v4 : Int) (v5 : Int) (v6 : Int) (mem : Mm) : Res := k130 v4 v5 (w32 (v6 + 1)) mem
set_option maxHeartbeats 4000000 in
theorem rb_Clock_sure_201 {E : EE} (p1 : Int) (p2 : Int) (p3 : Int)  (k130 : Int → Int → Int → Mm → Res) (H130 : ∀ (v4 : Int) (v5 : Int) (v6 : Int)  (mem : Mm), RO E mt_Clock_sure (k130 v4 v5 v6 mem) 130 [(0, rf 0), (1, vi p1), (2, vi p2), (3, vi p3), (4, vi v4), (5, vi v5), (6, vi v6)] [] mem) (v4 : Int) (v5 : Int) (v6 : Int)  (mem : Mm) : RO E mt_Clock_sure (bo_Clock_sure_201 p1 p2 p3 k130 v4 v5 v6 mem) 201 [(0, rf 0), (1, vi p1), (2, vi p2), (3, vi p3), (4, vi v4), (5, vi v5), (6, vi v6)] [] mem := by
  unfold bo_Clock_sure_201
  refine RO_iinc dc_Clock_sure_201 rfl (Nat.le_of_ble_eq_true rfl) ?_
  refine RO_goto (tgt := 130) dc_Clock_sure_204 rfl ?_
  refine RO_sub ?_ (H130 v4 v5 (w32 (v6 + 1)) mem)
  exact ⟨rfl, rfl, rfl, rfl, rfl, rfl, rfl, trivial⟩
def bo_Clock_sure_130 (p1 : Int) (p2 : Int) (p3 : Int) (k130 : Int → Int → Int → Mm → Res) (v4 : Int) (v5 : Int) (v6 : Int) (mem : Mm) : Res := if isK 0 (mem 0 2) = true then if v6 < (mem (mem 0 2).toNat 0) then (bd (fn_Walk_firstMeetingAt p1 p2 v6 mem) fun r2 m3 => if 0 ≤ v6 ∧ v6 < 6 then bn (imx r2 (m3 108 v6.toNat)) fun x5 => if r2 = (-1) then (bo_Clock_sure_201 p1 p2 p3 k130 v4 v5 v6 m3) else (if 0 ≤ v6 ∧ v6 < 6 then if (m3 108 v6.toNat) = (-1) then (bo_Clock_sure_201 p1 p2 p3 k130 v4 v5 v6 m3) else (if x5 < v5 then (bo_Clock_sure_201 p1 p2 p3 k130 v6 x5 v6 m3) else (bo_Clock_sure_201 p1 p2 p3 k130 v4 v5 v6 m3)) else none) else none) else (bo_Clock_sure_207 p1 p2 p3 v4 v5 mem) else none
set_option maxHeartbeats 4000000 in
theorem rb_Clock_sure_130 {E : EE} (p1 : Int) (p2 : Int) (p3 : Int)  (k130 : Int → Int → Int → Mm → Res) (H130 : ∀ (v4 : Int) (v5 : Int) (v6 : Int)  (mem : Mm), RO E mt_Clock_sure (k130 v4 v5 v6 mem) 130 [(0, rf 0), (1, vi p1), (2, vi p2), (3, vi p3), (4, vi v4), (5, vi v5), (6, vi v6)] [] mem) (v4 : Int) (v5 : Int) (v6 : Int)  (mem : Mm) : RO E mt_Clock_sure (bo_Clock_sure_130 p1 p2 p3 k130 v4 v5 v6 mem) 130 [(0, rf 0), (1, vi p1), (2, vi p2), (3, vi p3), (4, vi v4), (5, vi v5), (6, vi v6)] [] mem := by
  unfold bo_Clock_sure_130
  refine RO_iload dc_Clock_sure_130 rfl ?_
  refine RO_aload_n dc_Clock_sure_132 rfl rfl ?_
  refine RO_chk (fun hz1 => ?_)
  refine RO_getM gf_Clock_28 lk_0 (isK_0 hz1) dc_Clock_sure_133 ?_
  refine RO_getI gf_Clock_257 (kd_0 hz1) dc_Clock_sure_136 ?_
  refine RO_icmp_ge (tgt := 207) dc_Clock_sure_139 rfl ?_ ?_
  · refine RO_aload_n dc_Clock_sure_142 rfl rfl ?_
    refine RO_getR (b := 98) gf_Clock_67 lk_0 rfl dc_Clock_sure_143 ?_
    refine RO_iload_n dc_Clock_sure_146 rfl rfl ?_
    refine RO_iload_n dc_Clock_sure_147 rfl rfl ?_
    refine RO_iload dc_Clock_sure_148 rfl ?_
    refine RO_callVi (As := [vi p1, vi p2, vi v6]) (rest := []) mi_Walk_firstMeetingAt mv_Walk_firstMeetingAt ml_Clock_273 lk_98 (Nat.le_of_ble_eq_true rfl) rfl (Nat.le_of_ble_eq_true rfl) (fun _ => rfl) dc_Clock_sure_150 (fun rq mq hq => pf_Walk_firstMeetingAt p1 p2 v6  mem hq) (fun r2 m3 => ?_)
    refine RO_istore dc_Clock_sure_153 (Nat.le_of_ble_eq_true rfl) ?_
    refine RO_iload dc_Clock_sure_155 rfl ?_
    refine RO_aload_n dc_Clock_sure_157 rfl rfl ?_
    refine RO_getR (b := 108) gf_Clock_82 lk_0 rfl dc_Clock_sure_158 ?_
    refine RO_iload dc_Clock_sure_161 rfl ?_
    refine RO_chk (fun hi4 => ?_)
    refine RO_ia lk_108 hi4 dc_Clock_sure_163 ?_
    refine RO_max mw_max ml_Clock_277 (Nat.le_of_ble_eq_true rfl) (Nat.le_of_ble_eq_true rfl) dc_Clock_sure_164 ?_
    refine RO_bnT (fun x5 => ?_)
    refine RO_istore dc_Clock_sure_167 (Nat.le_of_ble_eq_true rfl) ?_
    refine RO_iload dc_Clock_sure_169 rfl ?_
    refine RO_iconst dc_Clock_sure_171 ?_
    refine RO_icmp_eq (tgt := 201) dc_Clock_sure_172 rfl ?_ ?_
    · refine RO_sub ?_ (rb_Clock_sure_201 p1 p2 p3 k130 H130 v4 v5 v6 m3)
      exact ⟨rfl, rfl, rfl, rfl, rfl, rfl, rfl, trivial⟩
    · refine RO_aload_n dc_Clock_sure_175 rfl rfl ?_
      refine RO_getR (b := 108) gf_Clock_82 lk_0 rfl dc_Clock_sure_176 ?_
      refine RO_iload dc_Clock_sure_179 rfl ?_
      refine RO_chk (fun hi6 => ?_)
      refine RO_ia lk_108 hi6 dc_Clock_sure_181 ?_
      refine RO_iconst dc_Clock_sure_182 ?_
      refine RO_icmp_eq (tgt := 201) dc_Clock_sure_183 rfl ?_ ?_
      · refine RO_sub ?_ (rb_Clock_sure_201 p1 p2 p3 k130 H130 v4 v5 v6 m3)
        exact ⟨rfl, rfl, rfl, rfl, rfl, rfl, rfl, trivial⟩
      · refine RO_iload dc_Clock_sure_186 rfl ?_
        refine RO_iload dc_Clock_sure_188 rfl ?_
        refine RO_icmp_ge (tgt := 201) dc_Clock_sure_190 rfl ?_ ?_
        · refine RO_iload dc_Clock_sure_193 rfl ?_
          refine RO_istore dc_Clock_sure_195 (Nat.le_of_ble_eq_true rfl) ?_
          refine RO_iload dc_Clock_sure_197 rfl ?_
          refine RO_istore dc_Clock_sure_199 (Nat.le_of_ble_eq_true rfl) ?_
          refine RO_sub ?_ (rb_Clock_sure_201 p1 p2 p3 k130 H130 v6 x5 v6 m3)
          exact ⟨rfl, rfl, rfl, rfl, rfl, rfl, rfl, trivial⟩
        · refine RO_sub ?_ (rb_Clock_sure_201 p1 p2 p3 k130 H130 v4 v5 v6 m3)
          exact ⟨rfl, rfl, rfl, rfl, rfl, rfl, rfl, trivial⟩
  · refine RO_sub ?_ (rb_Clock_sure_207 p1 p2 p3 v4 v5 mem)
    exact ⟨rfl, rfl, rfl, trivial⟩
def lp_Clock_sure_130 (p1 : Int) (p2 : Int) (p3 : Int)  : Nat → Int → Int → Int → Mm → Res
  | 0 => fun _ _ _ _ => none
  | n + 1 => bo_Clock_sure_130 p1 p2 p3  (lp_Clock_sure_130 p1 p2 p3  n)
theorem rp_Clock_sure_130 {E : EE} (p1 : Int) (p2 : Int) (p3 : Int)    : ∀ (n : Nat) (v4 : Int) (v5 : Int) (v6 : Int)  (mem : Mm), RO E mt_Clock_sure (lp_Clock_sure_130 p1 p2 p3  n v4 v5 v6 mem) 130 [(0, rf 0), (1, vi p1), (2, vi p2), (3, vi p3), (4, vi v4), (5, vi v5), (6, vi v6)] [] mem := by
  intro n
  induction n with
  | zero => intro v4 v5 v6  mem; exact RO_none
  | succ n ih => intro v4 v5 v6  mem; exact rb_Clock_sure_130 p1 p2 p3   (lp_Clock_sure_130 p1 p2 p3  n)  ih v4 v5 v6  mem
def bo_Clock_sure_96 (p1 : Int) (p2 : Int) (p3 : Int)   (mem : Mm) : Res := bn (mst mem 95 3 1) fun m1 => if isK 0 (m1 0 2) = true then bd (fn_Walk_go (m1 0 2).toNat 95 m1) fun r3 m4 => lp_Clock_sure_130 p1 p2 p3 FU (-1) 240 0 m4 else none
set_option maxHeartbeats 4000000 in
theorem rb_Clock_sure_96 {E : EE} (p1 : Int) (p2 : Int) (p3 : Int)      (mem : Mm) : RO E mt_Clock_sure (bo_Clock_sure_96 p1 p2 p3   mem) 96 [(0, rf 0), (1, vi p1), (2, vi p2), (3, vi p3)] [] mem := by
  unfold bo_Clock_sure_96
  refine RO_aload_n dc_Clock_sure_96 rfl rfl ?_
  refine RO_getR (b := 95) gf_Clock_60 lk_0 rfl dc_Clock_sure_97 ?_
  refine RO_iconst dc_Clock_sure_100 ?_
  refine RO_putZ gp_Clock_209 lk_95 (Or.inr rfl) dc_Clock_sure_101 ?_
  refine RO_bnM (fun m1 => ?_)
  refine RO_aload_n dc_Clock_sure_104 rfl rfl ?_
  refine RO_getR (b := 98) gf_Clock_67 lk_0 rfl dc_Clock_sure_105 ?_
  refine RO_aload_n dc_Clock_sure_108 rfl rfl ?_
  refine RO_chk (fun hz2 => ?_)
  refine RO_getM gf_Clock_28 lk_0 (isK_0 hz2) dc_Clock_sure_109 ?_
  refine RO_aload_n dc_Clock_sure_112 rfl rfl ?_
  refine RO_getR (b := 95) gf_Clock_60 lk_0 rfl dc_Clock_sure_113 ?_
  refine RO_callVv (As := [rf (m1 0 2).toNat, rf 95]) (rest := []) mi_Walk_go mv_Walk_go ml_Clock_161 lk_98 (Nat.le_of_ble_eq_true rfl) rfl (Nat.le_of_ble_eq_true rfl) dc_Clock_sure_116 (fun rq mq hq => pf_Walk_go (m1 0 2).toNat 95 (kd_0 hz2) lk_95 m1 hq) (fun r3 m4 => ?_)
  refine RO_iconst dc_Clock_sure_119 ?_
  refine RO_istore dc_Clock_sure_120 (Nat.le_of_ble_eq_true rfl) ?_
  refine RO_sipush dc_Clock_sure_122 ?_
  refine RO_istore dc_Clock_sure_125 (Nat.le_of_ble_eq_true rfl) ?_
  refine RO_iconst dc_Clock_sure_127 ?_
  refine RO_istore dc_Clock_sure_128 (Nat.le_of_ble_eq_true rfl) ?_
  refine RO_sub ?_ (rp_Clock_sure_130 p1 p2 p3 FU (-1) 240 0 m4)
  exact ⟨rfl, rfl, rfl, rfl, rfl, rfl, rfl, trivial⟩
def bo_Clock_sure_60 (p1 : Int) (p2 : Int) (p3 : Int) (k60 : Int → Mm → Res) (v4 : Int) (mem : Mm) : Res := if isK 0 (mem 0 2) = true then if v4 < (mem (mem 0 2).toNat 0) then (bd (fn_Walk_firstMeetingAt p1 p2 v4 mem) fun r2 m3 => if 0 ≤ v4 ∧ v4 < 6 then bn (mst m3 108 v4.toNat r2) fun m5 => k60 (w32 (v4 + 1)) m5 else none) else (bo_Clock_sure_96 p1 p2 p3 mem) else none
set_option maxHeartbeats 4000000 in
theorem rb_Clock_sure_60 {E : EE} (p1 : Int) (p2 : Int) (p3 : Int)  (k60 : Int → Mm → Res) (H60 : ∀ (v4 : Int)  (mem : Mm), RO E mt_Clock_sure (k60 v4 mem) 60 [(0, rf 0), (1, vi p1), (2, vi p2), (3, vi p3), (4, vi v4)] [] mem) (v4 : Int)  (mem : Mm) : RO E mt_Clock_sure (bo_Clock_sure_60 p1 p2 p3 k60 v4 mem) 60 [(0, rf 0), (1, vi p1), (2, vi p2), (3, vi p3), (4, vi v4)] [] mem := by
  unfold bo_Clock_sure_60
  refine RO_iload dc_Clock_sure_60 rfl ?_
  refine RO_aload_n dc_Clock_sure_62 rfl rfl ?_
  refine RO_chk (fun hz1 => ?_)
  refine RO_getM gf_Clock_28 lk_0 (isK_0 hz1) dc_Clock_sure_63 ?_
  refine RO_getI gf_Clock_257 (kd_0 hz1) dc_Clock_sure_66 ?_
  refine RO_icmp_ge (tgt := 96) dc_Clock_sure_69 rfl ?_ ?_
  · refine RO_aload_n dc_Clock_sure_72 rfl rfl ?_
    refine RO_getR (b := 108) gf_Clock_82 lk_0 rfl dc_Clock_sure_73 ?_
    refine RO_iload dc_Clock_sure_76 rfl ?_
    refine RO_aload_n dc_Clock_sure_78 rfl rfl ?_
    refine RO_getR (b := 98) gf_Clock_67 lk_0 rfl dc_Clock_sure_79 ?_
    refine RO_iload_n dc_Clock_sure_82 rfl rfl ?_
    refine RO_iload_n dc_Clock_sure_83 rfl rfl ?_
    refine RO_iload dc_Clock_sure_84 rfl ?_
    refine RO_callVi (As := [vi p1, vi p2, vi v4]) (rest := [vi v4, rf 108]) mi_Walk_firstMeetingAt mv_Walk_firstMeetingAt ml_Clock_273 lk_98 (Nat.le_of_ble_eq_true rfl) rfl (Nat.le_of_ble_eq_true rfl) (fun _ => rfl) dc_Clock_sure_86 (fun rq mq hq => pf_Walk_firstMeetingAt p1 p2 v4  mem hq) (fun r2 m3 => ?_)
    refine RO_chk (fun hi4 => ?_)
    refine RO_is lk_108 hi4 dc_Clock_sure_89 ?_
    refine RO_bnM (fun m5 => ?_)
    refine RO_iinc dc_Clock_sure_90 rfl (Nat.le_of_ble_eq_true rfl) ?_
    refine RO_goto (tgt := 60) dc_Clock_sure_93 rfl ?_
    refine RO_sub ?_ (H60 (w32 (v4 + 1)) m5)
    exact ⟨rfl, rfl, rfl, rfl, rfl, trivial⟩
  · refine RO_sub ?_ (rb_Clock_sure_96 p1 p2 p3 mem)
    exact ⟨rfl, rfl, rfl, rfl, trivial⟩
def lp_Clock_sure_60 (p1 : Int) (p2 : Int) (p3 : Int)  : Nat → Int → Mm → Res
  | 0 => fun _ _ => none
  | n + 1 => bo_Clock_sure_60 p1 p2 p3  (lp_Clock_sure_60 p1 p2 p3  n)
theorem rp_Clock_sure_60 {E : EE} (p1 : Int) (p2 : Int) (p3 : Int)    : ∀ (n : Nat) (v4 : Int)  (mem : Mm), RO E mt_Clock_sure (lp_Clock_sure_60 p1 p2 p3  n v4 mem) 60 [(0, rf 0), (1, vi p1), (2, vi p2), (3, vi p3), (4, vi v4)] [] mem := by
  intro n
  induction n with
  | zero => intro v4  mem; exact RO_none
  | succ n ih => intro v4  mem; exact rb_Clock_sure_60 p1 p2 p3   (lp_Clock_sure_60 p1 p2 p3  n)  ih v4  mem
def fn_Clock_sure (p1 : Int) (p2 : Int) (p3 : Int) (mem : Mm) : Res := bd (fn_Clock_areTwo p1 p2 mem) fun r1 m2 => if r1 = 0 then (some ((-1), m2)) else (if p3 < 0 then (some ((-1), m2)) else (if 1 < p3 then (some ((-1), m2)) else (bd (fn_State_copy 95 83 m2) fun r3 m4 => bn (mst m4 95 3 0) fun m5 => if isK 0 (m5 0 2) = true then bd (fn_Walk_go (m5 0 2).toNat 95 m5) fun r7 m8 => lp_Clock_sure_60 p1 p2 p3 FU 0 m8 else none)))
set_option maxHeartbeats 4000000 in
theorem pf_Clock_sure {E : EE} (p1 : Int) (p2 : Int) (p3 : Int)  (mem : Mm) {r : Int} {mem9 : Mm} (h : fn_Clock_sure p1 p2 p3 mem = some (r, mem9)) : MetX E 5 yn_Clock_sure cd_Clock_sure 9 (some .int) [rf 0, vi p1, vi p2, vi p3] mem r mem9 := by
  refine RO_met (y := yn_Clock_sure) (by decide +kernel) (Nat.le_of_ble_eq_true rfl) ?_ h
  show RO E mt_Clock_sure (fn_Clock_sure p1 p2 p3 mem) 0 [(0, rf 0), (1, vi p1), (2, vi p2), (3, vi p3)] [] mem
  unfold fn_Clock_sure
  refine RO_aload_n dc_Clock_sure_0 rfl rfl ?_
  refine RO_iload_n dc_Clock_sure_1 rfl rfl ?_
  refine RO_iload_n dc_Clock_sure_2 rfl rfl ?_
  refine RO_callVi (As := [vi p1, vi p2]) (rest := []) mi_Clock_areTwo mv_Clock_areTwo ml_Clock_191 lk_0 (Nat.le_of_ble_eq_true rfl) rfl (Nat.le_of_ble_eq_true rfl) (fun _ => rfl) dc_Clock_sure_3 (fun rq mq hq => pf_Clock_areTwo p1 p2  mem hq) (fun r1 m2 => ?_)
  refine RO_if_eq (tgt := 18) dc_Clock_sure_6 rfl ?_ ?_
  · refine RO_iconst dc_Clock_sure_18 ?_
    exact RO_iret rfl dc_Clock_sure_19
  · refine RO_iload_n dc_Clock_sure_9 rfl rfl ?_
    refine RO_if_lt (tgt := 18) dc_Clock_sure_10 rfl ?_ ?_
    · refine RO_iconst dc_Clock_sure_18 ?_
      exact RO_iret rfl dc_Clock_sure_19
    · refine RO_iload_n dc_Clock_sure_13 rfl rfl ?_
      refine RO_iconst dc_Clock_sure_14 ?_
      refine RO_icmp_le (tgt := 20) dc_Clock_sure_15 rfl ?_ ?_
      · refine RO_iconst dc_Clock_sure_18 ?_
        exact RO_iret rfl dc_Clock_sure_19
      · refine RO_aload_n dc_Clock_sure_20 rfl rfl ?_
        refine RO_getR (b := 95) gf_Clock_60 lk_0 rfl dc_Clock_sure_21 ?_
        refine RO_aload_n dc_Clock_sure_24 rfl rfl ?_
        refine RO_getR (b := 82) gf_Clock_45 lk_0 rfl dc_Clock_sure_25 ?_
        refine RO_getR (b := 83) gf_Clock_143 lk_82 rfl dc_Clock_sure_28 ?_
        refine RO_callVv (As := [rf 83]) (rest := []) mi_State_copy mv_State_copy ml_Clock_222 lk_95 (Nat.le_of_ble_eq_true rfl) rfl (Nat.le_of_ble_eq_true rfl) dc_Clock_sure_31 (fun rq mq hq => pf_State_copy 95 83 lk_95 lk_83 m2 hq) (fun r3 m4 => ?_)
        refine RO_aload_n dc_Clock_sure_34 rfl rfl ?_
        refine RO_getR (b := 95) gf_Clock_60 lk_0 rfl dc_Clock_sure_35 ?_
        refine RO_iconst dc_Clock_sure_38 ?_
        refine RO_putZ gp_Clock_209 lk_95 (Or.inl rfl) dc_Clock_sure_39 ?_
        refine RO_bnM (fun m5 => ?_)
        refine RO_aload_n dc_Clock_sure_42 rfl rfl ?_
        refine RO_getR (b := 98) gf_Clock_67 lk_0 rfl dc_Clock_sure_43 ?_
        refine RO_aload_n dc_Clock_sure_46 rfl rfl ?_
        refine RO_chk (fun hz6 => ?_)
        refine RO_getM gf_Clock_28 lk_0 (isK_0 hz6) dc_Clock_sure_47 ?_
        refine RO_aload_n dc_Clock_sure_50 rfl rfl ?_
        refine RO_getR (b := 95) gf_Clock_60 lk_0 rfl dc_Clock_sure_51 ?_
        refine RO_callVv (As := [rf (m5 0 2).toNat, rf 95]) (rest := []) mi_Walk_go mv_Walk_go ml_Clock_161 lk_98 (Nat.le_of_ble_eq_true rfl) rfl (Nat.le_of_ble_eq_true rfl) dc_Clock_sure_54 (fun rq mq hq => pf_Walk_go (m5 0 2).toNat 95 (kd_0 hz6) lk_95 m5 hq) (fun r7 m8 => ?_)
        refine RO_iconst dc_Clock_sure_57 ?_
        refine RO_istore dc_Clock_sure_58 (Nat.le_of_ble_eq_true rfl) ?_
        refine RO_sub ?_ (rp_Clock_sure_60 p1 p2 p3 FU 0 m8)
        exact ⟨rfl, rfl, rfl, rfl, rfl, trivial⟩
