def bo_Clock_years_134 (p1 : Int) (p2 : Int) (p3 : Int) (k59 : Int → Int → Mm → Res) (v4 : Int) (v5 : Int) (v6 : Int) (mem : Mm) : Res := bd (fn_State_pass 95 v6 mem) fun r1 m2 => k59 v4 (w32 (v5 + 1)) m2
set_option maxHeartbeats 4000000 in
theorem rb_Clock_years_134 {E : EE} (p1 : Int) (p2 : Int) (p3 : Int)  (k59 : Int → Int → Mm → Res) (H59 : ∀ (v4 : Int) (v5 : Int)  (mem : Mm), RO E mt_Clock_years (k59 v4 v5 mem) 59 [(0, rf 0), (2, vi p2), (3, vi p3), (4, vi v4), (5, vi v5)] [] mem) (v4 : Int) (v5 : Int) (v6 : Int)  (mem : Mm) : RO E mt_Clock_years (bo_Clock_years_134 p1 p2 p3 k59 v4 v5 v6 mem) 134 [(0, rf 0), (2, vi p2), (3, vi p3), (4, vi v4), (5, vi v5), (6, vi v6)] [] mem := by
  unfold bo_Clock_years_134
  refine RO_aload_n dc_Clock_years_134 rfl rfl ?_
  refine RO_getR (b := 95) gf_Clock_60 lk_0 rfl dc_Clock_years_135 ?_
  refine RO_iload dc_Clock_years_138 rfl ?_
  refine RO_callVv (As := [vi v6]) (rest := []) mi_State_pass mv_State_pass ml_Clock_216 lk_95 (Nat.le_of_ble_eq_true rfl) rfl (Nat.le_of_ble_eq_true rfl) dc_Clock_years_140 (fun rq mq hq => pf_State_pass 95 v6 lk_95 mem hq) (fun r1 m2 => ?_)
  refine RO_iinc dc_Clock_years_143 rfl (Nat.le_of_ble_eq_true rfl) ?_
  refine RO_goto (tgt := 59) dc_Clock_years_146 rfl ?_
  refine RO_sub ?_ (H59 v4 (w32 (v5 + 1)) m2)
  exact ⟨rfl, rfl, rfl, rfl, rfl, trivial⟩
def bo_Clock_years_131 (p1 : Int) (p2 : Int) (p3 : Int) (k59 : Int → Int → Mm → Res) (v5 : Int) (v6 : Int) (s0 : Int) (s1 : Int) (mem : Mm) : Res := bn (w32 (s0 + s1)) fun x1 => bo_Clock_years_134 p1 p2 p3 k59 x1 v5 v6 mem
set_option maxHeartbeats 4000000 in
theorem rb_Clock_years_131 {E : EE} (p1 : Int) (p2 : Int) (p3 : Int)  (k59 : Int → Int → Mm → Res) (H59 : ∀ (v4 : Int) (v5 : Int)  (mem : Mm), RO E mt_Clock_years (k59 v4 v5 mem) 59 [(0, rf 0), (2, vi p2), (3, vi p3), (4, vi v4), (5, vi v5)] [] mem) (v5 : Int) (v6 : Int) (s0 : Int) (s1 : Int)  (mem : Mm) : RO E mt_Clock_years (bo_Clock_years_131 p1 p2 p3 k59 v5 v6 s0 s1 mem) 131 [(0, rf 0), (2, vi p2), (3, vi p3), (5, vi v5), (6, vi v6)] [vi s1, vi s0] mem := by
  unfold bo_Clock_years_131
  refine RO_iadd dc_Clock_years_131 ?_
  refine RO_bnT (fun x1 => ?_)
  refine RO_istore dc_Clock_years_132 (Nat.le_of_ble_eq_true rfl) ?_
  refine RO_sub ?_ (rb_Clock_years_134 p1 p2 p3 k59 H59 x1 v5 v6 mem)
  exact ⟨rfl, rfl, rfl, rfl, rfl, rfl, trivial⟩
def bo_Clock_years_59 (p1 : Int) (p2 : Int) (p3 : Int) (k59 : Int → Int → Mm → Res) (v4 : Int) (v5 : Int) (mem : Mm) : Res := if v5 < p2 then (bd (fn_Clock_drawDay  mem) fun r1 m2 => if isK 0 (m2 0 2) = true then bd (fn_Walk_go (m2 0 2).toNat 95 m2) fun r4 m5 => bd (fn_Walk_costs  m5) fun r6 m7 => if p3 = 0 then (bn (w32 (v4 + r6)) fun x8 => bo_Clock_years_134 p1 p2 p3 k59 x8 v5 r6 m7) else (if p3 = 1 then (bd (fn_Walk_missing  m7) fun r9 m10 => bo_Clock_years_131 p1 p2 p3 k59 v5 r6 v4 r9 m10) else (bd (fn_Walk_meetings  m7) fun r11 m12 => bo_Clock_years_131 p1 p2 p3 k59 v5 r6 v4 r11 m12)) else none) else (some (v4, mem))
set_option maxHeartbeats 4000000 in
theorem rb_Clock_years_59 {E : EE} (p1 : Int) (p2 : Int) (p3 : Int)  (k59 : Int → Int → Mm → Res) (H59 : ∀ (v4 : Int) (v5 : Int)  (mem : Mm), RO E mt_Clock_years (k59 v4 v5 mem) 59 [(0, rf 0), (2, vi p2), (3, vi p3), (4, vi v4), (5, vi v5)] [] mem) (v4 : Int) (v5 : Int)  (mem : Mm) : RO E mt_Clock_years (bo_Clock_years_59 p1 p2 p3 k59 v4 v5 mem) 59 [(0, rf 0), (2, vi p2), (3, vi p3), (4, vi v4), (5, vi v5)] [] mem := by
  unfold bo_Clock_years_59
  refine RO_iload dc_Clock_years_59 rfl ?_
  refine RO_iload_n dc_Clock_years_61 rfl rfl ?_
  refine RO_icmp_ge (tgt := 149) dc_Clock_years_62 rfl ?_ ?_
  · refine RO_aload_n dc_Clock_years_65 rfl rfl ?_
    refine RO_callVv (As := []) (rest := []) mi_Clock_drawDay mv_Clock_drawDay ml_Clock_319 lk_0 (Nat.le_of_ble_eq_true rfl) rfl (Nat.le_of_ble_eq_true rfl) dc_Clock_years_66 (fun rq mq hq => pf_Clock_drawDay   mem hq) (fun r1 m2 => ?_)
    refine RO_aload_n dc_Clock_years_69 rfl rfl ?_
    refine RO_getR (b := 98) gf_Clock_67 lk_0 rfl dc_Clock_years_70 ?_
    refine RO_aload_n dc_Clock_years_73 rfl rfl ?_
    refine RO_chk (fun hz3 => ?_)
    refine RO_getM gf_Clock_28 lk_0 (isK_0 hz3) dc_Clock_years_74 ?_
    refine RO_aload_n dc_Clock_years_77 rfl rfl ?_
    refine RO_getR (b := 95) gf_Clock_60 lk_0 rfl dc_Clock_years_78 ?_
    refine RO_callVv (As := [rf (m2 0 2).toNat, rf 95]) (rest := []) mi_Walk_go mv_Walk_go ml_Clock_161 lk_98 (Nat.le_of_ble_eq_true rfl) rfl (Nat.le_of_ble_eq_true rfl) dc_Clock_years_81 (fun rq mq hq => pf_Walk_go (m2 0 2).toNat 95 (kd_0 hz3) lk_95 m2 hq) (fun r4 m5 => ?_)
    refine RO_aload_n dc_Clock_years_84 rfl rfl ?_
    refine RO_getR (b := 98) gf_Clock_67 lk_0 rfl dc_Clock_years_85 ?_
    refine RO_callVi (As := []) (rest := []) mi_Walk_costs mv_Walk_costs ml_Clock_212 lk_98 (Nat.le_of_ble_eq_true rfl) rfl (Nat.le_of_ble_eq_true rfl) (fun _ => rfl) dc_Clock_years_88 (fun rq mq hq => pf_Walk_costs   m5 hq) (fun r6 m7 => ?_)
    refine RO_istore dc_Clock_years_91 (Nat.le_of_ble_eq_true rfl) ?_
    refine RO_iload_n dc_Clock_years_93 rfl rfl ?_
    refine RO_if_ne (tgt := 107) dc_Clock_years_94 rfl ?_ ?_
    · refine RO_iload dc_Clock_years_97 rfl ?_
      refine RO_iload dc_Clock_years_99 rfl ?_
      refine RO_iadd dc_Clock_years_101 ?_
      refine RO_bnT (fun x8 => ?_)
      refine RO_istore dc_Clock_years_102 (Nat.le_of_ble_eq_true rfl) ?_
      refine RO_goto (tgt := 134) dc_Clock_years_104 rfl ?_
      refine RO_sub ?_ (rb_Clock_years_134 p1 p2 p3 k59 H59 x8 v5 r6 m7)
      exact ⟨rfl, rfl, rfl, rfl, rfl, rfl, trivial⟩
    · refine RO_iload dc_Clock_years_107 rfl ?_
      refine RO_iload_n dc_Clock_years_109 rfl rfl ?_
      refine RO_iconst dc_Clock_years_110 ?_
      refine RO_icmp_ne (tgt := 124) dc_Clock_years_111 rfl ?_ ?_
      · refine RO_aload_n dc_Clock_years_114 rfl rfl ?_
        refine RO_getR (b := 98) gf_Clock_67 lk_0 rfl dc_Clock_years_115 ?_
        refine RO_callVi (As := []) (rest := [vi v4]) mi_Walk_missing mv_Walk_missing ml_Clock_236 lk_98 (Nat.le_of_ble_eq_true rfl) rfl (Nat.le_of_ble_eq_true rfl) (fun _ => rfl) dc_Clock_years_118 (fun rq mq hq => pf_Walk_missing   m7 hq) (fun r9 m10 => ?_)
        refine RO_goto (tgt := 131) dc_Clock_years_121 rfl ?_
        refine RO_sub ?_ (rb_Clock_years_131 p1 p2 p3 k59 H59 v5 r6 v4 r9 m10)
        exact ⟨rfl, rfl, rfl, rfl, rfl, trivial⟩
      · refine RO_aload_n dc_Clock_years_124 rfl rfl ?_
        refine RO_getR (b := 98) gf_Clock_67 lk_0 rfl dc_Clock_years_125 ?_
        refine RO_callVi (As := []) (rest := [vi v4]) mi_Walk_meetings mv_Walk_meetings ml_Clock_322 lk_98 (Nat.le_of_ble_eq_true rfl) rfl (Nat.le_of_ble_eq_true rfl) (fun _ => rfl) dc_Clock_years_128 (fun rq mq hq => pf_Walk_meetings   m7 hq) (fun r11 m12 => ?_)
        refine RO_sub ?_ (rb_Clock_years_131 p1 p2 p3 k59 H59 v5 r6 v4 r11 m12)
        exact ⟨rfl, rfl, rfl, rfl, rfl, trivial⟩
  · refine RO_iload dc_Clock_years_149 rfl ?_
    exact RO_iret rfl dc_Clock_years_151
def lp_Clock_years_59 (p1 : Int) (p2 : Int) (p3 : Int)  : Nat → Int → Int → Mm → Res
  | 0 => fun _ _ _ => none
  | n + 1 => bo_Clock_years_59 p1 p2 p3  (lp_Clock_years_59 p1 p2 p3  n)
theorem rp_Clock_years_59 {E : EE} (p1 : Int) (p2 : Int) (p3 : Int)    : ∀ (n : Nat) (v4 : Int) (v5 : Int)  (mem : Mm), RO E mt_Clock_years (lp_Clock_years_59 p1 p2 p3  n v4 v5 mem) 59 [(0, rf 0), (2, vi p2), (3, vi p3), (4, vi v4), (5, vi v5)] [] mem := by
  intro n
  induction n with
  | zero => intro v4 v5  mem; exact RO_none
  | succ n ih => intro v4 v5  mem; exact rb_Clock_years_59 p1 p2 p3   (lp_Clock_years_59 p1 p2 p3  n)  ih v4 v5  mem
def fn_Clock_years (p1 : Int) (p2 : Int) (p3 : Int) (mem : Mm) : Res := if p1 < 0 then (some ((-1), mem)) else (if 9999 < p1 then (some ((-1), mem)) else (if p2 < 1 then (some ((-1), mem)) else (if 20 < p2 then (some ((-1), mem)) else (if p3 < 0 then (some ((-1), mem)) else (if 2 < p3 then (some ((-1), mem)) else (bn (mst mem 0 18 p1) fun m1 => bd (fn_State_copy 95 83 m1) fun r2 m3 => lp_Clock_years_59 p1 p2 p3 FU 0 0 m3))))))
set_option maxHeartbeats 4000000 in
theorem pf_Clock_years {E : EE} (p1 : Int) (p2 : Int) (p3 : Int)  (mem : Mm) {r : Int} {mem9 : Mm} (h : fn_Clock_years p1 p2 p3 mem = some (r, mem9)) : MetX E 6 yn_Clock_years cd_Clock_years 7 (some .int) [rf 0, vi p1, vi p2, vi p3] mem r mem9 := by
  refine RO_met (y := yn_Clock_years) (by decide +kernel) (Nat.le_of_ble_eq_true rfl) ?_ h
  show RO E mt_Clock_years (fn_Clock_years p1 p2 p3 mem) 0 [(0, rf 0), (1, vi p1), (2, vi p2), (3, vi p3)] [] mem
  unfold fn_Clock_years
  refine RO_iload_n dc_Clock_years_0 rfl rfl ?_
  refine RO_if_lt (tgt := 31) dc_Clock_years_1 rfl ?_ ?_
  · refine RO_iconst dc_Clock_years_31 ?_
    exact RO_iret rfl dc_Clock_years_32
  · refine RO_iload_n dc_Clock_years_4 rfl rfl ?_
    refine RO_sipush dc_Clock_years_5 ?_
    refine RO_icmp_gt (tgt := 31) dc_Clock_years_8 rfl ?_ ?_
    · refine RO_iconst dc_Clock_years_31 ?_
      exact RO_iret rfl dc_Clock_years_32
    · refine RO_iload_n dc_Clock_years_11 rfl rfl ?_
      refine RO_iconst dc_Clock_years_12 ?_
      refine RO_icmp_lt (tgt := 31) dc_Clock_years_13 rfl ?_ ?_
      · refine RO_iconst dc_Clock_years_31 ?_
        exact RO_iret rfl dc_Clock_years_32
      · refine RO_iload_n dc_Clock_years_16 rfl rfl ?_
        refine RO_bipush dc_Clock_years_17 ?_
        refine RO_icmp_gt (tgt := 31) dc_Clock_years_19 rfl ?_ ?_
        · refine RO_iconst dc_Clock_years_31 ?_
          exact RO_iret rfl dc_Clock_years_32
        · refine RO_iload_n dc_Clock_years_22 rfl rfl ?_
          refine RO_if_lt (tgt := 31) dc_Clock_years_23 rfl ?_ ?_
          · refine RO_iconst dc_Clock_years_31 ?_
            exact RO_iret rfl dc_Clock_years_32
          · refine RO_iload_n dc_Clock_years_26 rfl rfl ?_
            refine RO_iconst dc_Clock_years_27 ?_
            refine RO_icmp_le (tgt := 33) dc_Clock_years_28 rfl ?_ ?_
            · refine RO_iconst dc_Clock_years_31 ?_
              exact RO_iret rfl dc_Clock_years_32
            · refine RO_iconst dc_Clock_years_33 ?_
              refine RO_istore dc_Clock_years_34 (Nat.le_of_ble_eq_true rfl) ?_
              refine RO_aload_n dc_Clock_years_36 rfl rfl ?_
              refine RO_iload_n dc_Clock_years_37 rfl rfl ?_
              refine RO_i2l dc_Clock_years_38 ?_
              refine RO_putL gp_Clock_315 lk_0 dc_Clock_years_39 ?_
              refine RO_bnM (fun m1 => ?_)
              refine RO_aload_n dc_Clock_years_42 rfl rfl ?_
              refine RO_getR (b := 95) gf_Clock_60 lk_0 rfl dc_Clock_years_43 ?_
              refine RO_aload_n dc_Clock_years_46 rfl rfl ?_
              refine RO_getR (b := 82) gf_Clock_45 lk_0 rfl dc_Clock_years_47 ?_
              refine RO_getR (b := 83) gf_Clock_143 lk_82 rfl dc_Clock_years_50 ?_
              refine RO_callVv (As := [rf 83]) (rest := []) mi_State_copy mv_State_copy ml_Clock_222 lk_95 (Nat.le_of_ble_eq_true rfl) rfl (Nat.le_of_ble_eq_true rfl) dc_Clock_years_53 (fun rq mq hq => pf_State_copy 95 83 lk_95 lk_83 m1 hq) (fun r2 m3 => ?_)
              refine RO_iconst dc_Clock_years_56 ?_
              refine RO_istore dc_Clock_years_57 (Nat.le_of_ble_eq_true rfl) ?_
              refine RO_sub ?_ (rp_Clock_years_59 p1 p2 p3 FU 0 0 m3)
              exact ⟨rfl, rfl, rfl, rfl, rfl, trivial⟩
def fn_HillsReader_canBegin (p1 : Int) (mem : Mm) : Res := if p1 < 6 then (bd (fn_Tape_step  mem) fun r1 m2 => some (1, m2)) else (bd (fn_Tape_wrong 5 mem) fun r3 m4 => if r3 = 0 ∨ r3 = 1 then some (r3, m4) else none)
set_option maxHeartbeats 4000000 in
theorem pf_HillsReader_canBegin {E : EE} (p1 : Int)  (mem : Mm) {r : Int} {mem9 : Mm} (h : fn_HillsReader_canBegin p1 mem = some (r, mem9)) : MetX E 6 yn_HillsReader_canBegin cd_HillsReader_canBegin 2 (some .boolean) [rf 3, vi p1] mem r mem9 := by
  refine RO_met (y := yn_HillsReader_canBegin) (by decide +kernel) (Nat.le_of_ble_eq_true rfl) ?_ h
  show RO E mt_HillsReader_canBegin (fn_HillsReader_canBegin p1 mem) 0 [(0, rf 3), (1, vi p1)] [] mem
  unfold fn_HillsReader_canBegin
  refine RO_iload_n dc_HillsReader_canBegin_0 rfl rfl ?_
  refine RO_bipush dc_HillsReader_canBegin_1 ?_
  refine RO_icmp_lt (tgt := 15) dc_HillsReader_canBegin_3 rfl ?_ ?_
  · refine RO_aload_n dc_HillsReader_canBegin_15 rfl rfl ?_
    refine RO_getR (b := 1) gf_HillsReader_9 lk_3 rfl dc_HillsReader_canBegin_16 ?_
    refine RO_callVv (As := []) (rest := []) mi_Tape_step mv_Tape_step ml_HillsReader_110 lk_1 (Nat.le_of_ble_eq_true rfl) rfl (Nat.le_of_ble_eq_true rfl) dc_HillsReader_canBegin_19 (fun rq mq hq => pf_Tape_step   mem hq) (fun r1 m2 => ?_)
    refine RO_iconst dc_HillsReader_canBegin_22 ?_
    exact RO_zret rfl (Or.inr rfl) dc_HillsReader_canBegin_23
  · refine RO_aload_n dc_HillsReader_canBegin_6 rfl rfl ?_
    refine RO_getR (b := 1) gf_HillsReader_9 lk_3 rfl dc_HillsReader_canBegin_7 ?_
    refine RO_iconst dc_HillsReader_canBegin_10 ?_
    refine RO_callVi (As := [vi 5]) (rest := []) mi_Tape_wrong mv_Tape_wrong ml_HillsReader_100 lk_1 (Nat.le_of_ble_eq_true rfl) rfl (Nat.le_of_ble_eq_true rfl) (fun _ => rfl) dc_HillsReader_canBegin_11 (fun rq mq hq => pf_Tape_wrong 5  mem hq) (fun r3 m4 => ?_)
    refine RO_chk (fun hz5 => ?_)
    exact RO_zret rfl hz5 dc_HillsReader_canBegin_14
def fn_HillsReader_readNewName (p1 : Nat) (p2 : Int) (mem : Mm) : Res := bd (fn_Tape_isName  mem) fun r1 m2 => if r1 = 0 then (bd (fn_Tape_wrong 1 m2) fun r3 m4 => if r3 = 0 ∨ r3 = 1 then some (r3, m4) else none) else (if isK 0 (m2 3 1) = true then bd (fn_Hills_isTold (m2 3 1).toNat (m2 1 3) m2) fun r7 m8 => if r7 = 0 then (if 0 ≤ p2 ∧ p2 < 6 then bn (mst m8 p1 p2.toNat (m8 1 3)) fun m10 => bd (fn_Tape_step  m10) fun r11 m12 => some (1, m12) else none) else (bd (fn_Tape_wrong 3 m8) fun r13 m14 => if r13 = 0 ∨ r13 = 1 then some (r13, m14) else none) else none)
set_option maxHeartbeats 4000000 in
theorem pf_HillsReader_readNewName {E : EE} (p1 : Nat) (p2 : Int) (hk_p1 : ly_k p1 = (13, 6)) (mem : Mm) {r : Int} {mem9 : Mm} (h : fn_HillsReader_readNewName p1 p2 mem = some (r, mem9)) : MetX E 6 yn_HillsReader_readNewName cd_HillsReader_readNewName 3 (some .boolean) [rf 3, rf p1, vi p2] mem r mem9 := by
  refine RO_met (y := yn_HillsReader_readNewName) (by decide +kernel) (Nat.le_of_ble_eq_true rfl) ?_ h
  show RO E mt_HillsReader_readNewName (fn_HillsReader_readNewName p1 p2 mem) 0 [(0, rf 3), (1, rf p1), (2, vi p2)] [] mem
  unfold fn_HillsReader_readNewName
  refine RO_aload_n dc_HillsReader_readNewName_0 rfl rfl ?_
  refine RO_getR (b := 1) gf_HillsReader_9 lk_3 rfl dc_HillsReader_readNewName_1 ?_
  refine RO_callVi (As := []) (rest := []) mi_Tape_isName mv_Tape_isName ml_HillsReader_113 lk_1 (Nat.le_of_ble_eq_true rfl) rfl (Nat.le_of_ble_eq_true rfl) (fun _ => rfl) dc_HillsReader_readNewName_4 (fun rq mq hq => pf_Tape_isName   mem hq) (fun r1 m2 => ?_)
  refine RO_if_ne (tgt := 19) dc_HillsReader_readNewName_7 rfl ?_ ?_
  · refine RO_aload_n dc_HillsReader_readNewName_10 rfl rfl ?_
    refine RO_getR (b := 1) gf_HillsReader_9 lk_3 rfl dc_HillsReader_readNewName_11 ?_
    refine RO_iconst dc_HillsReader_readNewName_14 ?_
    refine RO_callVi (As := [vi 1]) (rest := []) mi_Tape_wrong mv_Tape_wrong ml_HillsReader_100 lk_1 (Nat.le_of_ble_eq_true rfl) rfl (Nat.le_of_ble_eq_true rfl) (fun _ => rfl) dc_HillsReader_readNewName_15 (fun rq mq hq => pf_Tape_wrong 1  m2 hq) (fun r3 m4 => ?_)
    refine RO_chk (fun hz5 => ?_)
    exact RO_zret rfl hz5 dc_HillsReader_readNewName_18
  · refine RO_aload_n dc_HillsReader_readNewName_19 rfl rfl ?_
    refine RO_chk (fun hz6 => ?_)
    refine RO_getM gf_HillsReader_15 lk_3 (isK_0 hz6) dc_HillsReader_readNewName_20 ?_
    refine RO_aload_n dc_HillsReader_readNewName_23 rfl rfl ?_
    refine RO_getR (b := 1) gf_HillsReader_9 lk_3 rfl dc_HillsReader_readNewName_24 ?_
    refine RO_getL gf_HillsReader_116 lk_1 dc_HillsReader_readNewName_27 ?_
    refine RO_callVi (As := [vl (m2 1 3)]) (rest := []) mi_Hills_isTold mv_Hills_isTold ml_HillsReader_120 (kd_0 hz6) (Nat.le_of_ble_eq_true rfl) rfl (Nat.le_of_ble_eq_true rfl) (fun _ => rfl) dc_HillsReader_readNewName_30 (fun rq mq hq => pf_Hills_isTold (m2 3 1).toNat (m2 1 3) (kd_0 hz6) m2 hq) (fun r7 m8 => ?_)
    refine RO_if_eq (tgt := 45) dc_HillsReader_readNewName_33 rfl ?_ ?_
    · refine RO_aload_n dc_HillsReader_readNewName_45 rfl rfl ?_
      refine RO_iload_n dc_HillsReader_readNewName_46 rfl rfl ?_
      refine RO_aload_n dc_HillsReader_readNewName_47 rfl rfl ?_
      refine RO_getR (b := 1) gf_HillsReader_9 lk_3 rfl dc_HillsReader_readNewName_48 ?_
      refine RO_getL gf_HillsReader_116 lk_1 dc_HillsReader_readNewName_51 ?_
      refine RO_chk (fun hi9 => ?_)
      refine RO_lst hk_p1 hi9 dc_HillsReader_readNewName_54 ?_
      refine RO_bnM (fun m10 => ?_)
      refine RO_aload_n dc_HillsReader_readNewName_55 rfl rfl ?_
      refine RO_getR (b := 1) gf_HillsReader_9 lk_3 rfl dc_HillsReader_readNewName_56 ?_
      refine RO_callVv (As := []) (rest := []) mi_Tape_step mv_Tape_step ml_HillsReader_110 lk_1 (Nat.le_of_ble_eq_true rfl) rfl (Nat.le_of_ble_eq_true rfl) dc_HillsReader_readNewName_59 (fun rq mq hq => pf_Tape_step   m10 hq) (fun r11 m12 => ?_)
      refine RO_iconst dc_HillsReader_readNewName_62 ?_
      exact RO_zret rfl (Or.inr rfl) dc_HillsReader_readNewName_63
    · refine RO_aload_n dc_HillsReader_readNewName_36 rfl rfl ?_
      refine RO_getR (b := 1) gf_HillsReader_9 lk_3 rfl dc_HillsReader_readNewName_37 ?_
      refine RO_iconst dc_HillsReader_readNewName_40 ?_
      refine RO_callVi (As := [vi 3]) (rest := []) mi_Tape_wrong mv_Tape_wrong ml_HillsReader_100 lk_1 (Nat.le_of_ble_eq_true rfl) rfl (Nat.le_of_ble_eq_true rfl) (fun _ => rfl) dc_HillsReader_readNewName_41 (fun rq mq hq => pf_Tape_wrong 3  m8 hq) (fun r13 m14 => ?_)
      refine RO_chk (fun hz15 => ?_)
      exact RO_zret rfl hz15 dc_HillsReader_readNewName_44
def bo_HillsReader_takeKind_53   (s0 : Int) (mem : Mm) : Res := if s0 = (-1) then (bd (fn_Tape_wrong 1 mem) fun r1 m2 => some (s0, m2)) else (bd (fn_Tape_step  mem) fun r3 m4 => some (s0, m4))
set_option maxHeartbeats 4000000 in
theorem rb_HillsReader_takeKind_53 {E : EE}     (s0 : Int)  (mem : Mm) : RO E mt_HillsReader_takeKind (bo_HillsReader_takeKind_53   s0 mem) 53 [(0, rf 3)] [vi s0] mem := by
  unfold bo_HillsReader_takeKind_53
  refine RO_istore_n dc_HillsReader_takeKind_53 rfl (Nat.le_of_ble_eq_true rfl) ?_
  refine RO_iload_n dc_HillsReader_takeKind_54 rfl rfl ?_
  refine RO_iconst dc_HillsReader_takeKind_55 ?_
  refine RO_icmp_ne (tgt := 71) dc_HillsReader_takeKind_56 rfl ?_ ?_
  · refine RO_aload_n dc_HillsReader_takeKind_59 rfl rfl ?_
    refine RO_getR (b := 1) gf_HillsReader_9 lk_3 rfl dc_HillsReader_takeKind_60 ?_
    refine RO_iconst dc_HillsReader_takeKind_63 ?_
    refine RO_callVi (As := [vi 1]) (rest := []) mi_Tape_wrong mv_Tape_wrong ml_HillsReader_100 lk_1 (Nat.le_of_ble_eq_true rfl) rfl (Nat.le_of_ble_eq_true rfl) (fun _ => rfl) dc_HillsReader_takeKind_64 (fun rq mq hq => pf_Tape_wrong 1  mem hq) (fun r1 m2 => ?_)
    refine RO_pop dc_HillsReader_takeKind_67 (nt0 _) ?_
    refine RO_goto (tgt := 78) dc_HillsReader_takeKind_68 rfl ?_
    refine RO_iload_n dc_HillsReader_takeKind_78 rfl rfl ?_
    exact RO_iret rfl dc_HillsReader_takeKind_79
  · refine RO_aload_n dc_HillsReader_takeKind_71 rfl rfl ?_
    refine RO_getR (b := 1) gf_HillsReader_9 lk_3 rfl dc_HillsReader_takeKind_72 ?_
    refine RO_callVv (As := []) (rest := []) mi_Tape_step mv_Tape_step ml_HillsReader_110 lk_1 (Nat.le_of_ble_eq_true rfl) rfl (Nat.le_of_ble_eq_true rfl) dc_HillsReader_takeKind_75 (fun rq mq hq => pf_Tape_step   mem hq) (fun r3 m4 => ?_)
    refine RO_iload_n dc_HillsReader_takeKind_78 rfl rfl ?_
    exact RO_iret rfl dc_HillsReader_takeKind_79
def fn_HillsReader_takeKind  (mem : Mm) : Res := if (mem 1 2) = (-21) then (bo_HillsReader_takeKind_53 0 mem) else (if (mem 1 2) = (-22) then (bo_HillsReader_takeKind_53 1 mem) else (if (mem 1 2) = (-23) then (bo_HillsReader_takeKind_53 2 mem) else (if (mem 1 2) = (-24) then (bo_HillsReader_takeKind_53 3 mem) else (bo_HillsReader_takeKind_53 (-1) mem))))
set_option maxHeartbeats 4000000 in
theorem pf_HillsReader_takeKind {E : EE}   (mem : Mm) {r : Int} {mem9 : Mm} (h : fn_HillsReader_takeKind  mem = some (r, mem9)) : MetX E 6 yn_HillsReader_takeKind cd_HillsReader_takeKind 3 (some .int) [rf 3] mem r mem9 := by
  refine RO_met (y := yn_HillsReader_takeKind) (by decide +kernel) (Nat.le_of_ble_eq_true rfl) ?_ h
  show RO E mt_HillsReader_takeKind (fn_HillsReader_takeKind  mem) 0 [(0, rf 3)] [] mem
  unfold fn_HillsReader_takeKind
  refine RO_aload_n dc_HillsReader_takeKind_0 rfl rfl ?_
  refine RO_getR (b := 1) gf_HillsReader_9 lk_3 rfl dc_HillsReader_takeKind_1 ?_
  refine RO_getW gf_HillsReader_37 lk_1 dc_HillsReader_takeKind_4 ?_
  refine RO_wstore_n dc_HillsReader_takeKind_7 rfl (Nat.le_of_ble_eq_true rfl) ?_
  refine RO_wload_n dc_HillsReader_takeKind_8 rfl rfl ?_
  refine RO_getsW 19 (by decide) (x := (-21)) (by decide) gs_HillsReader_201 dc_HillsReader_takeKind_9 ?_
  refine RO_acmp_ne (tgt := 19) dc_HillsReader_takeKind_12 rfl ?_ ?_
  · refine RO_iconst dc_HillsReader_takeKind_15 ?_
    refine RO_goto (tgt := 53) dc_HillsReader_takeKind_16 rfl ?_
    refine RO_sub ?_ (rb_HillsReader_takeKind_53 0 mem)
    exact ⟨rfl, trivial⟩
  · refine RO_wload_n dc_HillsReader_takeKind_19 rfl rfl ?_
    refine RO_getsW 20 (by decide) (x := (-22)) (by decide) gs_HillsReader_204 dc_HillsReader_takeKind_20 ?_
    refine RO_acmp_ne (tgt := 30) dc_HillsReader_takeKind_23 rfl ?_ ?_
    · refine RO_iconst dc_HillsReader_takeKind_26 ?_
      refine RO_goto (tgt := 53) dc_HillsReader_takeKind_27 rfl ?_
      refine RO_sub ?_ (rb_HillsReader_takeKind_53 1 mem)
      exact ⟨rfl, trivial⟩
    · refine RO_wload_n dc_HillsReader_takeKind_30 rfl rfl ?_
      refine RO_getsW 21 (by decide) (x := (-23)) (by decide) gs_HillsReader_207 dc_HillsReader_takeKind_31 ?_
      refine RO_acmp_ne (tgt := 41) dc_HillsReader_takeKind_34 rfl ?_ ?_
      · refine RO_iconst dc_HillsReader_takeKind_37 ?_
        refine RO_goto (tgt := 53) dc_HillsReader_takeKind_38 rfl ?_
        refine RO_sub ?_ (rb_HillsReader_takeKind_53 2 mem)
        exact ⟨rfl, trivial⟩
      · refine RO_wload_n dc_HillsReader_takeKind_41 rfl rfl ?_
        refine RO_getsW 22 (by decide) (x := (-24)) (by decide) gs_HillsReader_210 dc_HillsReader_takeKind_42 ?_
        refine RO_acmp_ne (tgt := 52) dc_HillsReader_takeKind_45 rfl ?_ ?_
        · refine RO_iconst dc_HillsReader_takeKind_48 ?_
          refine RO_goto (tgt := 53) dc_HillsReader_takeKind_49 rfl ?_
          refine RO_sub ?_ (rb_HillsReader_takeKind_53 3 mem)
          exact ⟨rfl, trivial⟩
        · refine RO_iconst dc_HillsReader_takeKind_52 ?_
          refine RO_sub ?_ (rb_HillsReader_takeKind_53 (-1) mem)
          exact ⟨rfl, trivial⟩
def bo_HillsReader_readRound_68 (p1 : Nat)   (mem : Mm) : Res := bd (fn_Tape_wrong 5 mem) fun r1 m2 => if r1 = 0 ∨ r1 = 1 then some (r1, m2) else none
set_option maxHeartbeats 4000000 in
theorem rb_HillsReader_readRound_68 {E : EE} (p1 : Nat) (hk_p1 : ly_k p1 = (9, 8))     (mem : Mm) : RO E mt_HillsReader_readRound (bo_HillsReader_readRound_68 p1   mem) 68 [(0, rf 3)] [] mem := by
  unfold bo_HillsReader_readRound_68
  refine RO_aload_n dc_HillsReader_readRound_68 rfl rfl ?_
  refine RO_getR (b := 1) gf_HillsReader_9 lk_3 rfl dc_HillsReader_readRound_69 ?_
  refine RO_iconst dc_HillsReader_readRound_72 ?_
  refine RO_callVi (As := [vi 5]) (rest := []) mi_Tape_wrong mv_Tape_wrong ml_HillsReader_100 lk_1 (Nat.le_of_ble_eq_true rfl) rfl (Nat.le_of_ble_eq_true rfl) (fun _ => rfl) dc_HillsReader_readRound_73 (fun rq mq hq => pf_Tape_wrong 5  mem hq) (fun r1 m2 => ?_)
  refine RO_chk (fun hz3 => ?_)
  exact RO_zret rfl hz3 dc_HillsReader_readRound_76
def bo_HillsReader_readRound_63 (p1 : Nat) (k2 : Int → Mm → Res) (v2 : Int) (v3 : Int) (mem : Mm) : Res := if v2 < 4 then (if 0 ≤ v2 ∧ v2 < 4 then bn (mst mem (p1 + 1) v2.toNat v3) fun m2 => bn (mst m2 p1 4 (w32 ((m2 p1 4) + 1))) fun m3 => bd (fn_Tape_step  m3) fun r4 m5 => k2 (w32 (v2 + 1)) m5 else none) else (bo_HillsReader_readRound_68 p1 mem)
set_option maxHeartbeats 4000000 in
theorem rb_HillsReader_readRound_63 {E : EE} (p1 : Nat) (hk_p1 : ly_k p1 = (9, 8)) (k2 : Int → Mm → Res) (H2 : ∀ (v2 : Int)  (mem : Mm), RO E mt_HillsReader_readRound (k2 v2 mem) 2 [(0, rf 3), (1, rf p1), (2, vi v2)] [] mem) (v2 : Int) (v3 : Int)  (mem : Mm) : RO E mt_HillsReader_readRound (bo_HillsReader_readRound_63 p1 k2 v2 v3 mem) 63 [(0, rf 3), (1, rf p1), (2, vi v2), (3, vi v3)] [] mem := by
  unfold bo_HillsReader_readRound_63
  refine RO_iload_n dc_HillsReader_readRound_63 rfl rfl ?_
  refine RO_iconst dc_HillsReader_readRound_64 ?_
  refine RO_icmp_lt (tgt := 77) dc_HillsReader_readRound_65 rfl ?_ ?_
  · refine RO_aload_n dc_HillsReader_readRound_77 rfl rfl ?_
    refine RO_getR (b := (p1 + 1)) gf_HillsReader_216 hk_p1 (by omega) dc_HillsReader_readRound_78 ?_
    refine RO_iload_n dc_HillsReader_readRound_81 rfl rfl ?_
    refine RO_iload_n dc_HillsReader_readRound_82 rfl rfl ?_
    refine RO_chk (fun hi1 => ?_)
    refine RO_is (cl_9_5 hk_p1) hi1 dc_HillsReader_readRound_83 ?_
    refine RO_bnM (fun m2 => ?_)
    refine RO_aload_n dc_HillsReader_readRound_84 rfl rfl ?_
    refine RO_dup dc_HillsReader_readRound_85 (nt2 _) ?_
    refine RO_getI gf_HillsReader_219 hk_p1 dc_HillsReader_readRound_86 ?_
    refine RO_iconst dc_HillsReader_readRound_89 ?_
    refine RO_iadd dc_HillsReader_readRound_90 ?_
    refine RO_putI gp_HillsReader_219 hk_p1 dc_HillsReader_readRound_91 ?_
    refine RO_bnM (fun m3 => ?_)
    refine RO_aload_n dc_HillsReader_readRound_94 rfl rfl ?_
    refine RO_getR (b := 1) gf_HillsReader_9 lk_3 rfl dc_HillsReader_readRound_95 ?_
    refine RO_callVv (As := []) (rest := []) mi_Tape_step mv_Tape_step ml_HillsReader_110 lk_1 (Nat.le_of_ble_eq_true rfl) rfl (Nat.le_of_ble_eq_true rfl) dc_HillsReader_readRound_98 (fun rq mq hq => pf_Tape_step   m3 hq) (fun r4 m5 => ?_)
    refine RO_iinc dc_HillsReader_readRound_101 rfl (Nat.le_of_ble_eq_true rfl) ?_
    refine RO_goto (tgt := 2) dc_HillsReader_readRound_104 rfl ?_
    refine RO_sub ?_ (H2 (w32 (v2 + 1)) m5)
    exact ⟨rfl, rfl, rfl, trivial⟩
  · refine RO_sub ?_ (rb_HillsReader_readRound_68 p1 hk_p1 mem)
    exact ⟨rfl, trivial⟩
def bo_HillsReader_readRound_54 (p1 : Nat)   (mem : Mm) : Res := bd (fn_Tape_wrong 3 mem) fun r1 m2 => if r1 = 0 ∨ r1 = 1 then some (r1, m2) else none
set_option maxHeartbeats 4000000 in
theorem rb_HillsReader_readRound_54 {E : EE} (p1 : Nat) (hk_p1 : ly_k p1 = (9, 8))     (mem : Mm) : RO E mt_HillsReader_readRound (bo_HillsReader_readRound_54 p1   mem) 54 [(0, rf 3)] [] mem := by
  unfold bo_HillsReader_readRound_54
  refine RO_aload_n dc_HillsReader_readRound_54 rfl rfl ?_
  refine RO_getR (b := 1) gf_HillsReader_9 lk_3 rfl dc_HillsReader_readRound_55 ?_
  refine RO_iconst dc_HillsReader_readRound_58 ?_
  refine RO_callVi (As := [vi 3]) (rest := []) mi_Tape_wrong mv_Tape_wrong ml_HillsReader_100 lk_1 (Nat.le_of_ble_eq_true rfl) rfl (Nat.le_of_ble_eq_true rfl) (fun _ => rfl) dc_HillsReader_readRound_59 (fun rq mq hq => pf_Tape_wrong 3  mem hq) (fun r1 m2 => ?_)
  refine RO_chk (fun hz3 => ?_)
  exact RO_zret rfl hz3 dc_HillsReader_readRound_62
def bo_HillsReader_readRound_26 (p1 : Nat) (k2 : Int → Mm → Res) (v2 : Int) (mem : Mm) : Res := bd (fn_HillsReader_whichPlace  mem) fun r1 m2 => if r1 = (-1) then (some (0, m2)) else (if 0 < v2 then (if 0 ≤ w32 (v2 - 1) ∧ w32 (v2 - 1) < 4 then if (m2 (p1 + 1) (w32 (v2 - 1)).toNat) = r1 then (bo_HillsReader_readRound_54 p1 m2) else (bo_HillsReader_readRound_63 p1 k2 v2 r1 m2) else none) else (bo_HillsReader_readRound_63 p1 k2 v2 r1 m2))
set_option maxHeartbeats 4000000 in
theorem rb_HillsReader_readRound_26 {E : EE} (p1 : Nat) (hk_p1 : ly_k p1 = (9, 8)) (k2 : Int → Mm → Res) (H2 : ∀ (v2 : Int)  (mem : Mm), RO E mt_HillsReader_readRound (k2 v2 mem) 2 [(0, rf 3), (1, rf p1), (2, vi v2)] [] mem) (v2 : Int)  (mem : Mm) : RO E mt_HillsReader_readRound (bo_HillsReader_readRound_26 p1 k2 v2 mem) 26 [(0, rf 3), (1, rf p1), (2, vi v2)] [] mem := by
  unfold bo_HillsReader_readRound_26
  refine RO_aload_n dc_HillsReader_readRound_26 rfl rfl ?_
  refine RO_callVi (As := []) (rest := []) mi_HillsReader_whichPlace mv_HillsReader_whichPlace ml_HillsReader_149 lk_3 (Nat.le_of_ble_eq_true rfl) rfl (Nat.le_of_ble_eq_true rfl) (fun _ => rfl) dc_HillsReader_readRound_27 (fun rq mq hq => pf_HillsReader_whichPlace   mem hq) (fun r1 m2 => ?_)
  refine RO_istore_n dc_HillsReader_readRound_30 rfl (Nat.le_of_ble_eq_true rfl) ?_
  refine RO_iload_n dc_HillsReader_readRound_31 rfl rfl ?_
  refine RO_iconst dc_HillsReader_readRound_32 ?_
  refine RO_icmp_ne (tgt := 38) dc_HillsReader_readRound_33 rfl ?_ ?_
  · refine RO_iconst dc_HillsReader_readRound_36 ?_
    exact RO_zret rfl (Or.inl rfl) dc_HillsReader_readRound_37
  · refine RO_iload_n dc_HillsReader_readRound_38 rfl rfl ?_
    refine RO_if_le (tgt := 63) dc_HillsReader_readRound_39 rfl ?_ ?_
    · refine RO_aload_n dc_HillsReader_readRound_42 rfl rfl ?_
      refine RO_getR (b := (p1 + 1)) gf_HillsReader_216 hk_p1 (by omega) dc_HillsReader_readRound_43 ?_
      refine RO_iload_n dc_HillsReader_readRound_46 rfl rfl ?_
      refine RO_iconst dc_HillsReader_readRound_47 ?_
      refine RO_isub dc_HillsReader_readRound_48 ?_
      refine RO_chk (fun hi3 => ?_)
      refine RO_ia (cl_9_5 hk_p1) hi3 dc_HillsReader_readRound_49 ?_
      refine RO_iload_n dc_HillsReader_readRound_50 rfl rfl ?_
      refine RO_icmp_ne (tgt := 63) dc_HillsReader_readRound_51 rfl ?_ ?_
      · refine RO_sub ?_ (rb_HillsReader_readRound_54 p1 hk_p1 m2)
        exact ⟨rfl, trivial⟩
      · refine RO_sub ?_ (rb_HillsReader_readRound_63 p1 hk_p1 k2 H2 v2 r1 m2)
        exact ⟨rfl, rfl, rfl, rfl, trivial⟩
    · refine RO_sub ?_ (rb_HillsReader_readRound_63 p1 hk_p1 k2 H2 v2 r1 m2)
      exact ⟨rfl, rfl, rfl, rfl, trivial⟩
def bo_HillsReader_readRound_2 (p1 : Nat) (k2 : Int → Mm → Res) (v2 : Int) (mem : Mm) : Res := if 4 < v2 then (some (1, mem)) else (if v2 < 2 then (bo_HillsReader_readRound_26 p1 k2 v2 mem) else (bd (fn_Tape_isSign 59 mem) fun r1 m2 => if r1 = 0 then (bo_HillsReader_readRound_26 p1 k2 v2 m2) else (some (1, m2))))
set_option maxHeartbeats 4000000 in
theorem rb_HillsReader_readRound_2 {E : EE} (p1 : Nat) (hk_p1 : ly_k p1 = (9, 8)) (k2 : Int → Mm → Res) (H2 : ∀ (v2 : Int)  (mem : Mm), RO E mt_HillsReader_readRound (k2 v2 mem) 2 [(0, rf 3), (1, rf p1), (2, vi v2)] [] mem) (v2 : Int)  (mem : Mm) : RO E mt_HillsReader_readRound (bo_HillsReader_readRound_2 p1 k2 v2 mem) 2 [(0, rf 3), (1, rf p1), (2, vi v2)] [] mem := by
  unfold bo_HillsReader_readRound_2
  refine RO_iload_n dc_HillsReader_readRound_2 rfl rfl ?_
  refine RO_iconst dc_HillsReader_readRound_3 ?_
  refine RO_icmp_gt (tgt := 107) dc_HillsReader_readRound_4 rfl ?_ ?_
  · refine RO_iconst dc_HillsReader_readRound_107 ?_
    exact RO_zret rfl (Or.inr rfl) dc_HillsReader_readRound_108
  · refine RO_iload_n dc_HillsReader_readRound_7 rfl rfl ?_
    refine RO_iconst dc_HillsReader_readRound_8 ?_
    refine RO_icmp_lt (tgt := 26) dc_HillsReader_readRound_9 rfl ?_ ?_
    · refine RO_sub ?_ (rb_HillsReader_readRound_26 p1 hk_p1 k2 H2 v2 mem)
      exact ⟨rfl, rfl, rfl, trivial⟩
    · refine RO_aload_n dc_HillsReader_readRound_12 rfl rfl ?_
      refine RO_getR (b := 1) gf_HillsReader_9 lk_3 rfl dc_HillsReader_readRound_13 ?_
      refine RO_bipush dc_HillsReader_readRound_16 ?_
      refine RO_callVi (As := [vi 59]) (rest := []) mi_Tape_isSign mv_Tape_isSign ml_HillsReader_213 lk_1 (Nat.le_of_ble_eq_true rfl) rfl (Nat.le_of_ble_eq_true rfl) (fun _ => rfl) dc_HillsReader_readRound_18 (fun rq mq hq => pf_Tape_isSign 59  mem hq) (fun r1 m2 => ?_)
      refine RO_if_eq (tgt := 26) dc_HillsReader_readRound_21 rfl ?_ ?_
      · refine RO_sub ?_ (rb_HillsReader_readRound_26 p1 hk_p1 k2 H2 v2 m2)
        exact ⟨rfl, rfl, rfl, trivial⟩
      · refine RO_iconst dc_HillsReader_readRound_24 ?_
        exact RO_zret rfl (Or.inr rfl) dc_HillsReader_readRound_25
def lp_HillsReader_readRound_2 (p1 : Nat)  : Nat → Int → Mm → Res
  | 0 => fun _ _ => none
  | n + 1 => bo_HillsReader_readRound_2 p1  (lp_HillsReader_readRound_2 p1  n)
theorem rp_HillsReader_readRound_2 {E : EE} (p1 : Nat) (hk_p1 : ly_k p1 = (9, 8))   : ∀ (n : Nat) (v2 : Int)  (mem : Mm), RO E mt_HillsReader_readRound (lp_HillsReader_readRound_2 p1  n v2 mem) 2 [(0, rf 3), (1, rf p1), (2, vi v2)] [] mem := by
  intro n
  induction n with
  | zero => intro v2  mem; exact RO_none
  | succ n ih => intro v2  mem; exact rb_HillsReader_readRound_2 p1 hk_p1  (lp_HillsReader_readRound_2 p1  n)  ih v2  mem
def fn_HillsReader_readRound (p1 : Nat) (mem : Mm) : Res := lp_HillsReader_readRound_2 p1 FU 0 mem
set_option maxHeartbeats 4000000 in
theorem pf_HillsReader_readRound {E : EE} (p1 : Nat) (hk_p1 : ly_k p1 = (9, 8)) (mem : Mm) {r : Int} {mem9 : Mm} (h : fn_HillsReader_readRound p1 mem = some (r, mem9)) : MetX E 6 yn_HillsReader_readRound cd_HillsReader_readRound 4 (some .boolean) [rf 3, rf p1] mem r mem9 := by
  refine RO_met (y := yn_HillsReader_readRound) (by decide +kernel) (Nat.le_of_ble_eq_true rfl) ?_ h
  show RO E mt_HillsReader_readRound (fn_HillsReader_readRound p1 mem) 0 [(0, rf 3), (1, rf p1)] [] mem
  unfold fn_HillsReader_readRound
  refine RO_iconst dc_HillsReader_readRound_0 ?_
  refine RO_istore_n dc_HillsReader_readRound_1 rfl (Nat.le_of_ble_eq_true rfl) ?_
  refine RO_sub ?_ (rp_HillsReader_readRound_2 p1 hk_p1 FU 0 mem)
  exact ⟨rfl, rfl, rfl, trivial⟩
def fn_Tape_open  (mem : Mm) : Res := bn (mst mem 1 1 0) fun m1 => bn (mst m1 1 8 0) fun m2 => bd (fn_Tape_step  m2) fun r3 m4 => some (0, m4)
set_option maxHeartbeats 4000000 in
theorem pf_Tape_open {E : EE}   (mem : Mm) {r : Int} {mem9 : Mm} (h : fn_Tape_open  mem = some (r, mem9)) : MetX E 6 yn_Tape_open cd_Tape_open 1 none [rf 1] mem r mem9 := by
  refine RO_met (y := yn_Tape_open) (by decide +kernel) (Nat.le_of_ble_eq_true rfl) ?_ h
  show RO E mt_Tape_open (fn_Tape_open  mem) 0 [(0, rf 1)] [] mem
  unfold fn_Tape_open
  refine RO_aload_n dc_Tape_open_0 rfl rfl ?_
  refine RO_iconst dc_Tape_open_1 ?_
  refine RO_putI gp_Tape_25 lk_1 dc_Tape_open_2 ?_
  refine RO_bnM (fun m1 => ?_)
  refine RO_aload_n dc_Tape_open_5 rfl rfl ?_
  refine RO_iconst dc_Tape_open_6 ?_
  refine RO_putI gp_Tape_28 lk_1 dc_Tape_open_7 ?_
  refine RO_bnM (fun m2 => ?_)
  refine RO_aload_n dc_Tape_open_10 rfl rfl ?_
  refine RO_callVv (As := []) (rest := []) mi_Tape_step mv_Tape_step ml_Tape_31 lk_1 (Nat.le_of_ble_eq_true rfl) rfl (Nat.le_of_ble_eq_true rfl) dc_Tape_open_11 (fun rq mq hq => pf_Tape_step   m2 hq) (fun r3 m4 => ?_)
  exact RO_vret rfl dc_Tape_open_14
def fn_Tape_take (p1 : Int) (mem : Mm) : Res := if (mem 1 2) = p1 then (bd (fn_Tape_step  mem) fun r1 m2 => some (1, m2)) else (bd (fn_Tape_wrong 1 mem) fun r3 m4 => if r3 = 0 ∨ r3 = 1 then some (r3, m4) else none)
set_option maxHeartbeats 4000000 in
theorem pf_Tape_take {E : EE} (p1 : Int)  (mem : Mm) {r : Int} {mem9 : Mm} (h : fn_Tape_take p1 mem = some (r, mem9)) : MetX E 6 yn_Tape_take cd_Tape_take 2 (some .boolean) [rf 1, vw p1] mem r mem9 := by
  refine RO_met (y := yn_Tape_take) (by decide +kernel) (Nat.le_of_ble_eq_true rfl) ?_ h
  show RO E mt_Tape_take (fn_Tape_take p1 mem) 0 [(0, rf 1), (1, vw p1)] [] mem
  unfold fn_Tape_take
  refine RO_aload_n dc_Tape_take_0 rfl rfl ?_
  refine RO_getW gf_Tape_37 lk_1 dc_Tape_take_1 ?_
  refine RO_wload_n dc_Tape_take_4 rfl rfl ?_
  refine RO_acmp_eq (tgt := 14) dc_Tape_take_5 rfl ?_ ?_
  · refine RO_aload_n dc_Tape_take_14 rfl rfl ?_
    refine RO_callVv (As := []) (rest := []) mi_Tape_step mv_Tape_step ml_Tape_31 lk_1 (Nat.le_of_ble_eq_true rfl) rfl (Nat.le_of_ble_eq_true rfl) dc_Tape_take_15 (fun rq mq hq => pf_Tape_step   mem hq) (fun r1 m2 => ?_)
    refine RO_iconst dc_Tape_take_18 ?_
    exact RO_zret rfl (Or.inr rfl) dc_Tape_take_19
  · refine RO_aload_n dc_Tape_take_8 rfl rfl ?_
    refine RO_iconst dc_Tape_take_9 ?_
    refine RO_callVi (As := [vi 1]) (rest := []) mi_Tape_wrong mv_Tape_wrong ml_Tape_84 lk_1 (Nat.le_of_ble_eq_true rfl) rfl (Nat.le_of_ble_eq_true rfl) (fun _ => rfl) dc_Tape_take_10 (fun rq mq hq => pf_Tape_wrong 1  mem hq) (fun r3 m4 => ?_)
    refine RO_chk (fun hz5 => ?_)
    exact RO_zret rfl hz5 dc_Tape_take_13
def fn_Tape_takeSign (p1 : Int) (mem : Mm) : Res := bd (fn_Tape_isSign p1 mem) fun r1 m2 => if r1 = 0 then (bd (fn_Tape_wrong 1 m2) fun r3 m4 => if r3 = 0 ∨ r3 = 1 then some (r3, m4) else none) else (bd (fn_Tape_step  m2) fun r6 m7 => some (1, m7))
set_option maxHeartbeats 4000000 in
theorem pf_Tape_takeSign {E : EE} (p1 : Int)  (mem : Mm) {r : Int} {mem9 : Mm} (h : fn_Tape_takeSign p1 mem = some (r, mem9)) : MetX E 6 yn_Tape_takeSign cd_Tape_takeSign 2 (some .boolean) [rf 1, vi p1] mem r mem9 := by
  refine RO_met (y := yn_Tape_takeSign) (by decide +kernel) (Nat.le_of_ble_eq_true rfl) ?_ h
  show RO E mt_Tape_takeSign (fn_Tape_takeSign p1 mem) 0 [(0, rf 1), (1, vi p1)] [] mem
  unfold fn_Tape_takeSign
  refine RO_aload_n dc_Tape_takeSign_0 rfl rfl ?_
  refine RO_iload_n dc_Tape_takeSign_1 rfl rfl ?_
  refine RO_callVi (As := [vi p1]) (rest := []) mi_Tape_isSign mv_Tape_isSign ml_Tape_88 lk_1 (Nat.le_of_ble_eq_true rfl) rfl (Nat.le_of_ble_eq_true rfl) (fun _ => rfl) dc_Tape_takeSign_2 (fun rq mq hq => pf_Tape_isSign p1  mem hq) (fun r1 m2 => ?_)
  refine RO_if_ne (tgt := 14) dc_Tape_takeSign_5 rfl ?_ ?_
  · refine RO_aload_n dc_Tape_takeSign_8 rfl rfl ?_
    refine RO_iconst dc_Tape_takeSign_9 ?_
    refine RO_callVi (As := [vi 1]) (rest := []) mi_Tape_wrong mv_Tape_wrong ml_Tape_84 lk_1 (Nat.le_of_ble_eq_true rfl) rfl (Nat.le_of_ble_eq_true rfl) (fun _ => rfl) dc_Tape_takeSign_10 (fun rq mq hq => pf_Tape_wrong 1  m2 hq) (fun r3 m4 => ?_)
    refine RO_chk (fun hz5 => ?_)
    exact RO_zret rfl hz5 dc_Tape_takeSign_13
  · refine RO_aload_n dc_Tape_takeSign_14 rfl rfl ?_
    refine RO_callVv (As := []) (rest := []) mi_Tape_step mv_Tape_step ml_Tape_31 lk_1 (Nat.le_of_ble_eq_true rfl) rfl (Nat.le_of_ble_eq_true rfl) dc_Tape_takeSign_15 (fun rq mq hq => pf_Tape_step   m2 hq) (fun r6 m7 => ?_)
    refine RO_iconst dc_Tape_takeSign_18 ?_
    exact RO_zret rfl (Or.inr rfl) dc_Tape_takeSign_19
def bo_Tape_takeNumber_36 (p1 : Int) (p2 : Int)  (s1 : Int) (mem : Mm) : Res := bd (fn_Tape_wrong s1 mem) fun r1 m2 => some ((-1), m2)
set_option maxHeartbeats 4000000 in
theorem rb_Tape_takeNumber_36 {E : EE} (p1 : Int) (p2 : Int)    (s1 : Int)  (mem : Mm) : RO E mt_Tape_takeNumber (bo_Tape_takeNumber_36 p1 p2  s1 mem) 36 [] [vi s1, rf 1] mem := by
  unfold bo_Tape_takeNumber_36
  refine RO_callVi (As := [vi s1]) (rest := []) mi_Tape_wrong mv_Tape_wrong ml_Tape_84 lk_1 (Nat.le_of_ble_eq_true rfl) rfl (Nat.le_of_ble_eq_true rfl) (fun _ => rfl) dc_Tape_takeNumber_36 (fun rq mq hq => pf_Tape_wrong s1  mem hq) (fun r1 m2 => ?_)
  refine RO_pop dc_Tape_takeNumber_39 (nt0 _) ?_
  refine RO_iconst dc_Tape_takeNumber_40 ?_
  exact RO_iret rfl dc_Tape_takeNumber_41
def bo_Tape_takeNumber_23 (p1 : Int) (p2 : Int)   (mem : Mm) : Res := bd (fn_Tape_isNumber  mem) fun r1 m2 => if r1 = 0 then (bo_Tape_takeNumber_36 p1 p2 1 m2) else (bo_Tape_takeNumber_36 p1 p2 4 m2)
set_option maxHeartbeats 4000000 in
theorem rb_Tape_takeNumber_23 {E : EE} (p1 : Int) (p2 : Int)      (mem : Mm) : RO E mt_Tape_takeNumber (bo_Tape_takeNumber_23 p1 p2   mem) 23 [(0, rf 1)] [] mem := by
  unfold bo_Tape_takeNumber_23
  refine RO_aload_n dc_Tape_takeNumber_23 rfl rfl ?_
  refine RO_aload_n dc_Tape_takeNumber_24 rfl rfl ?_
  refine RO_callVi (As := []) (rest := [rf 1]) mi_Tape_isNumber mv_Tape_isNumber ml_Tape_91 lk_1 (Nat.le_of_ble_eq_true rfl) rfl (Nat.le_of_ble_eq_true rfl) (fun _ => rfl) dc_Tape_takeNumber_25 (fun rq mq hq => pf_Tape_isNumber   mem hq) (fun r1 m2 => ?_)
  refine RO_if_eq (tgt := 35) dc_Tape_takeNumber_28 rfl ?_ ?_
  · refine RO_iconst dc_Tape_takeNumber_35 ?_
    refine RO_sub ?_ (rb_Tape_takeNumber_36 p1 p2 1 m2)
    exact trivial
  · refine RO_iconst dc_Tape_takeNumber_31 ?_
    refine RO_goto (tgt := 36) dc_Tape_takeNumber_32 rfl ?_
    refine RO_sub ?_ (rb_Tape_takeNumber_36 p1 p2 4 m2)
    exact trivial
def fn_Tape_takeNumber (p1 : Int) (p2 : Int) (mem : Mm) : Res := bd (fn_Tape_isNumber  mem) fun r1 m2 => if r1 = 0 then (bo_Tape_takeNumber_23 p1 p2 m2) else (if (m2 1 4) < p1 then (bo_Tape_takeNumber_23 p1 p2 m2) else (if p2 < (m2 1 4) then (bo_Tape_takeNumber_23 p1 p2 m2) else (bn (m2 1 4) fun x3 => bd (fn_Tape_step  m2) fun r4 m5 => some (x3, m5))))
set_option maxHeartbeats 4000000 in
theorem pf_Tape_takeNumber {E : EE} (p1 : Int) (p2 : Int)  (mem : Mm) {r : Int} {mem9 : Mm} (h : fn_Tape_takeNumber p1 p2 mem = some (r, mem9)) : MetX E 6 yn_Tape_takeNumber cd_Tape_takeNumber 4 (some .int) [rf 1, vi p1, vi p2] mem r mem9 := by
  refine RO_met (y := yn_Tape_takeNumber) (by decide +kernel) (Nat.le_of_ble_eq_true rfl) ?_ h
  show RO E mt_Tape_takeNumber (fn_Tape_takeNumber p1 p2 mem) 0 [(0, rf 1), (1, vi p1), (2, vi p2)] [] mem
  unfold fn_Tape_takeNumber
  refine RO_aload_n dc_Tape_takeNumber_0 rfl rfl ?_
  refine RO_callVi (As := []) (rest := []) mi_Tape_isNumber mv_Tape_isNumber ml_Tape_91 lk_1 (Nat.le_of_ble_eq_true rfl) rfl (Nat.le_of_ble_eq_true rfl) (fun _ => rfl) dc_Tape_takeNumber_1 (fun rq mq hq => pf_Tape_isNumber   mem hq) (fun r1 m2 => ?_)
  refine RO_if_eq (tgt := 23) dc_Tape_takeNumber_4 rfl ?_ ?_
  · refine RO_sub ?_ (rb_Tape_takeNumber_23 p1 p2 m2)
    exact ⟨rfl, trivial⟩
  · refine RO_aload_n dc_Tape_takeNumber_7 rfl rfl ?_
    refine RO_getI gf_Tape_77 lk_1 dc_Tape_takeNumber_8 ?_
    refine RO_iload_n dc_Tape_takeNumber_11 rfl rfl ?_
    refine RO_icmp_lt (tgt := 23) dc_Tape_takeNumber_12 rfl ?_ ?_
    · refine RO_sub ?_ (rb_Tape_takeNumber_23 p1 p2 m2)
      exact ⟨rfl, trivial⟩
    · refine RO_aload_n dc_Tape_takeNumber_15 rfl rfl ?_
      refine RO_getI gf_Tape_77 lk_1 dc_Tape_takeNumber_16 ?_
      refine RO_iload_n dc_Tape_takeNumber_19 rfl rfl ?_
      refine RO_icmp_le (tgt := 42) dc_Tape_takeNumber_20 rfl ?_ ?_
      · refine RO_sub ?_ (rb_Tape_takeNumber_23 p1 p2 m2)
        exact ⟨rfl, trivial⟩
      · refine RO_aload_n dc_Tape_takeNumber_42 rfl rfl ?_
        refine RO_getI gf_Tape_77 lk_1 dc_Tape_takeNumber_43 ?_
        refine RO_bnT (fun x3 => ?_)
        refine RO_istore_n dc_Tape_takeNumber_46 rfl (Nat.le_of_ble_eq_true rfl) ?_
        refine RO_aload_n dc_Tape_takeNumber_47 rfl rfl ?_
        refine RO_callVv (As := []) (rest := []) mi_Tape_step mv_Tape_step ml_Tape_31 lk_1 (Nat.le_of_ble_eq_true rfl) rfl (Nat.le_of_ble_eq_true rfl) dc_Tape_takeNumber_48 (fun rq mq hq => pf_Tape_step   m2 hq) (fun r4 m5 => ?_)
        refine RO_iload_n dc_Tape_takeNumber_51 rfl rfl ?_
        exact RO_iret rfl dc_Tape_takeNumber_52
def fn_HillsReader_takeWalkerAt  (mem : Mm) : Res := bd (fn_HillsReader_whichWalker  mem) fun r1 m2 => if r1 = (-1) then (some ((-1), m2)) else (bd (fn_Tape_step  m2) fun r3 m4 => bd (fn_Tape_take (-10) m4) fun r5 m6 => if r5 = 0 then (some ((-1), m6)) else (some (r1, m6)))
set_option maxHeartbeats 4000000 in
theorem pf_HillsReader_takeWalkerAt {E : EE}   (mem : Mm) {r : Int} {mem9 : Mm} (h : fn_HillsReader_takeWalkerAt  mem = some (r, mem9)) : MetX E 7 yn_HillsReader_takeWalkerAt cd_HillsReader_takeWalkerAt 2 (some .int) [rf 3] mem r mem9 := by
  refine RO_met (y := yn_HillsReader_takeWalkerAt) (by decide +kernel) (Nat.le_of_ble_eq_true rfl) ?_ h
  show RO E mt_HillsReader_takeWalkerAt (fn_HillsReader_takeWalkerAt  mem) 0 [(0, rf 3)] [] mem
  unfold fn_HillsReader_takeWalkerAt
  refine RO_aload_n dc_HillsReader_takeWalkerAt_0 rfl rfl ?_
  refine RO_callVi (As := []) (rest := []) mi_HillsReader_whichWalker mv_HillsReader_whichWalker ml_HillsReader_135 lk_3 (Nat.le_of_ble_eq_true rfl) rfl (Nat.le_of_ble_eq_true rfl) (fun _ => rfl) dc_HillsReader_takeWalkerAt_1 (fun rq mq hq => pf_HillsReader_whichWalker   mem hq) (fun r1 m2 => ?_)
  refine RO_istore_n dc_HillsReader_takeWalkerAt_4 rfl (Nat.le_of_ble_eq_true rfl) ?_
  refine RO_iload_n dc_HillsReader_takeWalkerAt_5 rfl rfl ?_
  refine RO_iconst dc_HillsReader_takeWalkerAt_6 ?_
  refine RO_icmp_ne (tgt := 12) dc_HillsReader_takeWalkerAt_7 rfl ?_ ?_
  · refine RO_iconst dc_HillsReader_takeWalkerAt_10 ?_
    exact RO_iret rfl dc_HillsReader_takeWalkerAt_11
  · refine RO_aload_n dc_HillsReader_takeWalkerAt_12 rfl rfl ?_
    refine RO_getR (b := 1) gf_HillsReader_9 lk_3 rfl dc_HillsReader_takeWalkerAt_13 ?_
    refine RO_callVv (As := []) (rest := []) mi_Tape_step mv_Tape_step ml_HillsReader_110 lk_1 (Nat.le_of_ble_eq_true rfl) rfl (Nat.le_of_ble_eq_true rfl) dc_HillsReader_takeWalkerAt_16 (fun rq mq hq => pf_Tape_step   m2 hq) (fun r3 m4 => ?_)
    refine RO_aload_n dc_HillsReader_takeWalkerAt_19 rfl rfl ?_
    refine RO_getR (b := 1) gf_HillsReader_9 lk_3 rfl dc_HillsReader_takeWalkerAt_20 ?_
    refine RO_getsW 8 (by decide) (x := (-10)) (by decide) gs_HillsReader_138 dc_HillsReader_takeWalkerAt_23 ?_
    refine RO_callVi (As := [vw (-10)]) (rest := []) mi_Tape_take mv_Tape_take ml_HillsReader_60 lk_1 (Nat.le_of_ble_eq_true rfl) rfl (Nat.le_of_ble_eq_true rfl) (fun _ => rfl) dc_HillsReader_takeWalkerAt_26 (fun rq mq hq => pf_Tape_take (-10)  m4 hq) (fun r5 m6 => ?_)
    refine RO_if_eq (tgt := 36) dc_HillsReader_takeWalkerAt_29 rfl ?_ ?_
    · refine RO_iconst dc_HillsReader_takeWalkerAt_36 ?_
      exact RO_iret rfl dc_HillsReader_takeWalkerAt_37
    · refine RO_iload_n dc_HillsReader_takeWalkerAt_32 rfl rfl ?_
      refine RO_goto (tgt := 37) dc_HillsReader_takeWalkerAt_33 rfl ?_
      exact RO_iret rfl dc_HillsReader_takeWalkerAt_37
def fn_HillsReader_readPlace  (mem : Mm) : Res := if isK 0 (mem 3 1) = true then if isK 0 (mem 3 1) = true then bd (fn_HillsReader_readNewName ((mem 3 1).toNat + 1) (mem (mem 3 1).toNat 0) mem) fun r3 m4 => if r3 = 0 then (some (0, m4)) else (if isK 0 (m4 3 1) = true then bn (mst m4 (m4 3 1).toNat 0 (w32 ((m4 (m4 3 1).toNat 0) + 1))) fun m6 => bd (fn_Tape_takeSign 59 m6) fun r7 m8 => if r7 = 0 ∨ r7 = 1 then some (r7, m8) else none else none) else none else none
set_option maxHeartbeats 4000000 in
theorem pf_HillsReader_readPlace {E : EE}   (mem : Mm) {r : Int} {mem9 : Mm} (h : fn_HillsReader_readPlace  mem = some (r, mem9)) : MetX E 7 yn_HillsReader_readPlace cd_HillsReader_readPlace 1 (some .boolean) [rf 3] mem r mem9 := by
  refine RO_met (y := yn_HillsReader_readPlace) (by decide +kernel) (Nat.le_of_ble_eq_true rfl) ?_ h
  show RO E mt_HillsReader_readPlace (fn_HillsReader_readPlace  mem) 0 [(0, rf 3)] [] mem
  unfold fn_HillsReader_readPlace
  refine RO_aload_n dc_HillsReader_readPlace_0 rfl rfl ?_
  refine RO_aload_n dc_HillsReader_readPlace_1 rfl rfl ?_
  refine RO_chk (fun hz1 => ?_)
  refine RO_getM gf_HillsReader_15 lk_3 (isK_0 hz1) dc_HillsReader_readPlace_2 ?_
  refine RO_getR (b := ((mem 3 1).toNat + 1)) gf_HillsReader_124 (kd_0 hz1) (by omega) dc_HillsReader_readPlace_5 ?_
  refine RO_aload_n dc_HillsReader_readPlace_8 rfl rfl ?_
  refine RO_chk (fun hz2 => ?_)
  refine RO_getM gf_HillsReader_15 lk_3 (isK_0 hz2) dc_HillsReader_readPlace_9 ?_
  refine RO_getI gf_HillsReader_46 (kd_0 hz2) dc_HillsReader_readPlace_12 ?_
  refine RO_callVi (As := [rf ((mem 3 1).toNat + 1), vi (mem (mem 3 1).toNat 0)]) (rest := []) mi_HillsReader_readNewName mv_HillsReader_readNewName ml_HillsReader_141 lk_3 (Nat.le_of_ble_eq_true rfl) rfl (Nat.le_of_ble_eq_true rfl) (fun _ => rfl) dc_HillsReader_readPlace_15 (fun rq mq hq => pf_HillsReader_readNewName ((mem 3 1).toNat + 1) (mem (mem 3 1).toNat 0) (cl_0_5 (kd_0 hz1)) mem hq) (fun r3 m4 => ?_)
  refine RO_if_ne (tgt := 23) dc_HillsReader_readPlace_18 rfl ?_ ?_
  · refine RO_iconst dc_HillsReader_readPlace_21 ?_
    exact RO_zret rfl (Or.inl rfl) dc_HillsReader_readPlace_22
  · refine RO_aload_n dc_HillsReader_readPlace_23 rfl rfl ?_
    refine RO_chk (fun hz5 => ?_)
    refine RO_getM gf_HillsReader_15 lk_3 (isK_0 hz5) dc_HillsReader_readPlace_24 ?_
    refine RO_dup dc_HillsReader_readPlace_27 (nt2 _) ?_
    refine RO_getI gf_HillsReader_46 (kd_0 hz5) dc_HillsReader_readPlace_28 ?_
    refine RO_iconst dc_HillsReader_readPlace_31 ?_
    refine RO_iadd dc_HillsReader_readPlace_32 ?_
    refine RO_putI gp_HillsReader_46 (kd_0 hz5) dc_HillsReader_readPlace_33 ?_
    refine RO_bnM (fun m6 => ?_)
    refine RO_aload_n dc_HillsReader_readPlace_36 rfl rfl ?_
    refine RO_getR (b := 1) gf_HillsReader_9 lk_3 rfl dc_HillsReader_readPlace_37 ?_
    refine RO_bipush dc_HillsReader_readPlace_40 ?_
    refine RO_callVi (As := [vi 59]) (rest := []) mi_Tape_takeSign mv_Tape_takeSign ml_HillsReader_145 lk_1 (Nat.le_of_ble_eq_true rfl) rfl (Nat.le_of_ble_eq_true rfl) (fun _ => rfl) dc_HillsReader_readPlace_42 (fun rq mq hq => pf_Tape_takeSign 59  m6 hq) (fun r7 m8 => ?_)
    refine RO_chk (fun hz9 => ?_)
    exact RO_zret rfl hz9 dc_HillsReader_readPlace_45
def bo_HillsReader_readPath_53    (mem : Mm) : Res := bd (fn_Tape_wrong 3 mem) fun r1 m2 => if r1 = 0 ∨ r1 = 1 then some (r1, m2) else none
set_option maxHeartbeats 4000000 in
theorem rb_HillsReader_readPath_53 {E : EE}       (mem : Mm) : RO E mt_HillsReader_readPath (bo_HillsReader_readPath_53    mem) 53 [(0, rf 3)] [] mem := by
  unfold bo_HillsReader_readPath_53
  refine RO_aload_n dc_HillsReader_readPath_53 rfl rfl ?_
  refine RO_getR (b := 1) gf_HillsReader_9 lk_3 rfl dc_HillsReader_readPath_54 ?_
  refine RO_iconst dc_HillsReader_readPath_57 ?_
  refine RO_callVi (As := [vi 3]) (rest := []) mi_Tape_wrong mv_Tape_wrong ml_HillsReader_100 lk_1 (Nat.le_of_ble_eq_true rfl) rfl (Nat.le_of_ble_eq_true rfl) (fun _ => rfl) dc_HillsReader_readPath_58 (fun rq mq hq => pf_Tape_wrong 3  mem hq) (fun r1 m2 => ?_)
  refine RO_chk (fun hz3 => ?_)
  exact RO_zret rfl hz3 dc_HillsReader_readPath_61
def fn_HillsReader_readPath  (mem : Mm) : Res := bd (fn_HillsReader_whichPlace  mem) fun r1 m2 => if r1 = (-1) then (some (0, m2)) else (bd (fn_Tape_step  m2) fun r3 m4 => bd (fn_HillsReader_whichPlace  m4) fun r5 m6 => if r5 = (-1) then (some (0, m6)) else (if r5 = r1 then (bo_HillsReader_readPath_53 m6) else (if isK 0 (m6 3 1) = true then if 0 ≤ w32 ((w32 (r1 * 6)) + r5) ∧ w32 ((w32 (r1 * 6)) + r5) < 36 then if 0 < (m6 ((m6 3 1).toNat + 4) (w32 ((w32 (r1 * 6)) + r5)).toNat) then (bo_HillsReader_readPath_53 m6) else (bd (fn_Tape_step  m6) fun r9 m10 => bd (fn_Tape_takeNumber 1 30 m10) fun r11 m12 => if r11 = (-1) then (some (0, m12)) else (if isK 0 (m12 3 1) = true then if 0 ≤ w32 ((w32 (r1 * 6)) + r5) ∧ w32 ((w32 (r1 * 6)) + r5) < 36 then bn (mst m12 ((m12 3 1).toNat + 4) (w32 ((w32 (r1 * 6)) + r5)).toNat r11) fun m15 => if isK 0 (m15 3 1) = true then if 0 ≤ w32 ((w32 (r5 * 6)) + r1) ∧ w32 ((w32 (r5 * 6)) + r1) < 36 then bn (mst m15 ((m15 3 1).toNat + 4) (w32 ((w32 (r5 * 6)) + r1)).toNat r11) fun m18 => if isK 0 (m18 3 1) = true then bn (mst m18 (m18 3 1).toNat 3 (w32 ((m18 (m18 3 1).toNat 3) + 1))) fun m20 => bd (fn_Tape_takeSign 59 m20) fun r21 m22 => if r21 = 0 ∨ r21 = 1 then some (r21, m22) else none else none else none else none else none else none)) else none else none)))
set_option maxHeartbeats 4000000 in
theorem pf_HillsReader_readPath {E : EE}   (mem : Mm) {r : Int} {mem9 : Mm} (h : fn_HillsReader_readPath  mem = some (r, mem9)) : MetX E 7 yn_HillsReader_readPath cd_HillsReader_readPath 4 (some .boolean) [rf 3] mem r mem9 := by
  refine RO_met (y := yn_HillsReader_readPath) (by decide +kernel) (Nat.le_of_ble_eq_true rfl) ?_ h
  show RO E mt_HillsReader_readPath (fn_HillsReader_readPath  mem) 0 [(0, rf 3)] [] mem
  unfold fn_HillsReader_readPath
  refine RO_aload_n dc_HillsReader_readPath_0 rfl rfl ?_
  refine RO_callVi (As := []) (rest := []) mi_HillsReader_whichPlace mv_HillsReader_whichPlace ml_HillsReader_149 lk_3 (Nat.le_of_ble_eq_true rfl) rfl (Nat.le_of_ble_eq_true rfl) (fun _ => rfl) dc_HillsReader_readPath_1 (fun rq mq hq => pf_HillsReader_whichPlace   mem hq) (fun r1 m2 => ?_)
  refine RO_istore_n dc_HillsReader_readPath_4 rfl (Nat.le_of_ble_eq_true rfl) ?_
  refine RO_iload_n dc_HillsReader_readPath_5 rfl rfl ?_
  refine RO_iconst dc_HillsReader_readPath_6 ?_
  refine RO_icmp_ne (tgt := 12) dc_HillsReader_readPath_7 rfl ?_ ?_
  · refine RO_iconst dc_HillsReader_readPath_10 ?_
    exact RO_zret rfl (Or.inl rfl) dc_HillsReader_readPath_11
  · refine RO_aload_n dc_HillsReader_readPath_12 rfl rfl ?_
    refine RO_getR (b := 1) gf_HillsReader_9 lk_3 rfl dc_HillsReader_readPath_13 ?_
    refine RO_callVv (As := []) (rest := []) mi_Tape_step mv_Tape_step ml_HillsReader_110 lk_1 (Nat.le_of_ble_eq_true rfl) rfl (Nat.le_of_ble_eq_true rfl) dc_HillsReader_readPath_16 (fun rq mq hq => pf_Tape_step   m2 hq) (fun r3 m4 => ?_)
    refine RO_aload_n dc_HillsReader_readPath_19 rfl rfl ?_
    refine RO_callVi (As := []) (rest := []) mi_HillsReader_whichPlace mv_HillsReader_whichPlace ml_HillsReader_149 lk_3 (Nat.le_of_ble_eq_true rfl) rfl (Nat.le_of_ble_eq_true rfl) (fun _ => rfl) dc_HillsReader_readPath_20 (fun rq mq hq => pf_HillsReader_whichPlace   m4 hq) (fun r5 m6 => ?_)
    refine RO_istore_n dc_HillsReader_readPath_23 rfl (Nat.le_of_ble_eq_true rfl) ?_
    refine RO_iload_n dc_HillsReader_readPath_24 rfl rfl ?_
    refine RO_iconst dc_HillsReader_readPath_25 ?_
    refine RO_icmp_ne (tgt := 31) dc_HillsReader_readPath_26 rfl ?_ ?_
    · refine RO_iconst dc_HillsReader_readPath_29 ?_
      exact RO_zret rfl (Or.inl rfl) dc_HillsReader_readPath_30
    · refine RO_iload_n dc_HillsReader_readPath_31 rfl rfl ?_
      refine RO_iload_n dc_HillsReader_readPath_32 rfl rfl ?_
      refine RO_icmp_eq (tgt := 53) dc_HillsReader_readPath_33 rfl ?_ ?_
      · refine RO_sub ?_ (rb_HillsReader_readPath_53 m6)
        exact ⟨rfl, trivial⟩
      · refine RO_aload_n dc_HillsReader_readPath_36 rfl rfl ?_
        refine RO_chk (fun hz7 => ?_)
        refine RO_getM gf_HillsReader_15 lk_3 (isK_0 hz7) dc_HillsReader_readPath_37 ?_
        refine RO_getR (b := ((m6 3 1).toNat + 4)) gf_HillsReader_152 (kd_0 hz7) (by omega) dc_HillsReader_readPath_40 ?_
        refine RO_iload_n dc_HillsReader_readPath_43 rfl rfl ?_
        refine RO_bipush dc_HillsReader_readPath_44 ?_
        refine RO_imul dc_HillsReader_readPath_46 ?_
        refine RO_iload_n dc_HillsReader_readPath_47 rfl rfl ?_
        refine RO_iadd dc_HillsReader_readPath_48 ?_
        refine RO_chk (fun hi8 => ?_)
        refine RO_ia (cl_0_8 (kd_0 hz7)) hi8 dc_HillsReader_readPath_49 ?_
        refine RO_if_le (tgt := 62) dc_HillsReader_readPath_50 rfl ?_ ?_
        · refine RO_sub ?_ (rb_HillsReader_readPath_53 m6)
          exact ⟨rfl, trivial⟩
        · refine RO_aload_n dc_HillsReader_readPath_62 rfl rfl ?_
          refine RO_getR (b := 1) gf_HillsReader_9 lk_3 rfl dc_HillsReader_readPath_63 ?_
          refine RO_callVv (As := []) (rest := []) mi_Tape_step mv_Tape_step ml_HillsReader_110 lk_1 (Nat.le_of_ble_eq_true rfl) rfl (Nat.le_of_ble_eq_true rfl) dc_HillsReader_readPath_66 (fun rq mq hq => pf_Tape_step   m6 hq) (fun r9 m10 => ?_)
          refine RO_aload_n dc_HillsReader_readPath_69 rfl rfl ?_
          refine RO_getR (b := 1) gf_HillsReader_9 lk_3 rfl dc_HillsReader_readPath_70 ?_
          refine RO_iconst dc_HillsReader_readPath_73 ?_
          refine RO_bipush dc_HillsReader_readPath_74 ?_
          refine RO_callVi (As := [vi 1, vi 30]) (rest := []) mi_Tape_takeNumber mv_Tape_takeNumber ml_HillsReader_156 lk_1 (Nat.le_of_ble_eq_true rfl) rfl (Nat.le_of_ble_eq_true rfl) (fun _ => rfl) dc_HillsReader_readPath_76 (fun rq mq hq => pf_Tape_takeNumber 1 30  m10 hq) (fun r11 m12 => ?_)
          refine RO_istore_n dc_HillsReader_readPath_79 rfl (Nat.le_of_ble_eq_true rfl) ?_
          refine RO_iload_n dc_HillsReader_readPath_80 rfl rfl ?_
          refine RO_iconst dc_HillsReader_readPath_81 ?_
          refine RO_icmp_ne (tgt := 87) dc_HillsReader_readPath_82 rfl ?_ ?_
          · refine RO_iconst dc_HillsReader_readPath_85 ?_
            exact RO_zret rfl (Or.inl rfl) dc_HillsReader_readPath_86
          · refine RO_aload_n dc_HillsReader_readPath_87 rfl rfl ?_
            refine RO_chk (fun hz13 => ?_)
            refine RO_getM gf_HillsReader_15 lk_3 (isK_0 hz13) dc_HillsReader_readPath_88 ?_
            refine RO_getR (b := ((m12 3 1).toNat + 4)) gf_HillsReader_152 (kd_0 hz13) (by omega) dc_HillsReader_readPath_91 ?_
            refine RO_iload_n dc_HillsReader_readPath_94 rfl rfl ?_
            refine RO_bipush dc_HillsReader_readPath_95 ?_
            refine RO_imul dc_HillsReader_readPath_97 ?_
            refine RO_iload_n dc_HillsReader_readPath_98 rfl rfl ?_
            refine RO_iadd dc_HillsReader_readPath_99 ?_
            refine RO_iload_n dc_HillsReader_readPath_100 rfl rfl ?_
            refine RO_chk (fun hi14 => ?_)
            refine RO_is (cl_0_8 (kd_0 hz13)) hi14 dc_HillsReader_readPath_101 ?_
            refine RO_bnM (fun m15 => ?_)
            refine RO_aload_n dc_HillsReader_readPath_102 rfl rfl ?_
            refine RO_chk (fun hz16 => ?_)
            refine RO_getM gf_HillsReader_15 lk_3 (isK_0 hz16) dc_HillsReader_readPath_103 ?_
            refine RO_getR (b := ((m15 3 1).toNat + 4)) gf_HillsReader_152 (kd_0 hz16) (by omega) dc_HillsReader_readPath_106 ?_
            refine RO_iload_n dc_HillsReader_readPath_109 rfl rfl ?_
            refine RO_bipush dc_HillsReader_readPath_110 ?_
            refine RO_imul dc_HillsReader_readPath_112 ?_
            refine RO_iload_n dc_HillsReader_readPath_113 rfl rfl ?_
            refine RO_iadd dc_HillsReader_readPath_114 ?_
            refine RO_iload_n dc_HillsReader_readPath_115 rfl rfl ?_
            refine RO_chk (fun hi17 => ?_)
            refine RO_is (cl_0_8 (kd_0 hz16)) hi17 dc_HillsReader_readPath_116 ?_
            refine RO_bnM (fun m18 => ?_)
            refine RO_aload_n dc_HillsReader_readPath_117 rfl rfl ?_
            refine RO_chk (fun hz19 => ?_)
            refine RO_getM gf_HillsReader_15 lk_3 (isK_0 hz19) dc_HillsReader_readPath_118 ?_
            refine RO_dup dc_HillsReader_readPath_121 (nt2 _) ?_
            refine RO_getI gf_HillsReader_160 (kd_0 hz19) dc_HillsReader_readPath_122 ?_
            refine RO_iconst dc_HillsReader_readPath_125 ?_
            refine RO_iadd dc_HillsReader_readPath_126 ?_
            refine RO_putI gp_HillsReader_160 (kd_0 hz19) dc_HillsReader_readPath_127 ?_
            refine RO_bnM (fun m20 => ?_)
            refine RO_aload_n dc_HillsReader_readPath_130 rfl rfl ?_
            refine RO_getR (b := 1) gf_HillsReader_9 lk_3 rfl dc_HillsReader_readPath_131 ?_
            refine RO_bipush dc_HillsReader_readPath_134 ?_
            refine RO_callVi (As := [vi 59]) (rest := []) mi_Tape_takeSign mv_Tape_takeSign ml_HillsReader_145 lk_1 (Nat.le_of_ble_eq_true rfl) rfl (Nat.le_of_ble_eq_true rfl) (fun _ => rfl) dc_HillsReader_readPath_136 (fun rq mq hq => pf_Tape_takeSign 59  m20 hq) (fun r21 m22 => ?_)
            refine RO_chk (fun hz23 => ?_)
            exact RO_zret rfl hz23 dc_HillsReader_readPath_139
def fn_HillsReader_readWalker  (mem : Mm) : Res := if isK 0 (mem 3 1) = true then if isK 0 (mem 3 1) = true then bd (fn_HillsReader_readNewName ((mem 3 1).toNat + 2) (mem (mem 3 1).toNat 1) mem) fun r3 m4 => if r3 = 0 then (some (0, m4)) else (if isK 0 (m4 3 1) = true then if isK 0 (m4 3 1) = true then if 0 ≤ m4 (m4 3 1).toNat 1 ∧ m4 (m4 3 1).toNat 1 < 6 then bd (fn_Walker_begin (((m4 3 1).toNat + 4 * (m4 (m4 3 1).toNat 1).toNat) + 13) m4) fun r10 m11 => bd (fn_HillsReader_takeKind  m11) fun r12 m13 => bn (mst m13 (((m4 3 1).toNat + 4 * (m4 (m4 3 1).toNat 1).toNat) + 13) 0 r12) fun m14 => if (m14 (((m4 3 1).toNat + 4 * (m4 (m4 3 1).toNat 1).toNat) + 13) 0) = (-1) then (some (0, m14)) else (bd (fn_Tape_take (-5) m14) fun r15 m16 => if r15 = 0 then (some (0, m16)) else (bd (fn_Tape_takeNumber 0 239 m16) fun r17 m18 => bn (mst m18 (((m4 3 1).toNat + 4 * (m4 (m4 3 1).toNat 1).toNat) + 13) 1 r17) fun m19 => if (m19 (((m4 3 1).toNat + 4 * (m4 (m4 3 1).toNat 1).toNat) + 13) 1) = (-1) then (some (0, m19)) else (bd (fn_Tape_take (-6) m19) fun r20 m21 => if r20 = 0 then (some (0, m21)) else (bd (fn_Tape_takeNumber 1 5 m21) fun r22 m23 => bn (mst m23 (((m4 3 1).toNat + 4 * (m4 (m4 3 1).toNat 1).toNat) + 13) 2 r22) fun m24 => if (m24 (((m4 3 1).toNat + 4 * (m4 (m4 3 1).toNat 1).toNat) + 13) 2) = (-1) then (some (0, m24)) else (bd (fn_Tape_take (-7) m24) fun r25 m26 => if r25 = 0 then (some (0, m26)) else (bd (fn_Tape_takeNumber 0 30 m26) fun r27 m28 => bn (mst m28 (((m4 3 1).toNat + 4 * (m4 (m4 3 1).toNat 1).toNat) + 13) 3 r27) fun m29 => if (m29 (((m4 3 1).toNat + 4 * (m4 (m4 3 1).toNat 1).toNat) + 13) 3) = (-1) then (some (0, m29)) else (bd (fn_Tape_take (-8) m29) fun r30 m31 => if r30 = 0 then (some (0, m31)) else (bd (fn_HillsReader_readRound (((m4 3 1).toNat + 4 * (m4 (m4 3 1).toNat 1).toNat) + 13) m31) fun r32 m33 => if r32 = 0 then (some (0, m33)) else (if isK 0 (m33 3 1) = true then bn (mst m33 (m33 3 1).toNat 1 (w32 ((m33 (m33 3 1).toNat 1) + 1))) fun m35 => bd (fn_Tape_takeSign 59 m35) fun r36 m37 => if r36 = 0 ∨ r36 = 1 then some (r36, m37) else none else none))))))))) else none else none else none) else none else none
set_option maxHeartbeats 4000000 in
theorem pf_HillsReader_readWalker {E : EE}   (mem : Mm) {r : Int} {mem9 : Mm} (h : fn_HillsReader_readWalker  mem = some (r, mem9)) : MetX E 7 yn_HillsReader_readWalker cd_HillsReader_readWalker 2 (some .boolean) [rf 3] mem r mem9 := by
  refine RO_met (y := yn_HillsReader_readWalker) (by decide +kernel) (Nat.le_of_ble_eq_true rfl) ?_ h
  show RO E mt_HillsReader_readWalker (fn_HillsReader_readWalker  mem) 0 [(0, rf 3)] [] mem
  unfold fn_HillsReader_readWalker
  refine RO_aload_n dc_HillsReader_readWalker_0 rfl rfl ?_
  refine RO_aload_n dc_HillsReader_readWalker_1 rfl rfl ?_
  refine RO_chk (fun hz1 => ?_)
  refine RO_getM gf_HillsReader_15 lk_3 (isK_0 hz1) dc_HillsReader_readWalker_2 ?_
  refine RO_getR (b := ((mem 3 1).toNat + 2)) gf_HillsReader_132 (kd_0 hz1) (by omega) dc_HillsReader_readWalker_5 ?_
  refine RO_aload_n dc_HillsReader_readWalker_8 rfl rfl ?_
  refine RO_chk (fun hz2 => ?_)
  refine RO_getM gf_HillsReader_15 lk_3 (isK_0 hz2) dc_HillsReader_readWalker_9 ?_
  refine RO_getI gf_HillsReader_70 (kd_0 hz2) dc_HillsReader_readWalker_12 ?_
  refine RO_callVi (As := [rf ((mem 3 1).toNat + 2), vi (mem (mem 3 1).toNat 1)]) (rest := []) mi_HillsReader_readNewName mv_HillsReader_readNewName ml_HillsReader_141 lk_3 (Nat.le_of_ble_eq_true rfl) rfl (Nat.le_of_ble_eq_true rfl) (fun _ => rfl) dc_HillsReader_readWalker_15 (fun rq mq hq => pf_HillsReader_readNewName ((mem 3 1).toNat + 2) (mem (mem 3 1).toNat 1) (cl_0_6 (kd_0 hz1)) mem hq) (fun r3 m4 => ?_)
  refine RO_if_ne (tgt := 23) dc_HillsReader_readWalker_18 rfl ?_ ?_
  · refine RO_iconst dc_HillsReader_readWalker_21 ?_
    exact RO_zret rfl (Or.inl rfl) dc_HillsReader_readWalker_22
  · refine RO_aload_n dc_HillsReader_readWalker_23 rfl rfl ?_
    refine RO_chk (fun hz5 => ?_)
    refine RO_getM gf_HillsReader_15 lk_3 (isK_0 hz5) dc_HillsReader_readWalker_24 ?_
    refine RO_getR (b := ((m4 3 1).toNat + 6)) gf_HillsReader_163 (kd_0 hz5) (by omega) dc_HillsReader_readWalker_27 ?_
    refine RO_aload_n dc_HillsReader_readWalker_30 rfl rfl ?_
    refine RO_chk (fun hz6 => ?_)
    refine RO_getM gf_HillsReader_15 lk_3 (isK_0 hz6) dc_HillsReader_readWalker_31 ?_
    refine RO_getI gf_HillsReader_70 (kd_0 hz6) dc_HillsReader_readWalker_34 ?_
    refine RO_chk (fun hi7 => ?_)
    have hb8 : ((m4 3 1).toNat + 6) + (raO 18).1 + (raO 18).2 * (m4 (m4 3 1).toNat 1).toNat = (((m4 3 1).toNat + 4 * (m4 (m4 3 1).toNat 1).toNat) + 13) := by show _ + 7 + 4 * _ = _; omega
    have hk9 := el_18 (cl_0_10 (kd_0 hz5)) hi7 hb8
    refine RO_aa (by decide) (cl_0_10 (kd_0 hz5)) hi7 hb8 dc_HillsReader_readWalker_37 ?_
    refine RO_astore_n dc_HillsReader_readWalker_38 rfl (Nat.le_of_ble_eq_true rfl) ?_
    refine RO_aload_n dc_HillsReader_readWalker_39 rfl rfl ?_
    refine RO_callVv (As := []) (rest := []) mi_Walker_begin mv_Walker_begin ml_HillsReader_167 hk9 (Nat.le_of_ble_eq_true rfl) rfl (Nat.le_of_ble_eq_true rfl) dc_HillsReader_readWalker_40 (fun rq mq hq => pf_Walker_begin (((m4 3 1).toNat + 4 * (m4 (m4 3 1).toNat 1).toNat) + 13) hk9 m4 hq) (fun r10 m11 => ?_)
    refine RO_aload_n dc_HillsReader_readWalker_43 rfl rfl ?_
    refine RO_aload_n dc_HillsReader_readWalker_44 rfl rfl ?_
    refine RO_callVi (As := []) (rest := [rf (((m4 3 1).toNat + 4 * (m4 (m4 3 1).toNat 1).toNat) + 13)]) mi_HillsReader_takeKind mv_HillsReader_takeKind ml_HillsReader_170 lk_3 (Nat.le_of_ble_eq_true rfl) rfl (Nat.le_of_ble_eq_true rfl) (fun _ => rfl) dc_HillsReader_readWalker_45 (fun rq mq hq => pf_HillsReader_takeKind   m11 hq) (fun r12 m13 => ?_)
    refine RO_putI gp_HillsReader_173 hk9 dc_HillsReader_readWalker_48 ?_
    refine RO_bnM (fun m14 => ?_)
    refine RO_aload_n dc_HillsReader_readWalker_51 rfl rfl ?_
    refine RO_getI gf_HillsReader_173 hk9 dc_HillsReader_readWalker_52 ?_
    refine RO_iconst dc_HillsReader_readWalker_55 ?_
    refine RO_icmp_eq (tgt := 72) dc_HillsReader_readWalker_56 rfl ?_ ?_
    · refine RO_iconst dc_HillsReader_readWalker_72 ?_
      exact RO_zret rfl (Or.inl rfl) dc_HillsReader_readWalker_73
    · refine RO_aload_n dc_HillsReader_readWalker_59 rfl rfl ?_
      refine RO_getR (b := 1) gf_HillsReader_9 lk_3 rfl dc_HillsReader_readWalker_60 ?_
      refine RO_getsW 3 (by decide) (x := (-5)) (by decide) gs_HillsReader_176 dc_HillsReader_readWalker_63 ?_
      refine RO_callVi (As := [vw (-5)]) (rest := []) mi_Tape_take mv_Tape_take ml_HillsReader_60 lk_1 (Nat.le_of_ble_eq_true rfl) rfl (Nat.le_of_ble_eq_true rfl) (fun _ => rfl) dc_HillsReader_readWalker_66 (fun rq mq hq => pf_Tape_take (-5)  m14 hq) (fun r15 m16 => ?_)
      refine RO_if_ne (tgt := 74) dc_HillsReader_readWalker_69 rfl ?_ ?_
      · refine RO_iconst dc_HillsReader_readWalker_72 ?_
        exact RO_zret rfl (Or.inl rfl) dc_HillsReader_readWalker_73
      · refine RO_aload_n dc_HillsReader_readWalker_74 rfl rfl ?_
        refine RO_aload_n dc_HillsReader_readWalker_75 rfl rfl ?_
        refine RO_getR (b := 1) gf_HillsReader_9 lk_3 rfl dc_HillsReader_readWalker_76 ?_
        refine RO_iconst dc_HillsReader_readWalker_79 ?_
        refine RO_sipush dc_HillsReader_readWalker_80 ?_
        refine RO_callVi (As := [vi 0, vi 239]) (rest := [rf (((m4 3 1).toNat + 4 * (m4 (m4 3 1).toNat 1).toNat) + 13)]) mi_Tape_takeNumber mv_Tape_takeNumber ml_HillsReader_156 lk_1 (Nat.le_of_ble_eq_true rfl) rfl (Nat.le_of_ble_eq_true rfl) (fun _ => rfl) dc_HillsReader_readWalker_83 (fun rq mq hq => pf_Tape_takeNumber 0 239  m16 hq) (fun r17 m18 => ?_)
        refine RO_putI gp_HillsReader_179 hk9 dc_HillsReader_readWalker_86 ?_
        refine RO_bnM (fun m19 => ?_)
        refine RO_aload_n dc_HillsReader_readWalker_89 rfl rfl ?_
        refine RO_getI gf_HillsReader_179 hk9 dc_HillsReader_readWalker_90 ?_
        refine RO_iconst dc_HillsReader_readWalker_93 ?_
        refine RO_icmp_eq (tgt := 110) dc_HillsReader_readWalker_94 rfl ?_ ?_
        · refine RO_iconst dc_HillsReader_readWalker_110 ?_
          exact RO_zret rfl (Or.inl rfl) dc_HillsReader_readWalker_111
        · refine RO_aload_n dc_HillsReader_readWalker_97 rfl rfl ?_
          refine RO_getR (b := 1) gf_HillsReader_9 lk_3 rfl dc_HillsReader_readWalker_98 ?_
          refine RO_getsW 4 (by decide) (x := (-6)) (by decide) gs_HillsReader_182 dc_HillsReader_readWalker_101 ?_
          refine RO_callVi (As := [vw (-6)]) (rest := []) mi_Tape_take mv_Tape_take ml_HillsReader_60 lk_1 (Nat.le_of_ble_eq_true rfl) rfl (Nat.le_of_ble_eq_true rfl) (fun _ => rfl) dc_HillsReader_readWalker_104 (fun rq mq hq => pf_Tape_take (-6)  m19 hq) (fun r20 m21 => ?_)
          refine RO_if_ne (tgt := 112) dc_HillsReader_readWalker_107 rfl ?_ ?_
          · refine RO_iconst dc_HillsReader_readWalker_110 ?_
            exact RO_zret rfl (Or.inl rfl) dc_HillsReader_readWalker_111
          · refine RO_aload_n dc_HillsReader_readWalker_112 rfl rfl ?_
            refine RO_aload_n dc_HillsReader_readWalker_113 rfl rfl ?_
            refine RO_getR (b := 1) gf_HillsReader_9 lk_3 rfl dc_HillsReader_readWalker_114 ?_
            refine RO_iconst dc_HillsReader_readWalker_117 ?_
            refine RO_iconst dc_HillsReader_readWalker_118 ?_
            refine RO_callVi (As := [vi 1, vi 5]) (rest := [rf (((m4 3 1).toNat + 4 * (m4 (m4 3 1).toNat 1).toNat) + 13)]) mi_Tape_takeNumber mv_Tape_takeNumber ml_HillsReader_156 lk_1 (Nat.le_of_ble_eq_true rfl) rfl (Nat.le_of_ble_eq_true rfl) (fun _ => rfl) dc_HillsReader_readWalker_119 (fun rq mq hq => pf_Tape_takeNumber 1 5  m21 hq) (fun r22 m23 => ?_)
            refine RO_putI gp_HillsReader_185 hk9 dc_HillsReader_readWalker_122 ?_
            refine RO_bnM (fun m24 => ?_)
            refine RO_aload_n dc_HillsReader_readWalker_125 rfl rfl ?_
            refine RO_getI gf_HillsReader_185 hk9 dc_HillsReader_readWalker_126 ?_
            refine RO_iconst dc_HillsReader_readWalker_129 ?_
            refine RO_icmp_eq (tgt := 146) dc_HillsReader_readWalker_130 rfl ?_ ?_
            · refine RO_iconst dc_HillsReader_readWalker_146 ?_
              exact RO_zret rfl (Or.inl rfl) dc_HillsReader_readWalker_147
            · refine RO_aload_n dc_HillsReader_readWalker_133 rfl rfl ?_
              refine RO_getR (b := 1) gf_HillsReader_9 lk_3 rfl dc_HillsReader_readWalker_134 ?_
              refine RO_getsW 5 (by decide) (x := (-7)) (by decide) gs_HillsReader_188 dc_HillsReader_readWalker_137 ?_
              refine RO_callVi (As := [vw (-7)]) (rest := []) mi_Tape_take mv_Tape_take ml_HillsReader_60 lk_1 (Nat.le_of_ble_eq_true rfl) rfl (Nat.le_of_ble_eq_true rfl) (fun _ => rfl) dc_HillsReader_readWalker_140 (fun rq mq hq => pf_Tape_take (-7)  m24 hq) (fun r25 m26 => ?_)
              refine RO_if_ne (tgt := 148) dc_HillsReader_readWalker_143 rfl ?_ ?_
              · refine RO_iconst dc_HillsReader_readWalker_146 ?_
                exact RO_zret rfl (Or.inl rfl) dc_HillsReader_readWalker_147
              · refine RO_aload_n dc_HillsReader_readWalker_148 rfl rfl ?_
                refine RO_aload_n dc_HillsReader_readWalker_149 rfl rfl ?_
                refine RO_getR (b := 1) gf_HillsReader_9 lk_3 rfl dc_HillsReader_readWalker_150 ?_
                refine RO_iconst dc_HillsReader_readWalker_153 ?_
                refine RO_bipush dc_HillsReader_readWalker_154 ?_
                refine RO_callVi (As := [vi 0, vi 30]) (rest := [rf (((m4 3 1).toNat + 4 * (m4 (m4 3 1).toNat 1).toNat) + 13)]) mi_Tape_takeNumber mv_Tape_takeNumber ml_HillsReader_156 lk_1 (Nat.le_of_ble_eq_true rfl) rfl (Nat.le_of_ble_eq_true rfl) (fun _ => rfl) dc_HillsReader_readWalker_156 (fun rq mq hq => pf_Tape_takeNumber 0 30  m26 hq) (fun r27 m28 => ?_)
                refine RO_putI gp_HillsReader_191 hk9 dc_HillsReader_readWalker_159 ?_
                refine RO_bnM (fun m29 => ?_)
                refine RO_aload_n dc_HillsReader_readWalker_162 rfl rfl ?_
                refine RO_getI gf_HillsReader_191 hk9 dc_HillsReader_readWalker_163 ?_
                refine RO_iconst dc_HillsReader_readWalker_166 ?_
                refine RO_icmp_eq (tgt := 191) dc_HillsReader_readWalker_167 rfl ?_ ?_
                · refine RO_iconst dc_HillsReader_readWalker_191 ?_
                  exact RO_zret rfl (Or.inl rfl) dc_HillsReader_readWalker_192
                · refine RO_aload_n dc_HillsReader_readWalker_170 rfl rfl ?_
                  refine RO_getR (b := 1) gf_HillsReader_9 lk_3 rfl dc_HillsReader_readWalker_171 ?_
                  refine RO_getsW 6 (by decide) (x := (-8)) (by decide) gs_HillsReader_194 dc_HillsReader_readWalker_174 ?_
                  refine RO_callVi (As := [vw (-8)]) (rest := []) mi_Tape_take mv_Tape_take ml_HillsReader_60 lk_1 (Nat.le_of_ble_eq_true rfl) rfl (Nat.le_of_ble_eq_true rfl) (fun _ => rfl) dc_HillsReader_readWalker_177 (fun rq mq hq => pf_Tape_take (-8)  m29 hq) (fun r30 m31 => ?_)
                  refine RO_if_eq (tgt := 191) dc_HillsReader_readWalker_180 rfl ?_ ?_
                  · refine RO_iconst dc_HillsReader_readWalker_191 ?_
                    exact RO_zret rfl (Or.inl rfl) dc_HillsReader_readWalker_192
                  · refine RO_aload_n dc_HillsReader_readWalker_183 rfl rfl ?_
                    refine RO_aload_n dc_HillsReader_readWalker_184 rfl rfl ?_
                    refine RO_callVi (As := [rf (((m4 3 1).toNat + 4 * (m4 (m4 3 1).toNat 1).toNat) + 13)]) (rest := []) mi_HillsReader_readRound mv_HillsReader_readRound ml_HillsReader_197 lk_3 (Nat.le_of_ble_eq_true rfl) rfl (Nat.le_of_ble_eq_true rfl) (fun _ => rfl) dc_HillsReader_readWalker_185 (fun rq mq hq => pf_HillsReader_readRound (((m4 3 1).toNat + 4 * (m4 (m4 3 1).toNat 1).toNat) + 13) hk9 m31 hq) (fun r32 m33 => ?_)
                    refine RO_if_ne (tgt := 193) dc_HillsReader_readWalker_188 rfl ?_ ?_
                    · refine RO_iconst dc_HillsReader_readWalker_191 ?_
                      exact RO_zret rfl (Or.inl rfl) dc_HillsReader_readWalker_192
                    · refine RO_aload_n dc_HillsReader_readWalker_193 rfl rfl ?_
                      refine RO_chk (fun hz34 => ?_)
                      refine RO_getM gf_HillsReader_15 lk_3 (isK_0 hz34) dc_HillsReader_readWalker_194 ?_
                      refine RO_dup dc_HillsReader_readWalker_197 (nt2 _) ?_
                      refine RO_getI gf_HillsReader_70 (kd_0 hz34) dc_HillsReader_readWalker_198 ?_
                      refine RO_iconst dc_HillsReader_readWalker_201 ?_
                      refine RO_iadd dc_HillsReader_readWalker_202 ?_
                      refine RO_putI gp_HillsReader_70 (kd_0 hz34) dc_HillsReader_readWalker_203 ?_
                      refine RO_bnM (fun m35 => ?_)
                      refine RO_aload_n dc_HillsReader_readWalker_206 rfl rfl ?_
                      refine RO_getR (b := 1) gf_HillsReader_9 lk_3 rfl dc_HillsReader_readWalker_207 ?_
                      refine RO_bipush dc_HillsReader_readWalker_210 ?_
                      refine RO_callVi (As := [vi 59]) (rest := []) mi_Tape_takeSign mv_Tape_takeSign ml_HillsReader_145 lk_1 (Nat.le_of_ble_eq_true rfl) rfl (Nat.le_of_ble_eq_true rfl) (fun _ => rfl) dc_HillsReader_readWalker_212 (fun rq mq hq => pf_Tape_takeSign 59  m35 hq) (fun r36 m37 => ?_)
                      refine RO_chk (fun hz38 => ?_)
                      exact RO_zret rfl hz38 dc_HillsReader_readWalker_215
def bo_Lines_readLine_202 (th : Nat) (p2 : Nat)   (mem : Mm) : Res := bn (mst mem th 0 (w32 ((mem th 0) + 1))) fun m1 => bd (fn_Tape_takeSign 59 m1) fun r2 m3 => if r2 = 0 ∨ r2 = 1 then some (r2, m3) else none
set_option maxHeartbeats 4000000 in
theorem rb_Lines_readLine_202 {E : EE} (th : Nat) (p2 : Nat) (hk_th : ly_k th = (3, 4)) (hk_p2 : ly_k p2 = (0, 15))     (mem : Mm) : RO E mt_Lines_readLine (bo_Lines_readLine_202 th p2   mem) 202 [(0, rf th), (1, rf 1)] [] mem := by
  unfold bo_Lines_readLine_202
  refine RO_aload_n dc_Lines_readLine_202 rfl rfl ?_
  refine RO_dup dc_Lines_readLine_203 (nt2 _) ?_
  refine RO_getI gf_Lines_21 hk_th dc_Lines_readLine_204 ?_
  refine RO_iconst dc_Lines_readLine_207 ?_
  refine RO_iadd dc_Lines_readLine_208 ?_
  refine RO_putI gp_Lines_21 hk_th dc_Lines_readLine_209 ?_
  refine RO_bnM (fun m1 => ?_)
  refine RO_aload_n dc_Lines_readLine_212 rfl rfl ?_
  refine RO_bipush dc_Lines_readLine_213 ?_
  refine RO_callVi (As := [vi 59]) (rest := []) mi_Tape_takeSign mv_Tape_takeSign ml_Lines_86 lk_1 (Nat.le_of_ble_eq_true rfl) rfl (Nat.le_of_ble_eq_true rfl) (fun _ => rfl) dc_Lines_readLine_215 (fun rq mq hq => pf_Tape_takeSign 59  m1 hq) (fun r2 m3 => ?_)
  refine RO_chk (fun hz4 => ?_)
  exact RO_zret rfl hz4 dc_Lines_readLine_218
def bo_Lines_readLine_167 (th : Nat) (p2 : Nat)  (v3 : Int) (mem : Mm) : Res := if v3 = 0 then (bd (fn_Tape_takeNumber 0 60 mem) fun r1 m2 => if 0 ≤ mem th 0 ∧ mem th 0 < 30 then bn (mst m2 (th + 3) (mem th 0).toNat r1) fun m4 => if 0 ≤ m4 th 0 ∧ m4 th 0 < 30 then if (m4 (th + 3) (m4 th 0).toNat) = (-1) then (some (0, m4)) else (bo_Lines_readLine_202 th p2 m4) else none else none) else (bo_Lines_readLine_202 th p2 mem)
set_option maxHeartbeats 4000000 in
theorem rb_Lines_readLine_167 {E : EE} (th : Nat) (p2 : Nat) (hk_th : ly_k th = (3, 4)) (hk_p2 : ly_k p2 = (0, 15))   (v3 : Int)  (mem : Mm) : RO E mt_Lines_readLine (bo_Lines_readLine_167 th p2  v3 mem) 167 [(0, rf th), (1, rf 1), (3, vi v3)] [] mem := by
  unfold bo_Lines_readLine_167
  refine RO_iload_n dc_Lines_readLine_167 rfl rfl ?_
  refine RO_if_ne (tgt := 202) dc_Lines_readLine_168 rfl ?_ ?_
  · refine RO_aload_n dc_Lines_readLine_171 rfl rfl ?_
    refine RO_getR (b := (th + 3)) gf_Lines_18 hk_th (by omega) dc_Lines_readLine_172 ?_
    refine RO_aload_n dc_Lines_readLine_175 rfl rfl ?_
    refine RO_getI gf_Lines_21 hk_th dc_Lines_readLine_176 ?_
    refine RO_aload_n dc_Lines_readLine_179 rfl rfl ?_
    refine RO_iconst dc_Lines_readLine_180 ?_
    refine RO_bipush dc_Lines_readLine_181 ?_
    refine RO_callVi (As := [vi 0, vi 60]) (rest := [vi (mem th 0), rf (th + 3)]) mi_Tape_takeNumber mv_Tape_takeNumber ml_Lines_82 lk_1 (Nat.le_of_ble_eq_true rfl) rfl (Nat.le_of_ble_eq_true rfl) (fun _ => rfl) dc_Lines_readLine_183 (fun rq mq hq => pf_Tape_takeNumber 0 60  mem hq) (fun r1 m2 => ?_)
    refine RO_chk (fun hi3 => ?_)
    refine RO_is (cl_3_3 hk_th) hi3 dc_Lines_readLine_186 ?_
    refine RO_bnM (fun m4 => ?_)
    refine RO_aload_n dc_Lines_readLine_187 rfl rfl ?_
    refine RO_getR (b := (th + 3)) gf_Lines_18 hk_th (by omega) dc_Lines_readLine_188 ?_
    refine RO_aload_n dc_Lines_readLine_191 rfl rfl ?_
    refine RO_getI gf_Lines_21 hk_th dc_Lines_readLine_192 ?_
    refine RO_chk (fun hi5 => ?_)
    refine RO_ia (cl_3_3 hk_th) hi5 dc_Lines_readLine_195 ?_
    refine RO_iconst dc_Lines_readLine_196 ?_
    refine RO_icmp_ne (tgt := 202) dc_Lines_readLine_197 rfl ?_ ?_
    · refine RO_iconst dc_Lines_readLine_200 ?_
      exact RO_zret rfl (Or.inl rfl) dc_Lines_readLine_201
    · refine RO_sub ?_ (rb_Lines_readLine_202 th p2 hk_th hk_p2 m4)
      exact ⟨rfl, rfl, trivial⟩
  · refine RO_sub ?_ (rb_Lines_readLine_202 th p2 hk_th hk_p2 mem)
    exact ⟨rfl, rfl, trivial⟩
def bo_Lines_readLine_127 (th : Nat) (p2 : Nat)  (v3 : Int) (mem : Mm) : Res := bd (fn_Tape_which (p2 + 2) (mem p2 1) mem) fun r1 m2 => if 0 ≤ mem th 0 ∧ mem th 0 < 30 then bn (mst m2 (th + 2) (mem th 0).toNat r1) fun m4 => if 0 ≤ m4 th 0 ∧ m4 th 0 < 30 then if (m4 (th + 2) (m4 th 0).toNat) = (-1) then (some (0, m4)) else (bd (fn_Tape_step  m4) fun r6 m7 => bo_Lines_readLine_167 th p2 v3 m7) else none else none
set_option maxHeartbeats 4000000 in
theorem rb_Lines_readLine_127 {E : EE} (th : Nat) (p2 : Nat) (hk_th : ly_k th = (3, 4)) (hk_p2 : ly_k p2 = (0, 15))   (v3 : Int)  (mem : Mm) : RO E mt_Lines_readLine (bo_Lines_readLine_127 th p2  v3 mem) 127 [(0, rf th), (1, rf 1), (2, rf p2), (3, vi v3)] [] mem := by
  unfold bo_Lines_readLine_127
  refine RO_aload_n dc_Lines_readLine_127 rfl rfl ?_
  refine RO_getR (b := (th + 2)) gf_Lines_15 hk_th (by omega) dc_Lines_readLine_128 ?_
  refine RO_aload_n dc_Lines_readLine_131 rfl rfl ?_
  refine RO_getI gf_Lines_21 hk_th dc_Lines_readLine_132 ?_
  refine RO_aload_n dc_Lines_readLine_135 rfl rfl ?_
  refine RO_aload_n dc_Lines_readLine_136 rfl rfl ?_
  refine RO_getR (b := (p2 + 2)) gf_Lines_76 hk_p2 (by omega) dc_Lines_readLine_137 ?_
  refine RO_aload_n dc_Lines_readLine_140 rfl rfl ?_
  refine RO_getI gf_Lines_79 hk_p2 dc_Lines_readLine_141 ?_
  refine RO_callVi (As := [rf (p2 + 2), vi (mem p2 1)]) (rest := [vi (mem th 0), rf (th + 2)]) mi_Tape_which mv_Tape_which ml_Lines_72 lk_1 (Nat.le_of_ble_eq_true rfl) rfl (Nat.le_of_ble_eq_true rfl) (fun _ => rfl) dc_Lines_readLine_144 (fun rq mq hq => pf_Tape_which (p2 + 2) (mem p2 1) (cl_0_6 hk_p2) mem hq) (fun r1 m2 => ?_)
  refine RO_chk (fun hi3 => ?_)
  refine RO_is (cl_3_2 hk_th) hi3 dc_Lines_readLine_147 ?_
  refine RO_bnM (fun m4 => ?_)
  refine RO_aload_n dc_Lines_readLine_148 rfl rfl ?_
  refine RO_getR (b := (th + 2)) gf_Lines_15 hk_th (by omega) dc_Lines_readLine_149 ?_
  refine RO_aload_n dc_Lines_readLine_152 rfl rfl ?_
  refine RO_getI gf_Lines_21 hk_th dc_Lines_readLine_153 ?_
  refine RO_chk (fun hi5 => ?_)
  refine RO_ia (cl_3_2 hk_th) hi5 dc_Lines_readLine_156 ?_
  refine RO_iconst dc_Lines_readLine_157 ?_
  refine RO_icmp_ne (tgt := 163) dc_Lines_readLine_158 rfl ?_ ?_
  · refine RO_iconst dc_Lines_readLine_161 ?_
    exact RO_zret rfl (Or.inl rfl) dc_Lines_readLine_162
  · refine RO_aload_n dc_Lines_readLine_163 rfl rfl ?_
    refine RO_callVv (As := []) (rest := []) mi_Tape_step mv_Tape_step ml_Lines_60 lk_1 (Nat.le_of_ble_eq_true rfl) rfl (Nat.le_of_ble_eq_true rfl) dc_Lines_readLine_164 (fun rq mq hq => pf_Tape_step   m4 hq) (fun r6 m7 => ?_)
    refine RO_sub ?_ (rb_Lines_readLine_167 th p2 hk_th hk_p2 v3 m7)
    exact ⟨rfl, rfl, rfl, trivial⟩
def bo_Lines_readLine_113 (th : Nat) (p2 : Nat)  (v3 : Int) (mem : Mm) : Res := if v3 = 0 then (bo_Lines_readLine_127 th p2 v3 mem) else (if v3 = 1 then (bo_Lines_readLine_127 th p2 v3 mem) else (if v3 = 2 then (bo_Lines_readLine_127 th p2 v3 mem) else (bo_Lines_readLine_167 th p2 v3 mem)))
set_option maxHeartbeats 4000000 in
theorem rb_Lines_readLine_113 {E : EE} (th : Nat) (p2 : Nat) (hk_th : ly_k th = (3, 4)) (hk_p2 : ly_k p2 = (0, 15))   (v3 : Int)  (mem : Mm) : RO E mt_Lines_readLine (bo_Lines_readLine_113 th p2  v3 mem) 113 [(0, rf th), (1, rf 1), (2, rf p2), (3, vi v3)] [] mem := by
  unfold bo_Lines_readLine_113
  refine RO_iload_n dc_Lines_readLine_113 rfl rfl ?_
  refine RO_if_eq (tgt := 127) dc_Lines_readLine_114 rfl ?_ ?_
  · refine RO_sub ?_ (rb_Lines_readLine_127 th p2 hk_th hk_p2 v3 mem)
    exact ⟨rfl, rfl, rfl, rfl, trivial⟩
  · refine RO_iload_n dc_Lines_readLine_117 rfl rfl ?_
    refine RO_iconst dc_Lines_readLine_118 ?_
    refine RO_icmp_eq (tgt := 127) dc_Lines_readLine_119 rfl ?_ ?_
    · refine RO_sub ?_ (rb_Lines_readLine_127 th p2 hk_th hk_p2 v3 mem)
      exact ⟨rfl, rfl, rfl, rfl, trivial⟩
    · refine RO_iload_n dc_Lines_readLine_122 rfl rfl ?_
      refine RO_iconst dc_Lines_readLine_123 ?_
      refine RO_icmp_ne (tgt := 167) dc_Lines_readLine_124 rfl ?_ ?_
      · refine RO_sub ?_ (rb_Lines_readLine_127 th p2 hk_th hk_p2 v3 mem)
        exact ⟨rfl, rfl, rfl, rfl, trivial⟩
      · refine RO_sub ?_ (rb_Lines_readLine_167 th p2 hk_th hk_p2 v3 mem)
        exact ⟨rfl, rfl, rfl, trivial⟩
def fn_Lines_readLine (th : Nat) (p2 : Nat) (mem : Mm) : Res := bd (fn_Lines_kindOf (mem 1 2) mem) fun r1 m2 => if r1 = (-1) then (bd (fn_Tape_wrong 1 m2) fun r3 m4 => if r3 = 0 ∨ r3 = 1 then some (r3, m4) else none) else (if (m2 th 0) < 30 then (bd (fn_Tape_step  m2) fun r6 m7 => if 0 ≤ m7 th 0 ∧ m7 th 0 < 30 then bn (mst m7 (th + 1) (m7 th 0).toNat r1) fun m9 => if 0 ≤ m9 th 0 ∧ m9 th 0 < 30 then bn (mst m9 (th + 2) (m9 th 0).toNat (-1)) fun m11 => if 0 ≤ m11 th 0 ∧ m11 th 0 < 30 then bn (mst m11 (th + 3) (m11 th 0).toNat (-1)) fun m13 => if r1 = 2 then (bd (fn_Tape_which (p2 + 3) (m13 p2 2) m13) fun r14 m15 => if 0 ≤ m13 th 0 ∧ m13 th 0 < 30 then bn (mst m15 (th + 3) (m13 th 0).toNat r14) fun m17 => if 0 ≤ m17 th 0 ∧ m17 th 0 < 30 then if (m17 (th + 3) (m17 th 0).toNat) = (-1) then (some (0, m17)) else (bd (fn_Tape_step  m17) fun r19 m20 => bo_Lines_readLine_113 th p2 r1 m20) else none else none) else (bo_Lines_readLine_113 th p2 r1 m13) else none else none else none) else (bd (fn_Tape_wrong 5 m2) fun r21 m22 => if r21 = 0 ∨ r21 = 1 then some (r21, m22) else none))
set_option maxHeartbeats 4000000 in
theorem pf_Lines_readLine {E : EE} (th : Nat) (p2 : Nat) (hk_th : ly_k th = (3, 4)) (hk_p2 : ly_k p2 = (0, 15)) (mem : Mm) {r : Int} {mem9 : Mm} (h : fn_Lines_readLine th p2 mem = some (r, mem9)) : MetX E 7 yn_Lines_readLine cd_Lines_readLine 4 (some .boolean) [rf th, rf 1, rf p2] mem r mem9 := by
  refine RO_met (y := yn_Lines_readLine) (by decide +kernel) (Nat.le_of_ble_eq_true rfl) ?_ h
  show RO E mt_Lines_readLine (fn_Lines_readLine th p2 mem) 0 [(0, rf th), (1, rf 1), (2, rf p2)] [] mem
  unfold fn_Lines_readLine
  refine RO_aload_n dc_Lines_readLine_0 rfl rfl ?_
  refine RO_getW gf_Lines_48 lk_1 dc_Lines_readLine_1 ?_
  refine RO_callSi (As := [vw (mem 1 2)]) (rest := []) mi_Lines_kindOf ms_Lines_kindOf ml_Lines_52 (Nat.le_of_ble_eq_true rfl) rfl (Nat.le_of_ble_eq_true rfl) (fun _ => rfl) dc_Lines_readLine_4 (fun rq mq hq => pf_Lines_kindOf (mem 1 2)  mem hq) (fun r1 m2 => ?_)
  refine RO_istore_n dc_Lines_readLine_7 rfl (Nat.le_of_ble_eq_true rfl) ?_
  refine RO_iload_n dc_Lines_readLine_8 rfl rfl ?_
  refine RO_iconst dc_Lines_readLine_9 ?_
  refine RO_icmp_ne (tgt := 19) dc_Lines_readLine_10 rfl ?_ ?_
  · refine RO_aload_n dc_Lines_readLine_13 rfl rfl ?_
    refine RO_iconst dc_Lines_readLine_14 ?_
    refine RO_callVi (As := [vi 1]) (rest := []) mi_Tape_wrong mv_Tape_wrong ml_Lines_56 lk_1 (Nat.le_of_ble_eq_true rfl) rfl (Nat.le_of_ble_eq_true rfl) (fun _ => rfl) dc_Lines_readLine_15 (fun rq mq hq => pf_Tape_wrong 1  m2 hq) (fun r3 m4 => ?_)
    refine RO_chk (fun hz5 => ?_)
    exact RO_zret rfl hz5 dc_Lines_readLine_18
  · refine RO_aload_n dc_Lines_readLine_19 rfl rfl ?_
    refine RO_getI gf_Lines_21 hk_th dc_Lines_readLine_20 ?_
    refine RO_bipush dc_Lines_readLine_23 ?_
    refine RO_icmp_lt (tgt := 34) dc_Lines_readLine_25 rfl ?_ ?_
    · refine RO_aload_n dc_Lines_readLine_34 rfl rfl ?_
      refine RO_callVv (As := []) (rest := []) mi_Tape_step mv_Tape_step ml_Lines_60 lk_1 (Nat.le_of_ble_eq_true rfl) rfl (Nat.le_of_ble_eq_true rfl) dc_Lines_readLine_35 (fun rq mq hq => pf_Tape_step   m2 hq) (fun r6 m7 => ?_)
      refine RO_aload_n dc_Lines_readLine_38 rfl rfl ?_
      refine RO_getR (b := (th + 1)) gf_Lines_9 hk_th (by omega) dc_Lines_readLine_39 ?_
      refine RO_aload_n dc_Lines_readLine_42 rfl rfl ?_
      refine RO_getI gf_Lines_21 hk_th dc_Lines_readLine_43 ?_
      refine RO_iload_n dc_Lines_readLine_46 rfl rfl ?_
      refine RO_chk (fun hi8 => ?_)
      refine RO_is (cl_3_1 hk_th) hi8 dc_Lines_readLine_47 ?_
      refine RO_bnM (fun m9 => ?_)
      refine RO_aload_n dc_Lines_readLine_48 rfl rfl ?_
      refine RO_getR (b := (th + 2)) gf_Lines_15 hk_th (by omega) dc_Lines_readLine_49 ?_
      refine RO_aload_n dc_Lines_readLine_52 rfl rfl ?_
      refine RO_getI gf_Lines_21 hk_th dc_Lines_readLine_53 ?_
      refine RO_iconst dc_Lines_readLine_56 ?_
      refine RO_chk (fun hi10 => ?_)
      refine RO_is (cl_3_2 hk_th) hi10 dc_Lines_readLine_57 ?_
      refine RO_bnM (fun m11 => ?_)
      refine RO_aload_n dc_Lines_readLine_58 rfl rfl ?_
      refine RO_getR (b := (th + 3)) gf_Lines_18 hk_th (by omega) dc_Lines_readLine_59 ?_
      refine RO_aload_n dc_Lines_readLine_62 rfl rfl ?_
      refine RO_getI gf_Lines_21 hk_th dc_Lines_readLine_63 ?_
      refine RO_iconst dc_Lines_readLine_66 ?_
      refine RO_chk (fun hi12 => ?_)
      refine RO_is (cl_3_3 hk_th) hi12 dc_Lines_readLine_67 ?_
      refine RO_bnM (fun m13 => ?_)
      refine RO_iload_n dc_Lines_readLine_68 rfl rfl ?_
      refine RO_iconst dc_Lines_readLine_69 ?_
      refine RO_icmp_ne (tgt := 113) dc_Lines_readLine_70 rfl ?_ ?_
      · refine RO_aload_n dc_Lines_readLine_73 rfl rfl ?_
        refine RO_getR (b := (th + 3)) gf_Lines_18 hk_th (by omega) dc_Lines_readLine_74 ?_
        refine RO_aload_n dc_Lines_readLine_77 rfl rfl ?_
        refine RO_getI gf_Lines_21 hk_th dc_Lines_readLine_78 ?_
        refine RO_aload_n dc_Lines_readLine_81 rfl rfl ?_
        refine RO_aload_n dc_Lines_readLine_82 rfl rfl ?_
        refine RO_getR (b := (p2 + 3)) gf_Lines_63 hk_p2 (by omega) dc_Lines_readLine_83 ?_
        refine RO_aload_n dc_Lines_readLine_86 rfl rfl ?_
        refine RO_getI gf_Lines_69 hk_p2 dc_Lines_readLine_87 ?_
        refine RO_callVi (As := [rf (p2 + 3), vi (m13 p2 2)]) (rest := [vi (m13 th 0), rf (th + 3)]) mi_Tape_which mv_Tape_which ml_Lines_72 lk_1 (Nat.le_of_ble_eq_true rfl) rfl (Nat.le_of_ble_eq_true rfl) (fun _ => rfl) dc_Lines_readLine_90 (fun rq mq hq => pf_Tape_which (p2 + 3) (m13 p2 2) (cl_0_7 hk_p2) m13 hq) (fun r14 m15 => ?_)
        refine RO_chk (fun hi16 => ?_)
        refine RO_is (cl_3_3 hk_th) hi16 dc_Lines_readLine_93 ?_
        refine RO_bnM (fun m17 => ?_)
        refine RO_aload_n dc_Lines_readLine_94 rfl rfl ?_
        refine RO_getR (b := (th + 3)) gf_Lines_18 hk_th (by omega) dc_Lines_readLine_95 ?_
        refine RO_aload_n dc_Lines_readLine_98 rfl rfl ?_
        refine RO_getI gf_Lines_21 hk_th dc_Lines_readLine_99 ?_
        refine RO_chk (fun hi18 => ?_)
        refine RO_ia (cl_3_3 hk_th) hi18 dc_Lines_readLine_102 ?_
        refine RO_iconst dc_Lines_readLine_103 ?_
        refine RO_icmp_ne (tgt := 109) dc_Lines_readLine_104 rfl ?_ ?_
        · refine RO_iconst dc_Lines_readLine_107 ?_
          exact RO_zret rfl (Or.inl rfl) dc_Lines_readLine_108
        · refine RO_aload_n dc_Lines_readLine_109 rfl rfl ?_
          refine RO_callVv (As := []) (rest := []) mi_Tape_step mv_Tape_step ml_Lines_60 lk_1 (Nat.le_of_ble_eq_true rfl) rfl (Nat.le_of_ble_eq_true rfl) dc_Lines_readLine_110 (fun rq mq hq => pf_Tape_step   m17 hq) (fun r19 m20 => ?_)
          refine RO_sub ?_ (rb_Lines_readLine_113 th p2 hk_th hk_p2 r1 m20)
          exact ⟨rfl, rfl, rfl, rfl, trivial⟩
      · refine RO_sub ?_ (rb_Lines_readLine_113 th p2 hk_th hk_p2 r1 m13)
        exact ⟨rfl, rfl, rfl, rfl, trivial⟩
    · refine RO_aload_n dc_Lines_readLine_28 rfl rfl ?_
      refine RO_iconst dc_Lines_readLine_29 ?_
      refine RO_callVi (As := [vi 5]) (rest := []) mi_Tape_wrong mv_Tape_wrong ml_Lines_56 lk_1 (Nat.le_of_ble_eq_true rfl) rfl (Nat.le_of_ble_eq_true rfl) (fun _ => rfl) dc_Lines_readLine_30 (fun rq mq hq => pf_Tape_wrong 5  m2 hq) (fun r21 m22 => ?_)
      refine RO_chk (fun hz23 => ?_)
      exact RO_zret rfl hz23 dc_Lines_readLine_33
