def bo_Model_mark_59 (p1 : Int) (p2 : Int)  (v3 : Int) (s0 : Int) (mem : Mm) : Res := bd (fn_Model_laysLines v3 s0 mem) fun r1 m2 => bd (fn_Model_laysTold v3 s0 m2) fun r3 m4 => if p2 = 0 then (bd (fn_Model_copies 16 245 0 64 247 (w32 (16 * p1)) m4) fun r5 m6 => some (1, m6)) else (bd (fn_Model_copies 64 247 (w32 (16 * p1)) 16 245 0 m4) fun r7 m8 => bn (mst m8 203 58 0) fun m9 => some (1, m9))
set_option maxHeartbeats 4000000 in
theorem rb_Model_mark_59 {E : EE} (p1 : Int) (p2 : Int)    (v3 : Int) (s0 : Int)  (mem : Mm) : RO E mt_Model_mark (bo_Model_mark_59 p1 p2  v3 s0 mem) 59 [(0, rf 203), (1, vi p1), (2, vi p2), (3, vi v3)] [vi s0] mem := by
  unfold bo_Model_mark_59
  refine RO_istore dc_Model_mark_59 (Nat.le_of_ble_eq_true rfl) ?_
  refine RO_aload_n dc_Model_mark_61 rfl rfl ?_
  refine RO_iload_n dc_Model_mark_62 rfl rfl ?_
  refine RO_iload dc_Model_mark_63 rfl ?_
  refine RO_callVv (As := [vi v3, vi s0]) (rest := []) mi_Model_laysLines mv_Model_laysLines ml_Model_422 lk_203 (Nat.le_of_ble_eq_true rfl) rfl (Nat.le_of_ble_eq_true rfl) dc_Model_mark_65 (fun rq mq hq => pf_Model_laysLines v3 s0  mem hq) (fun r1 m2 => ?_)
  refine RO_aload_n dc_Model_mark_68 rfl rfl ?_
  refine RO_iload_n dc_Model_mark_69 rfl rfl ?_
  refine RO_iload dc_Model_mark_70 rfl ?_
  refine RO_callVv (As := [vi v3, vi s0]) (rest := []) mi_Model_laysTold mv_Model_laysTold ml_Model_570 lk_203 (Nat.le_of_ble_eq_true rfl) rfl (Nat.le_of_ble_eq_true rfl) dc_Model_mark_72 (fun rq mq hq => pf_Model_laysTold v3 s0  m2 hq) (fun r3 m4 => ?_)
  refine RO_iload_n dc_Model_mark_75 rfl rfl ?_
  refine RO_if_eq (tgt := 103) dc_Model_mark_76 rfl ?_ ?_
  · refine RO_aload_n dc_Model_mark_103 rfl rfl ?_
    refine RO_getR (b := 245) gf_Model_135 lk_203 rfl dc_Model_mark_104 ?_
    refine RO_iconst dc_Model_mark_107 ?_
    refine RO_aload_n dc_Model_mark_108 rfl rfl ?_
    refine RO_getR (b := 247) gf_Model_141 lk_203 rfl dc_Model_mark_109 ?_
    refine RO_bipush dc_Model_mark_112 ?_
    refine RO_iload_n dc_Model_mark_114 rfl rfl ?_
    refine RO_imul dc_Model_mark_115 ?_
    refine RO_callSv (As := [rf 245, vi 0, rf 247, vi (w32 (16 * p1))]) (rest := []) mi_Model_copies ms_Model_copies ml_Model_482 (Nat.le_of_ble_eq_true rfl) rfl (Nat.le_of_ble_eq_true rfl) dc_Model_mark_116 (fun rq mq hq => pf_Model_copies 16 245 0 64 247 (w32 (16 * p1)) lk_245 lk_247 m4 hq) (fun r5 m6 => ?_)
    refine RO_iconst dc_Model_mark_119 ?_
    exact RO_zret rfl (Or.inr rfl) dc_Model_mark_120
  · refine RO_aload_n dc_Model_mark_79 rfl rfl ?_
    refine RO_getR (b := 247) gf_Model_141 lk_203 rfl dc_Model_mark_80 ?_
    refine RO_bipush dc_Model_mark_83 ?_
    refine RO_iload_n dc_Model_mark_85 rfl rfl ?_
    refine RO_imul dc_Model_mark_86 ?_
    refine RO_aload_n dc_Model_mark_87 rfl rfl ?_
    refine RO_getR (b := 245) gf_Model_135 lk_203 rfl dc_Model_mark_88 ?_
    refine RO_iconst dc_Model_mark_91 ?_
    refine RO_callSv (As := [rf 247, vi (w32 (16 * p1)), rf 245, vi 0]) (rest := []) mi_Model_copies ms_Model_copies ml_Model_482 (Nat.le_of_ble_eq_true rfl) rfl (Nat.le_of_ble_eq_true rfl) dc_Model_mark_92 (fun rq mq hq => pf_Model_copies 64 247 (w32 (16 * p1)) 16 245 0 lk_247 lk_245 m4 hq) (fun r7 m8 => ?_)
    refine RO_aload_n dc_Model_mark_95 rfl rfl ?_
    refine RO_iconst dc_Model_mark_96 ?_
    refine RO_putI gp_Model_416 lk_203 dc_Model_mark_97 ?_
    refine RO_bnM (fun m9 => ?_)
    refine RO_goto (tgt := 119) dc_Model_mark_100 rfl ?_
    refine RO_iconst dc_Model_mark_119 ?_
    exact RO_zret rfl (Or.inr rfl) dc_Model_mark_120
def bo_Model_mark_47 (p1 : Int) (p2 : Int)  (s0 : Int) (mem : Mm) : Res := if p2 = 0 then (bo_Model_mark_59 p1 p2 s0 (w32 (1 + p1)) mem) else (bo_Model_mark_59 p1 p2 s0 0 mem)
set_option maxHeartbeats 4000000 in
theorem rb_Model_mark_47 {E : EE} (p1 : Int) (p2 : Int)    (s0 : Int)  (mem : Mm) : RO E mt_Model_mark (bo_Model_mark_47 p1 p2  s0 mem) 47 [(0, rf 203), (1, vi p1), (2, vi p2)] [vi s0] mem := by
  unfold bo_Model_mark_47
  refine RO_istore_n dc_Model_mark_47 rfl (Nat.le_of_ble_eq_true rfl) ?_
  refine RO_iload_n dc_Model_mark_48 rfl rfl ?_
  refine RO_if_eq (tgt := 56) dc_Model_mark_49 rfl ?_ ?_
  · refine RO_iconst dc_Model_mark_56 ?_
    refine RO_iload_n dc_Model_mark_57 rfl rfl ?_
    refine RO_iadd dc_Model_mark_58 ?_
    refine RO_sub ?_ (rb_Model_mark_59 p1 p2 s0 (w32 (1 + p1)) mem)
    exact ⟨rfl, rfl, rfl, rfl, trivial⟩
  · refine RO_iconst dc_Model_mark_52 ?_
    refine RO_goto (tgt := 59) dc_Model_mark_53 rfl ?_
    refine RO_sub ?_ (rb_Model_mark_59 p1 p2 s0 0 mem)
    exact ⟨rfl, rfl, rfl, rfl, trivial⟩
def bo_Model_mark_29 (p1 : Int) (p2 : Int)   (mem : Mm) : Res := if 0 ≤ p1 ∧ p1 < 4 then bn (mst mem 249 p1.toNat 1) fun m2 => if p2 = 0 then (bo_Model_mark_47 p1 p2 0 m2) else (bo_Model_mark_47 p1 p2 (w32 (1 + p1)) m2) else none
set_option maxHeartbeats 4000000 in
theorem rb_Model_mark_29 {E : EE} (p1 : Int) (p2 : Int)      (mem : Mm) : RO E mt_Model_mark (bo_Model_mark_29 p1 p2   mem) 29 [(0, rf 203), (1, vi p1), (2, vi p2)] [] mem := by
  unfold bo_Model_mark_29
  refine RO_aload_n dc_Model_mark_29 rfl rfl ?_
  refine RO_getR (b := 249) gf_Model_147 lk_203 rfl dc_Model_mark_30 ?_
  refine RO_iload_n dc_Model_mark_33 rfl rfl ?_
  refine RO_iconst dc_Model_mark_34 ?_
  refine RO_chk (fun hi1 => ?_)
  refine RO_zs lk_249 hi1 (Or.inr rfl) dc_Model_mark_35 ?_
  refine RO_bnM (fun m2 => ?_)
  refine RO_iload_n dc_Model_mark_36 rfl rfl ?_
  refine RO_if_eq (tgt := 46) dc_Model_mark_37 rfl ?_ ?_
  · refine RO_iconst dc_Model_mark_46 ?_
    refine RO_sub ?_ (rb_Model_mark_47 p1 p2 0 m2)
    exact ⟨rfl, rfl, rfl, trivial⟩
  · refine RO_iconst dc_Model_mark_40 ?_
    refine RO_iload_n dc_Model_mark_41 rfl rfl ?_
    refine RO_iadd dc_Model_mark_42 ?_
    refine RO_goto (tgt := 47) dc_Model_mark_43 rfl ?_
    refine RO_sub ?_ (rb_Model_mark_47 p1 p2 (w32 (1 + p1)) m2)
    exact ⟨rfl, rfl, rfl, trivial⟩
def fn_Model_mark (p1 : Int) (p2 : Int) (mem : Mm) : Res := bn (mst mem 203 0 0) fun m1 => bd (fn_Model_within p1 0 3 m1) fun r2 m3 => if r2 = 0 then (some (0, m3)) else (if p2 = 0 then (bo_Model_mark_29 p1 p2 m3) else (if 0 ≤ p1 ∧ p1 < 4 then if (m3 249 p1.toNat) = 0 then (some (0, m3)) else (bo_Model_mark_29 p1 p2 m3) else none))
set_option maxHeartbeats 4000000 in
theorem pf_Model_mark {E : EE} (p1 : Int) (p2 : Int)  (mem : Mm) {r : Int} {mem9 : Mm} (h : fn_Model_mark p1 p2 mem = some (r, mem9)) : MetX E 2 yn_Model_mark cd_Model_mark 5 (some .boolean) [rf 203, vi p1, vi p2] mem r mem9 := by
  refine RO_met (y := yn_Model_mark) (by decide +kernel) (Nat.le_of_ble_eq_true rfl) ?_ h
  show RO E mt_Model_mark (fn_Model_mark p1 p2 mem) 0 [(0, rf 203), (1, vi p1), (2, vi p2)] [] mem
  unfold fn_Model_mark
  refine RO_aload_n dc_Model_mark_0 rfl rfl ?_
  refine RO_iconst dc_Model_mark_1 ?_
  refine RO_putI gp_Model_183 lk_203 dc_Model_mark_2 ?_
  refine RO_bnM (fun m1 => ?_)
  refine RO_iload_n dc_Model_mark_5 rfl rfl ?_
  refine RO_iconst dc_Model_mark_6 ?_
  refine RO_iconst dc_Model_mark_7 ?_
  refine RO_callSi (As := [vi p1, vi 0, vi 3]) (rest := []) mi_Model_within ms_Model_within ml_Model_318 (Nat.le_of_ble_eq_true rfl) rfl (Nat.le_of_ble_eq_true rfl) (fun _ => rfl) dc_Model_mark_8 (fun rq mq hq => pf_Model_within p1 0 3  m1 hq) (fun r2 m3 => ?_)
  refine RO_if_eq (tgt := 27) dc_Model_mark_11 rfl ?_ ?_
  · refine RO_iconst dc_Model_mark_27 ?_
    exact RO_zret rfl (Or.inl rfl) dc_Model_mark_28
  · refine RO_iload_n dc_Model_mark_14 rfl rfl ?_
    refine RO_if_eq (tgt := 29) dc_Model_mark_15 rfl ?_ ?_
    · refine RO_sub ?_ (rb_Model_mark_29 p1 p2 m3)
      exact ⟨rfl, rfl, rfl, trivial⟩
    · refine RO_aload_n dc_Model_mark_18 rfl rfl ?_
      refine RO_getR (b := 249) gf_Model_147 lk_203 rfl dc_Model_mark_19 ?_
      refine RO_iload_n dc_Model_mark_22 rfl rfl ?_
      refine RO_chk (fun hi4 => ?_)
      refine RO_za lk_249 hi4 dc_Model_mark_23 ?_
      refine RO_if_ne (tgt := 29) dc_Model_mark_24 rfl ?_ ?_
      · refine RO_iconst dc_Model_mark_27 ?_
        exact RO_zret rfl (Or.inl rfl) dc_Model_mark_28
      · refine RO_sub ?_ (rb_Model_mark_29 p1 p2 m3)
        exact ⟨rfl, rfl, rfl, trivial⟩
def fn_Model_count (p1 : Int) (mem : Mm) : Res := bn (mst mem 203 0 0) fun m1 => bd (fn_Model_within p1 0 13 m1) fun r2 m3 => if r2 = 0 then (some ((-1), m3)) else (if p1 < 5 then (if 0 ≤ p1 ∧ p1 < 10 then some (m3 205 p1.toNat, m3) else none) else (if p1 < 9 then (if p1 = 5 then (some (m3 245 (0 : Int).toNat, m3)) else (if p1 = 6 then (some (m3 245 (1 : Int).toNat, m3)) else (if p1 = 7 then (some (m3 245 (2 : Int).toNat, m3)) else (some (m3 245 (3 : Int).toNat, m3))))) else (if p1 < 11 then (if p1 = 9 then (some (m3 236 (0 : Int).toNat, m3)) else (some (m3 240 (0 : Int).toNat, m3))) else (if p1 = 11 then (bd (fn_Model_toldMany  m3) fun r5 m6 => some (r5, m6)) else (if p1 = 12 then (some (m3 203 58, m3)) else (some (m3 203 1, m3)))))))
set_option maxHeartbeats 4000000 in
theorem pf_Model_count {E : EE} (p1 : Int)  (mem : Mm) {r : Int} {mem9 : Mm} (h : fn_Model_count p1 mem = some (r, mem9)) : MetX E 2 yn_Model_count cd_Model_count 2 (some .int) [rf 203, vi p1] mem r mem9 := by
  refine RO_met (y := yn_Model_count) (by decide +kernel) (Nat.le_of_ble_eq_true rfl) ?_ h
  show RO E mt_Model_count (fn_Model_count p1 mem) 0 [(0, rf 203), (1, vi p1)] [] mem
  unfold fn_Model_count
  refine RO_aload_n dc_Model_count_0 rfl rfl ?_
  refine RO_iconst dc_Model_count_1 ?_
  refine RO_putI gp_Model_183 lk_203 dc_Model_count_2 ?_
  refine RO_bnM (fun m1 => ?_)
  refine RO_iload_n dc_Model_count_5 rfl rfl ?_
  refine RO_iconst dc_Model_count_6 ?_
  refine RO_bipush dc_Model_count_7 ?_
  refine RO_callSi (As := [vi p1, vi 0, vi 13]) (rest := []) mi_Model_within ms_Model_within ml_Model_318 (Nat.le_of_ble_eq_true rfl) rfl (Nat.le_of_ble_eq_true rfl) (fun _ => rfl) dc_Model_count_9 (fun rq mq hq => pf_Model_within p1 0 13  m1 hq) (fun r2 m3 => ?_)
  refine RO_if_ne (tgt := 17) dc_Model_count_12 rfl ?_ ?_
  · refine RO_iconst dc_Model_count_15 ?_
    exact RO_iret rfl dc_Model_count_16
  · refine RO_iload_n dc_Model_count_17 rfl rfl ?_
    refine RO_iconst dc_Model_count_18 ?_
    refine RO_icmp_ge (tgt := 29) dc_Model_count_19 rfl ?_ ?_
    · refine RO_aload_n dc_Model_count_22 rfl rfl ?_
      refine RO_getR (b := 205) gf_Model_13 lk_203 rfl dc_Model_count_23 ?_
      refine RO_iload_n dc_Model_count_26 rfl rfl ?_
      refine RO_chk (fun hi4 => ?_)
      refine RO_ia lk_205 hi4 dc_Model_count_27 ?_
      exact RO_iret rfl dc_Model_count_28
    · refine RO_iload_n dc_Model_count_29 rfl rfl ?_
      refine RO_bipush dc_Model_count_30 ?_
      refine RO_icmp_ge (tgt := 71) dc_Model_count_32 rfl ?_ ?_
      · refine RO_aload_n dc_Model_count_35 rfl rfl ?_
        refine RO_getR (b := 245) gf_Model_135 lk_203 rfl dc_Model_count_36 ?_
        refine RO_iload_n dc_Model_count_39 rfl rfl ?_
        refine RO_iconst dc_Model_count_40 ?_
        refine RO_icmp_ne (tgt := 48) dc_Model_count_41 rfl ?_ ?_
        · refine RO_iconst dc_Model_count_44 ?_
          refine RO_goto (tgt := 69) dc_Model_count_45 rfl ?_
          refine RO_ia lk_245 ⟨by decide, by decide⟩ dc_Model_count_69 ?_
          exact RO_iret rfl dc_Model_count_70
        · refine RO_iload_n dc_Model_count_48 rfl rfl ?_
          refine RO_bipush dc_Model_count_49 ?_
          refine RO_icmp_ne (tgt := 58) dc_Model_count_51 rfl ?_ ?_
          · refine RO_iconst dc_Model_count_54 ?_
            refine RO_goto (tgt := 69) dc_Model_count_55 rfl ?_
            refine RO_ia lk_245 ⟨by decide, by decide⟩ dc_Model_count_69 ?_
            exact RO_iret rfl dc_Model_count_70
          · refine RO_iload_n dc_Model_count_58 rfl rfl ?_
            refine RO_bipush dc_Model_count_59 ?_
            refine RO_icmp_ne (tgt := 68) dc_Model_count_61 rfl ?_ ?_
            · refine RO_iconst dc_Model_count_64 ?_
              refine RO_goto (tgt := 69) dc_Model_count_65 rfl ?_
              refine RO_ia lk_245 ⟨by decide, by decide⟩ dc_Model_count_69 ?_
              exact RO_iret rfl dc_Model_count_70
            · refine RO_iconst dc_Model_count_68 ?_
              refine RO_ia lk_245 ⟨by decide, by decide⟩ dc_Model_count_69 ?_
              exact RO_iret rfl dc_Model_count_70
      · refine RO_iload_n dc_Model_count_71 rfl rfl ?_
        refine RO_bipush dc_Model_count_72 ?_
        refine RO_icmp_ge (tgt := 99) dc_Model_count_74 rfl ?_ ?_
        · refine RO_iload_n dc_Model_count_77 rfl rfl ?_
          refine RO_bipush dc_Model_count_78 ?_
          refine RO_icmp_ne (tgt := 92) dc_Model_count_80 rfl ?_ ?_
          · refine RO_aload_n dc_Model_count_83 rfl rfl ?_
            refine RO_getR (b := 236) gf_Model_108 lk_203 rfl dc_Model_count_84 ?_
            refine RO_iconst dc_Model_count_87 ?_
            refine RO_ia lk_236 ⟨by decide, by decide⟩ dc_Model_count_88 ?_
            refine RO_goto (tgt := 98) dc_Model_count_89 rfl ?_
            exact RO_iret rfl dc_Model_count_98
          · refine RO_aload_n dc_Model_count_92 rfl rfl ?_
            refine RO_getR (b := 240) gf_Model_120 lk_203 rfl dc_Model_count_93 ?_
            refine RO_iconst dc_Model_count_96 ?_
            refine RO_ia lk_240 ⟨by decide, by decide⟩ dc_Model_count_97 ?_
            exact RO_iret rfl dc_Model_count_98
        · refine RO_iload_n dc_Model_count_99 rfl rfl ?_
          refine RO_bipush dc_Model_count_100 ?_
          refine RO_icmp_ne (tgt := 112) dc_Model_count_102 rfl ?_ ?_
          · refine RO_aload_n dc_Model_count_105 rfl rfl ?_
            refine RO_callVi (As := []) (rest := []) mi_Model_toldMany mv_Model_toldMany ml_Model_573 lk_203 (Nat.le_of_ble_eq_true rfl) rfl (Nat.le_of_ble_eq_true rfl) (fun _ => rfl) dc_Model_count_106 (fun rq mq hq => pf_Model_toldMany   m3 hq) (fun r5 m6 => ?_)
            refine RO_goto (tgt := 129) dc_Model_count_109 rfl ?_
            exact RO_iret rfl dc_Model_count_129
          · refine RO_iload_n dc_Model_count_112 rfl rfl ?_
            refine RO_bipush dc_Model_count_113 ?_
            refine RO_icmp_ne (tgt := 125) dc_Model_count_115 rfl ?_ ?_
            · refine RO_aload_n dc_Model_count_118 rfl rfl ?_
              refine RO_getI gf_Model_416 lk_203 dc_Model_count_119 ?_
              refine RO_goto (tgt := 129) dc_Model_count_122 rfl ?_
              exact RO_iret rfl dc_Model_count_129
            · refine RO_aload_n dc_Model_count_125 rfl rfl ?_
              refine RO_getI gf_Model_189 lk_203 dc_Model_count_126 ?_
              exact RO_iret rfl dc_Model_count_129
def bo_Model_reads_424  (k11 : Int → Int → Mm → Res) (v1 : Int) (v2 : Int) (mem : Mm) : Res := bd (fn_Model_nextToken  mem) fun r1 m2 => k11 v1 v2 m2
set_option maxHeartbeats 4000000 in
theorem rb_Model_reads_424 {E : EE}   (k11 : Int → Int → Mm → Res) (H11 : ∀ (v1 : Int) (v2 : Int)  (mem : Mm), RO E mt_Model_reads (k11 v1 v2 mem) 11 [(0, rf 203), (1, vi v1), (2, vi v2)] [] mem) (v1 : Int) (v2 : Int)  (mem : Mm) : RO E mt_Model_reads (bo_Model_reads_424  k11 v1 v2 mem) 424 [(0, rf 203), (1, vi v1), (2, vi v2)] [] mem := by
  unfold bo_Model_reads_424
  refine RO_aload_n dc_Model_reads_424 rfl rfl ?_
  refine RO_callVv (As := []) (rest := []) mi_Model_nextToken mv_Model_nextToken ml_Model_252 lk_203 (Nat.le_of_ble_eq_true rfl) rfl (Nat.le_of_ble_eq_true rfl) dc_Model_reads_425 (fun rq mq hq => pf_Model_nextToken   mem hq) (fun r1 m2 => ?_)
  refine RO_goto (tgt := 11) dc_Model_reads_428 rfl ?_
  refine RO_sub ?_ (H11 v1 v2 m2)
  exact ⟨rfl, rfl, rfl, trivial⟩
def bo_Model_reads_418    (mem : Mm) : Res := bd (fn_Model_fails 1 mem) fun r1 m2 => if r1 = 0 ∨ r1 = 1 then some (r1, m2) else none
set_option maxHeartbeats 4000000 in
theorem rb_Model_reads_418 {E : EE}       (mem : Mm) : RO E mt_Model_reads (bo_Model_reads_418    mem) 418 [(0, rf 203)] [] mem := by
  unfold bo_Model_reads_418
  refine RO_aload_n dc_Model_reads_418 rfl rfl ?_
  refine RO_iconst dc_Model_reads_419 ?_
  refine RO_callVi (As := [vi 1]) (rest := []) mi_Model_fails mv_Model_fails ml_Model_245 lk_203 (Nat.le_of_ble_eq_true rfl) rfl (Nat.le_of_ble_eq_true rfl) (fun _ => rfl) dc_Model_reads_420 (fun rq mq hq => pf_Model_fails 1  mem hq) (fun r1 m2 => ?_)
  refine RO_chk (fun hz3 => ?_)
  exact RO_zret rfl hz3 dc_Model_reads_423
def bo_Model_reads_399   (v1 : Int) (mem : Mm) : Res := if v1 = 0 then (bd (fn_Model_isSign 59 mem) fun r1 m2 => if r1 = 0 then (bo_Model_reads_418 m2) else (bd (fn_Model_nextToken  m2) fun r3 m4 => some (1, m4))) else (bo_Model_reads_418 mem)
set_option maxHeartbeats 4000000 in
theorem rb_Model_reads_399 {E : EE}     (v1 : Int)  (mem : Mm) : RO E mt_Model_reads (bo_Model_reads_399   v1 mem) 399 [(0, rf 203), (1, vi v1)] [] mem := by
  unfold bo_Model_reads_399
  refine RO_iload_n dc_Model_reads_399 rfl rfl ?_
  refine RO_if_ne (tgt := 418) dc_Model_reads_400 rfl ?_ ?_
  · refine RO_aload_n dc_Model_reads_403 rfl rfl ?_
    refine RO_bipush dc_Model_reads_404 ?_
    refine RO_callVi (As := [vi 59]) (rest := []) mi_Model_isSign mv_Model_isSign ml_Model_241 lk_203 (Nat.le_of_ble_eq_true rfl) rfl (Nat.le_of_ble_eq_true rfl) (fun _ => rfl) dc_Model_reads_406 (fun rq mq hq => pf_Model_isSign 59  mem hq) (fun r1 m2 => ?_)
    refine RO_if_eq (tgt := 418) dc_Model_reads_409 rfl ?_ ?_
    · refine RO_sub ?_ (rb_Model_reads_418 m2)
      exact ⟨rfl, trivial⟩
    · refine RO_aload_n dc_Model_reads_412 rfl rfl ?_
      refine RO_callVv (As := []) (rest := []) mi_Model_nextToken mv_Model_nextToken ml_Model_252 lk_203 (Nat.le_of_ble_eq_true rfl) rfl (Nat.le_of_ble_eq_true rfl) dc_Model_reads_413 (fun rq mq hq => pf_Model_nextToken   m2 hq) (fun r3 m4 => ?_)
      refine RO_iconst dc_Model_reads_416 ?_
      exact RO_zret rfl (Or.inr rfl) dc_Model_reads_417
  · refine RO_sub ?_ (rb_Model_reads_418 mem)
    exact ⟨rfl, trivial⟩
def bo_Model_reads_379  (k11 : Int → Int → Mm → Res) (k379 : Int → Int → Mm → Res) (v1 : Int) (v2 : Int) (mem : Mm) : Res := if 0 < v1 then (if 0 ≤ v1 ∧ v1 < 7 then if (mem 224 v1.toNat) = 1 then (k379 (w32 (v1 + (-1))) v2 mem) else (bo_Model_reads_424 k11 v1 v2 mem) else none) else (bo_Model_reads_424 k11 v1 v2 mem)
set_option maxHeartbeats 4000000 in
theorem rb_Model_reads_379 {E : EE}   (k11 : Int → Int → Mm → Res) (k379 : Int → Int → Mm → Res) (H11 : ∀ (v1 : Int) (v2 : Int)  (mem : Mm), RO E mt_Model_reads (k11 v1 v2 mem) 11 [(0, rf 203), (1, vi v1), (2, vi v2)] [] mem) (H379 : ∀ (v1 : Int) (v2 : Int)  (mem : Mm), RO E mt_Model_reads (k379 v1 v2 mem) 379 [(0, rf 203), (1, vi v1), (2, vi v2)] [] mem) (v1 : Int) (v2 : Int)  (mem : Mm) : RO E mt_Model_reads (bo_Model_reads_379  k11 k379 v1 v2 mem) 379 [(0, rf 203), (1, vi v1), (2, vi v2)] [] mem := by
  unfold bo_Model_reads_379
  refine RO_iload_n dc_Model_reads_379 rfl rfl ?_
  refine RO_if_le (tgt := 424) dc_Model_reads_380 rfl ?_ ?_
  · refine RO_aload_n dc_Model_reads_383 rfl rfl ?_
    refine RO_getR (b := 224) gf_Model_71 lk_203 rfl dc_Model_reads_384 ?_
    refine RO_iload_n dc_Model_reads_387 rfl rfl ?_
    refine RO_chk (fun hi1 => ?_)
    refine RO_ia lk_224 hi1 dc_Model_reads_388 ?_
    refine RO_iconst dc_Model_reads_389 ?_
    refine RO_icmp_ne (tgt := 424) dc_Model_reads_390 rfl ?_ ?_
    · refine RO_iinc dc_Model_reads_393 rfl (Nat.le_of_ble_eq_true rfl) ?_
      refine RO_goto (tgt := 379) dc_Model_reads_396 rfl ?_
      refine RO_sub ?_ (H379 (w32 (v1 + (-1))) v2 mem)
      exact ⟨rfl, rfl, rfl, trivial⟩
    · refine RO_sub ?_ (rb_Model_reads_424 k11 H11 v1 v2 mem)
      exact ⟨rfl, rfl, rfl, trivial⟩
  · refine RO_sub ?_ (rb_Model_reads_424 k11 H11 v1 v2 mem)
    exact ⟨rfl, rfl, rfl, trivial⟩
def lp_Model_reads_379  (k11 : Int → Int → Mm → Res) : Nat → Int → Int → Mm → Res
  | 0 => fun _ _ _ => none
  | n + 1 => bo_Model_reads_379  k11 (lp_Model_reads_379  k11 n)
theorem rp_Model_reads_379 {E : EE}   (k11 : Int → Int → Mm → Res) (H11 : ∀ (v1 : Int) (v2 : Int)  (mem : Mm), RO E mt_Model_reads (k11 v1 v2 mem) 11 [(0, rf 203), (1, vi v1), (2, vi v2)] [] mem) : ∀ (n : Nat) (v1 : Int) (v2 : Int)  (mem : Mm), RO E mt_Model_reads (lp_Model_reads_379  k11 n v1 v2 mem) 379 [(0, rf 203), (1, vi v1), (2, vi v2)] [] mem := by
  intro n
  induction n with
  | zero => intro v1 v2  mem; exact RO_none
  | succ n ih => intro v1 v2  mem; exact rb_Model_reads_379   k11 (lp_Model_reads_379  k11 n) H11 ih v1 v2  mem
def bo_Model_reads_342  (k11 : Int → Int → Mm → Res) (v1 : Int) (s1 : Int) (mem : Mm) : Res := bd (fn_Model_puts s1 mem) fun r1 m2 => if 0 ≤ v1 ∧ v1 < 7 then bn (mst m2 225 v1.toNat 0) fun m4 => bo_Model_reads_424 k11 v1 1 m4 else none
set_option maxHeartbeats 4000000 in
theorem rb_Model_reads_342 {E : EE}   (k11 : Int → Int → Mm → Res) (H11 : ∀ (v1 : Int) (v2 : Int)  (mem : Mm), RO E mt_Model_reads (k11 v1 v2 mem) 11 [(0, rf 203), (1, vi v1), (2, vi v2)] [] mem) (v1 : Int) (s1 : Int)  (mem : Mm) : RO E mt_Model_reads (bo_Model_reads_342  k11 v1 s1 mem) 342 [(0, rf 203), (1, vi v1)] [vi s1, rf 203] mem := by
  unfold bo_Model_reads_342
  refine RO_callVv (As := [vi s1]) (rest := []) mi_Model_puts mv_Model_puts ml_Model_248 lk_203 (Nat.le_of_ble_eq_true rfl) rfl (Nat.le_of_ble_eq_true rfl) dc_Model_reads_342 (fun rq mq hq => pf_Model_puts s1  mem hq) (fun r1 m2 => ?_)
  refine RO_aload_n dc_Model_reads_345 rfl rfl ?_
  refine RO_getR (b := 225) gf_Model_74 lk_203 rfl dc_Model_reads_346 ?_
  refine RO_iload_n dc_Model_reads_349 rfl rfl ?_
  refine RO_iconst dc_Model_reads_350 ?_
  refine RO_chk (fun hi3 => ?_)
  refine RO_zs lk_225 hi3 (Or.inl rfl) dc_Model_reads_351 ?_
  refine RO_bnM (fun m4 => ?_)
  refine RO_iconst dc_Model_reads_352 ?_
  refine RO_istore_n dc_Model_reads_353 rfl (Nat.le_of_ble_eq_true rfl) ?_
  refine RO_goto (tgt := 424) dc_Model_reads_354 rfl ?_
  refine RO_sub ?_ (rb_Model_reads_424 k11 H11 v1 1 m4)
  exact ⟨rfl, rfl, rfl, trivial⟩
def bo_Model_reads_324  (k11 : Int → Int → Mm → Res) (v1 : Int) (mem : Mm) : Res := bd (fn_Model_isWord 1111 mem) fun r1 m2 => if r1 = 0 then (bo_Model_reads_342 k11 v1 27 m2) else (bo_Model_reads_342 k11 v1 26 m2)
set_option maxHeartbeats 4000000 in
theorem rb_Model_reads_324 {E : EE}   (k11 : Int → Int → Mm → Res) (H11 : ∀ (v1 : Int) (v2 : Int)  (mem : Mm), RO E mt_Model_reads (k11 v1 v2 mem) 11 [(0, rf 203), (1, vi v1), (2, vi v2)] [] mem) (v1 : Int)  (mem : Mm) : RO E mt_Model_reads (bo_Model_reads_324  k11 v1 mem) 324 [(0, rf 203), (1, vi v1)] [] mem := by
  unfold bo_Model_reads_324
  refine RO_aload_n dc_Model_reads_324 rfl rfl ?_
  refine RO_aload_n dc_Model_reads_325 rfl rfl ?_
  refine RO_ldc2 (x := 1111) c2_Model_255 ⟨by decide, ⟨by decide, by decide⟩⟩ dc_Model_reads_326 ?_
  refine RO_callVi (As := [vl 1111]) (rest := [rf 203]) mi_Model_isWord mv_Model_isWord ml_Model_237 lk_203 (Nat.le_of_ble_eq_true rfl) rfl (Nat.le_of_ble_eq_true rfl) (fun _ => rfl) dc_Model_reads_329 (fun rq mq hq => pf_Model_isWord 1111  mem hq) (fun r1 m2 => ?_)
  refine RO_if_eq (tgt := 340) dc_Model_reads_332 rfl ?_ ?_
  · refine RO_bipush dc_Model_reads_340 ?_
    refine RO_sub ?_ (rb_Model_reads_342 k11 H11 v1 27 m2)
    exact ⟨rfl, rfl, trivial⟩
  · refine RO_bipush dc_Model_reads_335 ?_
    refine RO_goto (tgt := 342) dc_Model_reads_337 rfl ?_
    refine RO_sub ?_ (rb_Model_reads_342 k11 H11 v1 26 m2)
    exact ⟨rfl, rfl, trivial⟩
def bo_Model_reads_304  (k11 : Int → Int → Mm → Res) (v1 : Int) (v2 : Int) (mem : Mm) : Res := bd (fn_Model_isWord 1111 mem) fun r1 m2 => if r1 = 0 then (bd (fn_Model_isWord 423 m2) fun r3 m4 => if r3 = 0 then (bd (fn_Model_isSign 41 m4) fun r5 m6 => if r5 = 0 then (bo_Model_reads_399 v1 m6) else (if 0 < v1 then (bd (fn_Model_puts 29 m6) fun r7 m8 => lp_Model_reads_379 k11 FU (w32 (v1 + (-1))) v2 m8) else (bo_Model_reads_399 v1 m6))) else (bo_Model_reads_324 k11 v1 m4)) else (bo_Model_reads_324 k11 v1 m2)
set_option maxHeartbeats 4000000 in
theorem rb_Model_reads_304 {E : EE}   (k11 : Int → Int → Mm → Res) (H11 : ∀ (v1 : Int) (v2 : Int)  (mem : Mm), RO E mt_Model_reads (k11 v1 v2 mem) 11 [(0, rf 203), (1, vi v1), (2, vi v2)] [] mem) (v1 : Int) (v2 : Int)  (mem : Mm) : RO E mt_Model_reads (bo_Model_reads_304  k11 v1 v2 mem) 304 [(0, rf 203), (1, vi v1), (2, vi v2)] [] mem := by
  unfold bo_Model_reads_304
  refine RO_aload_n dc_Model_reads_304 rfl rfl ?_
  refine RO_ldc2 (x := 1111) c2_Model_255 ⟨by decide, ⟨by decide, by decide⟩⟩ dc_Model_reads_305 ?_
  refine RO_callVi (As := [vl 1111]) (rest := []) mi_Model_isWord mv_Model_isWord ml_Model_237 lk_203 (Nat.le_of_ble_eq_true rfl) rfl (Nat.le_of_ble_eq_true rfl) (fun _ => rfl) dc_Model_reads_308 (fun rq mq hq => pf_Model_isWord 1111  mem hq) (fun r1 m2 => ?_)
  refine RO_if_ne (tgt := 324) dc_Model_reads_311 rfl ?_ ?_
  · refine RO_aload_n dc_Model_reads_314 rfl rfl ?_
    refine RO_ldc2 (x := 423) c2_Model_257 ⟨by decide, ⟨by decide, by decide⟩⟩ dc_Model_reads_315 ?_
    refine RO_callVi (As := [vl 423]) (rest := []) mi_Model_isWord mv_Model_isWord ml_Model_237 lk_203 (Nat.le_of_ble_eq_true rfl) rfl (Nat.le_of_ble_eq_true rfl) (fun _ => rfl) dc_Model_reads_318 (fun rq mq hq => pf_Model_isWord 423  m2 hq) (fun r3 m4 => ?_)
    refine RO_if_eq (tgt := 357) dc_Model_reads_321 rfl ?_ ?_
    · refine RO_aload_n dc_Model_reads_357 rfl rfl ?_
      refine RO_bipush dc_Model_reads_358 ?_
      refine RO_callVi (As := [vi 41]) (rest := []) mi_Model_isSign mv_Model_isSign ml_Model_241 lk_203 (Nat.le_of_ble_eq_true rfl) rfl (Nat.le_of_ble_eq_true rfl) (fun _ => rfl) dc_Model_reads_360 (fun rq mq hq => pf_Model_isSign 41  m4 hq) (fun r5 m6 => ?_)
      refine RO_if_eq (tgt := 399) dc_Model_reads_363 rfl ?_ ?_
      · refine RO_sub ?_ (rb_Model_reads_399 v1 m6)
        exact ⟨rfl, rfl, trivial⟩
      · refine RO_iload_n dc_Model_reads_366 rfl rfl ?_
        refine RO_if_le (tgt := 399) dc_Model_reads_367 rfl ?_ ?_
        · refine RO_aload_n dc_Model_reads_370 rfl rfl ?_
          refine RO_bipush dc_Model_reads_371 ?_
          refine RO_callVv (As := [vi 29]) (rest := []) mi_Model_puts mv_Model_puts ml_Model_248 lk_203 (Nat.le_of_ble_eq_true rfl) rfl (Nat.le_of_ble_eq_true rfl) dc_Model_reads_373 (fun rq mq hq => pf_Model_puts 29  m6 hq) (fun r7 m8 => ?_)
          refine RO_iinc dc_Model_reads_376 rfl (Nat.le_of_ble_eq_true rfl) ?_
          refine RO_sub ?_ (rp_Model_reads_379 k11 H11 FU (w32 (v1 + (-1))) v2 m8)
          exact ⟨rfl, rfl, rfl, trivial⟩
        · refine RO_sub ?_ (rb_Model_reads_399 v1 m6)
          exact ⟨rfl, rfl, trivial⟩
    · refine RO_sub ?_ (rb_Model_reads_324 k11 H11 v1 m4)
      exact ⟨rfl, rfl, trivial⟩
  · refine RO_sub ?_ (rb_Model_reads_324 k11 H11 v1 m2)
    exact ⟨rfl, rfl, trivial⟩
def bo_Model_reads_289  (k11 : Int → Int → Mm → Res) (v1 : Int) (s1 : Int) (mem : Mm) : Res := bd (fn_Model_puts s1 mem) fun r1 m2 => if 0 ≤ v1 ∧ v1 < 7 then bn (mst m2 225 v1.toNat 1) fun m4 => bo_Model_reads_424 k11 v1 1 m4 else none
set_option maxHeartbeats 4000000 in
theorem rb_Model_reads_289 {E : EE}   (k11 : Int → Int → Mm → Res) (H11 : ∀ (v1 : Int) (v2 : Int)  (mem : Mm), RO E mt_Model_reads (k11 v1 v2 mem) 11 [(0, rf 203), (1, vi v1), (2, vi v2)] [] mem) (v1 : Int) (s1 : Int)  (mem : Mm) : RO E mt_Model_reads (bo_Model_reads_289  k11 v1 s1 mem) 289 [(0, rf 203), (1, vi v1)] [vi s1, rf 203] mem := by
  unfold bo_Model_reads_289
  refine RO_callVv (As := [vi s1]) (rest := []) mi_Model_puts mv_Model_puts ml_Model_248 lk_203 (Nat.le_of_ble_eq_true rfl) rfl (Nat.le_of_ble_eq_true rfl) dc_Model_reads_289 (fun rq mq hq => pf_Model_puts s1  mem hq) (fun r1 m2 => ?_)
  refine RO_aload_n dc_Model_reads_292 rfl rfl ?_
  refine RO_getR (b := 225) gf_Model_74 lk_203 rfl dc_Model_reads_293 ?_
  refine RO_iload_n dc_Model_reads_296 rfl rfl ?_
  refine RO_iconst dc_Model_reads_297 ?_
  refine RO_chk (fun hi3 => ?_)
  refine RO_zs lk_225 hi3 (Or.inr rfl) dc_Model_reads_298 ?_
  refine RO_bnM (fun m4 => ?_)
  refine RO_iconst dc_Model_reads_299 ?_
  refine RO_istore_n dc_Model_reads_300 rfl (Nat.le_of_ble_eq_true rfl) ?_
  refine RO_goto (tgt := 424) dc_Model_reads_301 rfl ?_
  refine RO_sub ?_ (rb_Model_reads_424 k11 H11 v1 1 m4)
  exact ⟨rfl, rfl, rfl, trivial⟩
def bo_Model_reads_263  (k11 : Int → Int → Mm → Res) (v1 : Int) (v2 : Int) (mem : Mm) : Res := if 0 ≤ v1 ∧ v1 < 7 then if (mem 225 v1.toNat) = 0 then (bd (fn_Model_isSign 60 mem) fun r2 m3 => if r2 = 0 then (bo_Model_reads_289 k11 v1 25 m3) else (bo_Model_reads_289 k11 v1 24 m3)) else (bo_Model_reads_304 k11 v1 v2 mem) else none
set_option maxHeartbeats 4000000 in
theorem rb_Model_reads_263 {E : EE}   (k11 : Int → Int → Mm → Res) (H11 : ∀ (v1 : Int) (v2 : Int)  (mem : Mm), RO E mt_Model_reads (k11 v1 v2 mem) 11 [(0, rf 203), (1, vi v1), (2, vi v2)] [] mem) (v1 : Int) (v2 : Int)  (mem : Mm) : RO E mt_Model_reads (bo_Model_reads_263  k11 v1 v2 mem) 263 [(0, rf 203), (1, vi v1), (2, vi v2)] [] mem := by
  unfold bo_Model_reads_263
  refine RO_aload_n dc_Model_reads_263 rfl rfl ?_
  refine RO_getR (b := 225) gf_Model_74 lk_203 rfl dc_Model_reads_264 ?_
  refine RO_iload_n dc_Model_reads_267 rfl rfl ?_
  refine RO_chk (fun hi1 => ?_)
  refine RO_za lk_225 hi1 dc_Model_reads_268 ?_
  refine RO_if_ne (tgt := 304) dc_Model_reads_269 rfl ?_ ?_
  · refine RO_aload_n dc_Model_reads_272 rfl rfl ?_
    refine RO_aload_n dc_Model_reads_273 rfl rfl ?_
    refine RO_bipush dc_Model_reads_274 ?_
    refine RO_callVi (As := [vi 60]) (rest := [rf 203]) mi_Model_isSign mv_Model_isSign ml_Model_241 lk_203 (Nat.le_of_ble_eq_true rfl) rfl (Nat.le_of_ble_eq_true rfl) (fun _ => rfl) dc_Model_reads_276 (fun rq mq hq => pf_Model_isSign 60  mem hq) (fun r2 m3 => ?_)
    refine RO_if_eq (tgt := 287) dc_Model_reads_279 rfl ?_ ?_
    · refine RO_bipush dc_Model_reads_287 ?_
      refine RO_sub ?_ (rb_Model_reads_289 k11 H11 v1 25 m3)
      exact ⟨rfl, rfl, trivial⟩
    · refine RO_bipush dc_Model_reads_282 ?_
      refine RO_goto (tgt := 289) dc_Model_reads_284 rfl ?_
      refine RO_sub ?_ (rb_Model_reads_289 k11 H11 v1 24 m3)
      exact ⟨rfl, rfl, trivial⟩
  · refine RO_sub ?_ (rb_Model_reads_304 k11 H11 v1 v2 mem)
    exact ⟨rfl, rfl, rfl, trivial⟩
def bo_Model_reads_237  (k11 : Int → Int → Mm → Res) (v1 : Int) (s1 : Int) (mem : Mm) : Res := bd (fn_Model_puts s1 mem) fun r1 m2 => bo_Model_reads_424 k11 v1 1 m2
set_option maxHeartbeats 4000000 in
theorem rb_Model_reads_237 {E : EE}   (k11 : Int → Int → Mm → Res) (H11 : ∀ (v1 : Int) (v2 : Int)  (mem : Mm), RO E mt_Model_reads (k11 v1 v2 mem) 11 [(0, rf 203), (1, vi v1), (2, vi v2)] [] mem) (v1 : Int) (s1 : Int)  (mem : Mm) : RO E mt_Model_reads (bo_Model_reads_237  k11 v1 s1 mem) 237 [(0, rf 203), (1, vi v1)] [vi s1, rf 203] mem := by
  unfold bo_Model_reads_237
  refine RO_callVv (As := [vi s1]) (rest := []) mi_Model_puts mv_Model_puts ml_Model_248 lk_203 (Nat.le_of_ble_eq_true rfl) rfl (Nat.le_of_ble_eq_true rfl) dc_Model_reads_237 (fun rq mq hq => pf_Model_puts s1  mem hq) (fun r1 m2 => ?_)
  refine RO_iconst dc_Model_reads_240 ?_
  refine RO_istore_n dc_Model_reads_241 rfl (Nat.le_of_ble_eq_true rfl) ?_
  refine RO_goto (tgt := 424) dc_Model_reads_242 rfl ?_
  refine RO_sub ?_ (rb_Model_reads_424 k11 H11 v1 1 m2)
  exact ⟨rfl, rfl, rfl, trivial⟩
def bo_Model_reads_206  (k11 : Int → Int → Mm → Res) (v1 : Int) (mem : Mm) : Res := bd (fn_Model_isSign 43 mem) fun r1 m2 => if r1 = 0 then (bd (fn_Model_isSign 45 m2) fun r3 m4 => if r3 = 0 then (bo_Model_reads_237 k11 v1 22 m4) else (bo_Model_reads_237 k11 v1 21 m4)) else (bo_Model_reads_237 k11 v1 20 m2)
set_option maxHeartbeats 4000000 in
theorem rb_Model_reads_206 {E : EE}   (k11 : Int → Int → Mm → Res) (H11 : ∀ (v1 : Int) (v2 : Int)  (mem : Mm), RO E mt_Model_reads (k11 v1 v2 mem) 11 [(0, rf 203), (1, vi v1), (2, vi v2)] [] mem) (v1 : Int)  (mem : Mm) : RO E mt_Model_reads (bo_Model_reads_206  k11 v1 mem) 206 [(0, rf 203), (1, vi v1)] [] mem := by
  unfold bo_Model_reads_206
  refine RO_aload_n dc_Model_reads_206 rfl rfl ?_
  refine RO_aload_n dc_Model_reads_207 rfl rfl ?_
  refine RO_bipush dc_Model_reads_208 ?_
  refine RO_callVi (As := [vi 43]) (rest := [rf 203]) mi_Model_isSign mv_Model_isSign ml_Model_241 lk_203 (Nat.le_of_ble_eq_true rfl) rfl (Nat.le_of_ble_eq_true rfl) (fun _ => rfl) dc_Model_reads_210 (fun rq mq hq => pf_Model_isSign 43  mem hq) (fun r1 m2 => ?_)
  refine RO_if_eq (tgt := 221) dc_Model_reads_213 rfl ?_ ?_
  · refine RO_aload_n dc_Model_reads_221 rfl rfl ?_
    refine RO_bipush dc_Model_reads_222 ?_
    refine RO_callVi (As := [vi 45]) (rest := [rf 203]) mi_Model_isSign mv_Model_isSign ml_Model_241 lk_203 (Nat.le_of_ble_eq_true rfl) rfl (Nat.le_of_ble_eq_true rfl) (fun _ => rfl) dc_Model_reads_224 (fun rq mq hq => pf_Model_isSign 45  m2 hq) (fun r3 m4 => ?_)
    refine RO_if_eq (tgt := 235) dc_Model_reads_227 rfl ?_ ?_
    · refine RO_bipush dc_Model_reads_235 ?_
      refine RO_sub ?_ (rb_Model_reads_237 k11 H11 v1 22 m4)
      exact ⟨rfl, rfl, trivial⟩
    · refine RO_bipush dc_Model_reads_230 ?_
      refine RO_goto (tgt := 237) dc_Model_reads_232 rfl ?_
      refine RO_sub ?_ (rb_Model_reads_237 k11 H11 v1 21 m4)
      exact ⟨rfl, rfl, trivial⟩
  · refine RO_bipush dc_Model_reads_216 ?_
    refine RO_goto (tgt := 237) dc_Model_reads_218 rfl ?_
    refine RO_sub ?_ (rb_Model_reads_237 k11 H11 v1 20 m2)
    exact ⟨rfl, rfl, trivial⟩
def bo_Model_reads_172  (k11 : Int → Int → Mm → Res) (v1 : Int) (v2 : Int) (mem : Mm) : Res := bd (fn_Model_nextToken  mem) fun r1 m2 => k11 v1 v2 m2
set_option maxHeartbeats 4000000 in
theorem rb_Model_reads_172 {E : EE}   (k11 : Int → Int → Mm → Res) (H11 : ∀ (v1 : Int) (v2 : Int)  (mem : Mm), RO E mt_Model_reads (k11 v1 v2 mem) 11 [(0, rf 203), (1, vi v1), (2, vi v2)] [] mem) (v1 : Int) (v2 : Int)  (mem : Mm) : RO E mt_Model_reads (bo_Model_reads_172  k11 v1 v2 mem) 172 [(0, rf 203), (1, vi v1), (2, vi v2)] [] mem := by
  unfold bo_Model_reads_172
  refine RO_aload_n dc_Model_reads_172 rfl rfl ?_
  refine RO_callVv (As := []) (rest := []) mi_Model_nextToken mv_Model_nextToken ml_Model_252 lk_203 (Nat.le_of_ble_eq_true rfl) rfl (Nat.le_of_ble_eq_true rfl) dc_Model_reads_173 (fun rq mq hq => pf_Model_nextToken   mem hq) (fun r1 m2 => ?_)
  refine RO_goto (tgt := 11) dc_Model_reads_176 rfl ?_
  refine RO_sub ?_ (H11 v1 v2 m2)
  exact ⟨rfl, rfl, rfl, trivial⟩
def bo_Model_reads_152  (k11 : Int → Int → Mm → Res) (k152 : Int → Int → Mm → Res) (v1 : Int) (v2 : Int) (mem : Mm) : Res := if 0 < v1 then (if 0 ≤ v1 ∧ v1 < 7 then if (mem 224 v1.toNat) = 1 then (k152 (w32 (v1 + (-1))) v2 mem) else (bo_Model_reads_172 k11 v1 v2 mem) else none) else (bo_Model_reads_172 k11 v1 v2 mem)
set_option maxHeartbeats 4000000 in
theorem rb_Model_reads_152 {E : EE}   (k11 : Int → Int → Mm → Res) (k152 : Int → Int → Mm → Res) (H11 : ∀ (v1 : Int) (v2 : Int)  (mem : Mm), RO E mt_Model_reads (k11 v1 v2 mem) 11 [(0, rf 203), (1, vi v1), (2, vi v2)] [] mem) (H152 : ∀ (v1 : Int) (v2 : Int)  (mem : Mm), RO E mt_Model_reads (k152 v1 v2 mem) 152 [(0, rf 203), (1, vi v1), (2, vi v2)] [] mem) (v1 : Int) (v2 : Int)  (mem : Mm) : RO E mt_Model_reads (bo_Model_reads_152  k11 k152 v1 v2 mem) 152 [(0, rf 203), (1, vi v1), (2, vi v2)] [] mem := by
  unfold bo_Model_reads_152
  refine RO_iload_n dc_Model_reads_152 rfl rfl ?_
  refine RO_if_le (tgt := 172) dc_Model_reads_153 rfl ?_ ?_
  · refine RO_aload_n dc_Model_reads_156 rfl rfl ?_
    refine RO_getR (b := 224) gf_Model_71 lk_203 rfl dc_Model_reads_157 ?_
    refine RO_iload_n dc_Model_reads_160 rfl rfl ?_
    refine RO_chk (fun hi1 => ?_)
    refine RO_ia lk_224 hi1 dc_Model_reads_161 ?_
    refine RO_iconst dc_Model_reads_162 ?_
    refine RO_icmp_ne (tgt := 172) dc_Model_reads_163 rfl ?_ ?_
    · refine RO_iinc dc_Model_reads_166 rfl (Nat.le_of_ble_eq_true rfl) ?_
      refine RO_goto (tgt := 152) dc_Model_reads_169 rfl ?_
      refine RO_sub ?_ (H152 (w32 (v1 + (-1))) v2 mem)
      exact ⟨rfl, rfl, rfl, trivial⟩
    · refine RO_sub ?_ (rb_Model_reads_172 k11 H11 v1 v2 mem)
      exact ⟨rfl, rfl, rfl, trivial⟩
  · refine RO_sub ?_ (rb_Model_reads_172 k11 H11 v1 v2 mem)
    exact ⟨rfl, rfl, rfl, trivial⟩
def lp_Model_reads_152  (k11 : Int → Int → Mm → Res) : Nat → Int → Int → Mm → Res
  | 0 => fun _ _ _ => none
  | n + 1 => bo_Model_reads_152  k11 (lp_Model_reads_152  k11 n)
theorem rp_Model_reads_152 {E : EE}   (k11 : Int → Int → Mm → Res) (H11 : ∀ (v1 : Int) (v2 : Int)  (mem : Mm), RO E mt_Model_reads (k11 v1 v2 mem) 11 [(0, rf 203), (1, vi v1), (2, vi v2)] [] mem) : ∀ (n : Nat) (v1 : Int) (v2 : Int)  (mem : Mm), RO E mt_Model_reads (lp_Model_reads_152  k11 n v1 v2 mem) 152 [(0, rf 203), (1, vi v1), (2, vi v2)] [] mem := by
  intro n
  induction n with
  | zero => intro v1 v2  mem; exact RO_none
  | succ n ih => intro v1 v2  mem; exact rb_Model_reads_152   k11 (lp_Model_reads_152  k11 n) H11 ih v1 v2  mem
def bo_Model_reads_147  (k11 : Int → Int → Mm → Res) (v1 : Int) (s1 : Int) (mem : Mm) : Res := bd (fn_Model_puts s1 mem) fun r1 m2 => lp_Model_reads_152 k11 FU v1 0 m2
set_option maxHeartbeats 4000000 in
theorem rb_Model_reads_147 {E : EE}   (k11 : Int → Int → Mm → Res) (H11 : ∀ (v1 : Int) (v2 : Int)  (mem : Mm), RO E mt_Model_reads (k11 v1 v2 mem) 11 [(0, rf 203), (1, vi v1), (2, vi v2)] [] mem) (v1 : Int) (s1 : Int)  (mem : Mm) : RO E mt_Model_reads (bo_Model_reads_147  k11 v1 s1 mem) 147 [(0, rf 203), (1, vi v1)] [vi s1, rf 203] mem := by
  unfold bo_Model_reads_147
  refine RO_callVv (As := [vi s1]) (rest := []) mi_Model_puts mv_Model_puts ml_Model_248 lk_203 (Nat.le_of_ble_eq_true rfl) rfl (Nat.le_of_ble_eq_true rfl) dc_Model_reads_147 (fun rq mq hq => pf_Model_puts s1  mem hq) (fun r1 m2 => ?_)
  refine RO_iconst dc_Model_reads_150 ?_
  refine RO_istore_n dc_Model_reads_151 rfl (Nat.le_of_ble_eq_true rfl) ?_
  refine RO_sub ?_ (rp_Model_reads_152 k11 H11 FU v1 0 m2)
  exact ⟨rfl, rfl, rfl, trivial⟩
def bo_Model_reads_120  (k11 : Int → Int → Mm → Res) (v1 : Int) (v2 : Int) (s1 : Int) (s2 : Int) (mem : Mm) : Res := if 0 ≤ s1 ∧ s1 < 7 then bn (mst mem 224 s1.toNat s2) fun m2 => if 0 ≤ v1 ∧ v1 < 7 then bn (mst m2 225 v1.toNat 0) fun m4 => bo_Model_reads_172 k11 v1 v2 m4 else none else none
set_option maxHeartbeats 4000000 in
theorem rb_Model_reads_120 {E : EE}   (k11 : Int → Int → Mm → Res) (H11 : ∀ (v1 : Int) (v2 : Int)  (mem : Mm), RO E mt_Model_reads (k11 v1 v2 mem) 11 [(0, rf 203), (1, vi v1), (2, vi v2)] [] mem) (v1 : Int) (v2 : Int) (s1 : Int) (s2 : Int)  (mem : Mm) : RO E mt_Model_reads (bo_Model_reads_120  k11 v1 v2 s1 s2 mem) 120 [(0, rf 203), (1, vi v1), (2, vi v2)] [vi s2, vi s1, rf 224] mem := by
  unfold bo_Model_reads_120
  refine RO_chk (fun hi1 => ?_)
  refine RO_is lk_224 hi1 dc_Model_reads_120 ?_
  refine RO_bnM (fun m2 => ?_)
  refine RO_aload_n dc_Model_reads_121 rfl rfl ?_
  refine RO_getR (b := 225) gf_Model_74 lk_203 rfl dc_Model_reads_122 ?_
  refine RO_iload_n dc_Model_reads_125 rfl rfl ?_
  refine RO_iconst dc_Model_reads_126 ?_
  refine RO_chk (fun hi3 => ?_)
  refine RO_zs lk_225 hi3 (Or.inl rfl) dc_Model_reads_127 ?_
  refine RO_bnM (fun m4 => ?_)
  refine RO_goto (tgt := 172) dc_Model_reads_128 rfl ?_
  refine RO_sub ?_ (rb_Model_reads_172 k11 H11 v1 v2 m4)
  exact ⟨rfl, rfl, rfl, trivial⟩
def bo_Model_reads_99  (k11 : Int → Int → Mm → Res) (v1 : Int) (v2 : Int) (v4 : Int) (s1 : Int) (mem : Mm) : Res := bd (fn_Model_puts s1 mem) fun r1 m2 => if v4 = 0 then (bo_Model_reads_120 k11 (w32 (v1 + 1)) v2 (w32 (v1 + 1)) 2 m2) else (bo_Model_reads_120 k11 (w32 (v1 + 1)) v2 (w32 (v1 + 1)) 1 m2)
set_option maxHeartbeats 4000000 in
theorem rb_Model_reads_99 {E : EE}   (k11 : Int → Int → Mm → Res) (H11 : ∀ (v1 : Int) (v2 : Int)  (mem : Mm), RO E mt_Model_reads (k11 v1 v2 mem) 11 [(0, rf 203), (1, vi v1), (2, vi v2)] [] mem) (v1 : Int) (v2 : Int) (v4 : Int) (s1 : Int)  (mem : Mm) : RO E mt_Model_reads (bo_Model_reads_99  k11 v1 v2 v4 s1 mem) 99 [(0, rf 203), (1, vi v1), (2, vi v2), (4, vi v4)] [vi s1, rf 203] mem := by
  unfold bo_Model_reads_99
  refine RO_callVv (As := [vi s1]) (rest := []) mi_Model_puts mv_Model_puts ml_Model_248 lk_203 (Nat.le_of_ble_eq_true rfl) rfl (Nat.le_of_ble_eq_true rfl) dc_Model_reads_99 (fun rq mq hq => pf_Model_puts s1  mem hq) (fun r1 m2 => ?_)
  refine RO_iinc dc_Model_reads_102 rfl (Nat.le_of_ble_eq_true rfl) ?_
  refine RO_aload_n dc_Model_reads_105 rfl rfl ?_
  refine RO_getR (b := 224) gf_Model_71 lk_203 rfl dc_Model_reads_106 ?_
  refine RO_iload_n dc_Model_reads_109 rfl rfl ?_
  refine RO_iload dc_Model_reads_110 rfl ?_
  refine RO_if_eq (tgt := 119) dc_Model_reads_112 rfl ?_ ?_
  · refine RO_iconst dc_Model_reads_119 ?_
    refine RO_sub ?_ (rb_Model_reads_120 k11 H11 (w32 (v1 + 1)) v2 (w32 (v1 + 1)) 2 m2)
    exact ⟨rfl, rfl, rfl, trivial⟩
  · refine RO_iconst dc_Model_reads_115 ?_
    refine RO_goto (tgt := 120) dc_Model_reads_116 rfl ?_
    refine RO_sub ?_ (rb_Model_reads_120 k11 H11 (w32 (v1 + 1)) v2 (w32 (v1 + 1)) 1 m2)
    exact ⟨rfl, rfl, rfl, trivial⟩
def bo_Model_reads_86  (k11 : Int → Int → Mm → Res) (v1 : Int) (v2 : Int) (v4 : Int) (mem : Mm) : Res := if v4 = 0 then (bo_Model_reads_99 k11 v1 v2 v4 28 mem) else (bo_Model_reads_99 k11 v1 v2 v4 30 mem)
set_option maxHeartbeats 4000000 in
theorem rb_Model_reads_86 {E : EE}   (k11 : Int → Int → Mm → Res) (H11 : ∀ (v1 : Int) (v2 : Int)  (mem : Mm), RO E mt_Model_reads (k11 v1 v2 mem) 11 [(0, rf 203), (1, vi v1), (2, vi v2)] [] mem) (v1 : Int) (v2 : Int) (v4 : Int)  (mem : Mm) : RO E mt_Model_reads (bo_Model_reads_86  k11 v1 v2 v4 mem) 86 [(0, rf 203), (1, vi v1), (2, vi v2), (4, vi v4)] [] mem := by
  unfold bo_Model_reads_86
  refine RO_aload_n dc_Model_reads_86 rfl rfl ?_
  refine RO_iload dc_Model_reads_87 rfl ?_
  refine RO_if_eq (tgt := 97) dc_Model_reads_89 rfl ?_ ?_
  · refine RO_bipush dc_Model_reads_97 ?_
    refine RO_sub ?_ (rb_Model_reads_99 k11 H11 v1 v2 v4 28 mem)
    exact ⟨rfl, rfl, rfl, rfl, trivial⟩
  · refine RO_bipush dc_Model_reads_92 ?_
    refine RO_goto (tgt := 99) dc_Model_reads_94 rfl ?_
    refine RO_sub ?_ (rb_Model_reads_99 k11 H11 v1 v2 v4 30 mem)
    exact ⟨rfl, rfl, rfl, rfl, trivial⟩
def bo_Model_reads_70    (mem : Mm) : Res := bd (fn_Model_fails 5 mem) fun r1 m2 => if r1 = 0 ∨ r1 = 1 then some (r1, m2) else none
set_option maxHeartbeats 4000000 in
theorem rb_Model_reads_70 {E : EE}       (mem : Mm) : RO E mt_Model_reads (bo_Model_reads_70    mem) 70 [(0, rf 203)] [] mem := by
  unfold bo_Model_reads_70
  refine RO_aload_n dc_Model_reads_70 rfl rfl ?_
  refine RO_iconst dc_Model_reads_71 ?_
  refine RO_callVi (As := [vi 5]) (rest := []) mi_Model_fails mv_Model_fails ml_Model_245 lk_203 (Nat.le_of_ble_eq_true rfl) rfl (Nat.le_of_ble_eq_true rfl) (fun _ => rfl) dc_Model_reads_72 (fun rq mq hq => pf_Model_fails 5  mem hq) (fun r1 m2 => ?_)
  refine RO_chk (fun hz3 => ?_)
  exact RO_zret rfl hz3 dc_Model_reads_75
def bo_Model_reads_65  (k11 : Int → Int → Mm → Res) (v1 : Int) (v2 : Int) (v3 : Int) (v4 : Int) (v5 : Int) (mem : Mm) : Res := if v1 = 5 then (bo_Model_reads_70 mem) else (if v4 = 0 then (if v5 = 0 then (if 0 < v3 then (bo_Model_reads_147 k11 v1 v3 mem) else (bo_Model_reads_147 k11 v1 (w32 (100 + (mem 203 8))) mem)) else (bo_Model_reads_86 k11 v1 v2 v4 mem)) else (bo_Model_reads_86 k11 v1 v2 v4 mem))
set_option maxHeartbeats 4000000 in
theorem rb_Model_reads_65 {E : EE}   (k11 : Int → Int → Mm → Res) (H11 : ∀ (v1 : Int) (v2 : Int)  (mem : Mm), RO E mt_Model_reads (k11 v1 v2 mem) 11 [(0, rf 203), (1, vi v1), (2, vi v2)] [] mem) (v1 : Int) (v2 : Int) (v3 : Int) (v4 : Int) (v5 : Int)  (mem : Mm) : RO E mt_Model_reads (bo_Model_reads_65  k11 v1 v2 v3 v4 v5 mem) 65 [(0, rf 203), (1, vi v1), (2, vi v2), (3, vi v3), (4, vi v4), (5, vi v5)] [] mem := by
  unfold bo_Model_reads_65
  refine RO_iload_n dc_Model_reads_65 rfl rfl ?_
  refine RO_iconst dc_Model_reads_66 ?_
  refine RO_icmp_ne (tgt := 76) dc_Model_reads_67 rfl ?_ ?_
  · refine RO_sub ?_ (rb_Model_reads_70 mem)
    exact ⟨rfl, trivial⟩
  · refine RO_iload dc_Model_reads_76 rfl ?_
    refine RO_if_ne (tgt := 86) dc_Model_reads_78 rfl ?_ ?_
    · refine RO_iload dc_Model_reads_81 rfl ?_
      refine RO_if_eq (tgt := 131) dc_Model_reads_83 rfl ?_ ?_
      · refine RO_aload_n dc_Model_reads_131 rfl rfl ?_
        refine RO_iload_n dc_Model_reads_132 rfl rfl ?_
        refine RO_if_le (tgt := 140) dc_Model_reads_133 rfl ?_ ?_
        · refine RO_iload_n dc_Model_reads_136 rfl rfl ?_
          refine RO_goto (tgt := 147) dc_Model_reads_137 rfl ?_
          refine RO_sub ?_ (rb_Model_reads_147 k11 H11 v1 v3 mem)
          exact ⟨rfl, rfl, trivial⟩
        · refine RO_bipush dc_Model_reads_140 ?_
          refine RO_aload_n dc_Model_reads_142 rfl rfl ?_
          refine RO_getI gf_Model_205 lk_203 dc_Model_reads_143 ?_
          refine RO_iadd dc_Model_reads_146 ?_
          refine RO_sub ?_ (rb_Model_reads_147 k11 H11 v1 (w32 (100 + (mem 203 8))) mem)
          exact ⟨rfl, rfl, trivial⟩
      · refine RO_sub ?_ (rb_Model_reads_86 k11 H11 v1 v2 v4 mem)
        exact ⟨rfl, rfl, rfl, rfl, trivial⟩
    · refine RO_sub ?_ (rb_Model_reads_86 k11 H11 v1 v2 v4 mem)
      exact ⟨rfl, rfl, rfl, rfl, trivial⟩
def bo_Model_reads_59    (mem : Mm) : Res := bd (fn_Model_fails 1 mem) fun r1 m2 => if r1 = 0 ∨ r1 = 1 then some (r1, m2) else none
set_option maxHeartbeats 4000000 in
theorem rb_Model_reads_59 {E : EE}       (mem : Mm) : RO E mt_Model_reads (bo_Model_reads_59    mem) 59 [(0, rf 203)] [] mem := by
  unfold bo_Model_reads_59
  refine RO_aload_n dc_Model_reads_59 rfl rfl ?_
  refine RO_iconst dc_Model_reads_60 ?_
  refine RO_callVi (As := [vi 1]) (rest := []) mi_Model_fails mv_Model_fails ml_Model_245 lk_203 (Nat.le_of_ble_eq_true rfl) rfl (Nat.le_of_ble_eq_true rfl) (fun _ => rfl) dc_Model_reads_61 (fun rq mq hq => pf_Model_fails 1  mem hq) (fun r1 m2 => ?_)
  refine RO_chk (fun hz3 => ?_)
  exact RO_zret rfl hz3 dc_Model_reads_64
def bo_Model_reads_11  (k11 : Int → Int → Mm → Res) (v1 : Int) (v2 : Int) (mem : Mm) : Res := if v2 = 0 then (bd (fn_Model_isSign 43 mem) fun r1 m2 => if r1 = 0 then (bd (fn_Model_isSign 45 m2) fun r3 m4 => if r3 = 0 then (bd (fn_Model_isSign 42 m4) fun r5 m6 => if r5 = 0 then (bd (fn_Model_isSign 60 m6) fun r7 m8 => if r7 = 0 then (bd (fn_Model_isSign 61 m8) fun r9 m10 => if r9 = 0 then (bo_Model_reads_304 k11 v1 v2 m10) else (bo_Model_reads_263 k11 v1 v2 m10)) else (bo_Model_reads_263 k11 v1 v2 m8)) else (bo_Model_reads_206 k11 v1 m6)) else (bo_Model_reads_206 k11 v1 m4)) else (bo_Model_reads_206 k11 v1 m2)) else (bd (fn_Model_fact  mem) fun r11 m12 => bd (fn_Model_isWord 10631 m12) fun r13 m14 => bd (fn_Model_isSign 40 m14) fun r15 m16 => if r11 = 0 then (if r13 = 0 then (if r15 = 0 then (if (m16 203 6) = 2 then (bo_Model_reads_65 k11 v1 v2 r11 r13 r15 m16) else (bo_Model_reads_59 m16)) else (bo_Model_reads_65 k11 v1 v2 r11 r13 r15 m16)) else (bo_Model_reads_65 k11 v1 v2 r11 r13 r15 m16)) else (bo_Model_reads_65 k11 v1 v2 r11 r13 r15 m16))
set_option maxHeartbeats 4000000 in
theorem rb_Model_reads_11 {E : EE}   (k11 : Int → Int → Mm → Res) (H11 : ∀ (v1 : Int) (v2 : Int)  (mem : Mm), RO E mt_Model_reads (k11 v1 v2 mem) 11 [(0, rf 203), (1, vi v1), (2, vi v2)] [] mem) (v1 : Int) (v2 : Int)  (mem : Mm) : RO E mt_Model_reads (bo_Model_reads_11  k11 v1 v2 mem) 11 [(0, rf 203), (1, vi v1), (2, vi v2)] [] mem := by
  unfold bo_Model_reads_11
  refine RO_iload_n dc_Model_reads_11 rfl rfl ?_
  refine RO_if_eq (tgt := 179) dc_Model_reads_12 rfl ?_ ?_
  · refine RO_aload_n dc_Model_reads_179 rfl rfl ?_
    refine RO_bipush dc_Model_reads_180 ?_
    refine RO_callVi (As := [vi 43]) (rest := []) mi_Model_isSign mv_Model_isSign ml_Model_241 lk_203 (Nat.le_of_ble_eq_true rfl) rfl (Nat.le_of_ble_eq_true rfl) (fun _ => rfl) dc_Model_reads_182 (fun rq mq hq => pf_Model_isSign 43  mem hq) (fun r1 m2 => ?_)
    refine RO_if_ne (tgt := 206) dc_Model_reads_185 rfl ?_ ?_
    · refine RO_aload_n dc_Model_reads_188 rfl rfl ?_
      refine RO_bipush dc_Model_reads_189 ?_
      refine RO_callVi (As := [vi 45]) (rest := []) mi_Model_isSign mv_Model_isSign ml_Model_241 lk_203 (Nat.le_of_ble_eq_true rfl) rfl (Nat.le_of_ble_eq_true rfl) (fun _ => rfl) dc_Model_reads_191 (fun rq mq hq => pf_Model_isSign 45  m2 hq) (fun r3 m4 => ?_)
      refine RO_if_ne (tgt := 206) dc_Model_reads_194 rfl ?_ ?_
      · refine RO_aload_n dc_Model_reads_197 rfl rfl ?_
        refine RO_bipush dc_Model_reads_198 ?_
        refine RO_callVi (As := [vi 42]) (rest := []) mi_Model_isSign mv_Model_isSign ml_Model_241 lk_203 (Nat.le_of_ble_eq_true rfl) rfl (Nat.le_of_ble_eq_true rfl) (fun _ => rfl) dc_Model_reads_200 (fun rq mq hq => pf_Model_isSign 42  m4 hq) (fun r5 m6 => ?_)
        refine RO_if_eq (tgt := 245) dc_Model_reads_203 rfl ?_ ?_
        · refine RO_aload_n dc_Model_reads_245 rfl rfl ?_
          refine RO_bipush dc_Model_reads_246 ?_
          refine RO_callVi (As := [vi 60]) (rest := []) mi_Model_isSign mv_Model_isSign ml_Model_241 lk_203 (Nat.le_of_ble_eq_true rfl) rfl (Nat.le_of_ble_eq_true rfl) (fun _ => rfl) dc_Model_reads_248 (fun rq mq hq => pf_Model_isSign 60  m6 hq) (fun r7 m8 => ?_)
          refine RO_if_ne (tgt := 263) dc_Model_reads_251 rfl ?_ ?_
          · refine RO_aload_n dc_Model_reads_254 rfl rfl ?_
            refine RO_bipush dc_Model_reads_255 ?_
            refine RO_callVi (As := [vi 61]) (rest := []) mi_Model_isSign mv_Model_isSign ml_Model_241 lk_203 (Nat.le_of_ble_eq_true rfl) rfl (Nat.le_of_ble_eq_true rfl) (fun _ => rfl) dc_Model_reads_257 (fun rq mq hq => pf_Model_isSign 61  m8 hq) (fun r9 m10 => ?_)
            refine RO_if_eq (tgt := 304) dc_Model_reads_260 rfl ?_ ?_
            · refine RO_sub ?_ (rb_Model_reads_304 k11 H11 v1 v2 m10)
              exact ⟨rfl, rfl, rfl, trivial⟩
            · refine RO_sub ?_ (rb_Model_reads_263 k11 H11 v1 v2 m10)
              exact ⟨rfl, rfl, rfl, trivial⟩
          · refine RO_sub ?_ (rb_Model_reads_263 k11 H11 v1 v2 m8)
            exact ⟨rfl, rfl, rfl, trivial⟩
        · refine RO_sub ?_ (rb_Model_reads_206 k11 H11 v1 m6)
          exact ⟨rfl, rfl, trivial⟩
      · refine RO_sub ?_ (rb_Model_reads_206 k11 H11 v1 m4)
        exact ⟨rfl, rfl, trivial⟩
    · refine RO_sub ?_ (rb_Model_reads_206 k11 H11 v1 m2)
      exact ⟨rfl, rfl, trivial⟩
  · refine RO_aload_n dc_Model_reads_15 rfl rfl ?_
    refine RO_callVi (As := []) (rest := []) mi_Model_fact mv_Model_fact ml_Model_231 lk_203 (Nat.le_of_ble_eq_true rfl) rfl (Nat.le_of_ble_eq_true rfl) (fun _ => rfl) dc_Model_reads_16 (fun rq mq hq => pf_Model_fact   mem hq) (fun r11 m12 => ?_)
    refine RO_istore_n dc_Model_reads_19 rfl (Nat.le_of_ble_eq_true rfl) ?_
    refine RO_aload_n dc_Model_reads_20 rfl rfl ?_
    refine RO_ldc2 (x := 10631) c2_Model_235 ⟨by decide, ⟨by decide, by decide⟩⟩ dc_Model_reads_21 ?_
    refine RO_callVi (As := [vl 10631]) (rest := []) mi_Model_isWord mv_Model_isWord ml_Model_237 lk_203 (Nat.le_of_ble_eq_true rfl) rfl (Nat.le_of_ble_eq_true rfl) (fun _ => rfl) dc_Model_reads_24 (fun rq mq hq => pf_Model_isWord 10631  m12 hq) (fun r13 m14 => ?_)
    refine RO_istore dc_Model_reads_27 (Nat.le_of_ble_eq_true rfl) ?_
    refine RO_aload_n dc_Model_reads_29 rfl rfl ?_
    refine RO_bipush dc_Model_reads_30 ?_
    refine RO_callVi (As := [vi 40]) (rest := []) mi_Model_isSign mv_Model_isSign ml_Model_241 lk_203 (Nat.le_of_ble_eq_true rfl) rfl (Nat.le_of_ble_eq_true rfl) (fun _ => rfl) dc_Model_reads_32 (fun rq mq hq => pf_Model_isSign 40  m14 hq) (fun r15 m16 => ?_)
    refine RO_istore dc_Model_reads_35 (Nat.le_of_ble_eq_true rfl) ?_
    refine RO_iload_n dc_Model_reads_37 rfl rfl ?_
    refine RO_if_ne (tgt := 65) dc_Model_reads_38 rfl ?_ ?_
    · refine RO_iload dc_Model_reads_41 rfl ?_
      refine RO_if_ne (tgt := 65) dc_Model_reads_43 rfl ?_ ?_
      · refine RO_iload dc_Model_reads_46 rfl ?_
        refine RO_if_ne (tgt := 65) dc_Model_reads_48 rfl ?_ ?_
        · refine RO_aload_n dc_Model_reads_51 rfl rfl ?_
          refine RO_getI gf_Model_208 lk_203 dc_Model_reads_52 ?_
          refine RO_iconst dc_Model_reads_55 ?_
          refine RO_icmp_eq (tgt := 65) dc_Model_reads_56 rfl ?_ ?_
          · refine RO_sub ?_ (rb_Model_reads_65 k11 H11 v1 v2 r11 r13 r15 m16)
            exact ⟨rfl, rfl, rfl, rfl, rfl, rfl, trivial⟩
          · refine RO_sub ?_ (rb_Model_reads_59 m16)
            exact ⟨rfl, trivial⟩
        · refine RO_sub ?_ (rb_Model_reads_65 k11 H11 v1 v2 r11 r13 r15 m16)
          exact ⟨rfl, rfl, rfl, rfl, rfl, rfl, trivial⟩
      · refine RO_sub ?_ (rb_Model_reads_65 k11 H11 v1 v2 r11 r13 r15 m16)
        exact ⟨rfl, rfl, rfl, rfl, rfl, rfl, trivial⟩
    · refine RO_sub ?_ (rb_Model_reads_65 k11 H11 v1 v2 r11 r13 r15 m16)
      exact ⟨rfl, rfl, rfl, rfl, rfl, rfl, trivial⟩
def lp_Model_reads_11   : Nat → Int → Int → Mm → Res
  | 0 => fun _ _ _ => none
  | n + 1 => bo_Model_reads_11   (lp_Model_reads_11   n)
theorem rp_Model_reads_11 {E : EE}     : ∀ (n : Nat) (v1 : Int) (v2 : Int)  (mem : Mm), RO E mt_Model_reads (lp_Model_reads_11   n v1 v2 mem) 11 [(0, rf 203), (1, vi v1), (2, vi v2)] [] mem := by
  intro n
  induction n with
  | zero => intro v1 v2  mem; exact RO_none
  | succ n ih => intro v1 v2  mem; exact rb_Model_reads_11    (lp_Model_reads_11   n)  ih v1 v2  mem
def fn_Model_reads  (mem : Mm) : Res := bn (mst mem 225 (0 : Int).toNat 0) fun m1 => lp_Model_reads_11 FU 0 1 m1
set_option maxHeartbeats 4000000 in
theorem pf_Model_reads {E : EE}   (mem : Mm) {r : Int} {mem9 : Mm} (h : fn_Model_reads  mem = some (r, mem9)) : MetX E 3 yn_Model_reads cd_Model_reads 6 (some .boolean) [rf 203] mem r mem9 := by
  refine RO_met (y := yn_Model_reads) (by decide +kernel) (Nat.le_of_ble_eq_true rfl) ?_ h
  show RO E mt_Model_reads (fn_Model_reads  mem) 0 [(0, rf 203)] [] mem
  unfold fn_Model_reads
  refine RO_iconst dc_Model_reads_0 ?_
  refine RO_istore_n dc_Model_reads_1 rfl (Nat.le_of_ble_eq_true rfl) ?_
  refine RO_iconst dc_Model_reads_2 ?_
  refine RO_istore_n dc_Model_reads_3 rfl (Nat.le_of_ble_eq_true rfl) ?_
  refine RO_aload_n dc_Model_reads_4 rfl rfl ?_
  refine RO_getR (b := 225) gf_Model_74 lk_203 rfl dc_Model_reads_5 ?_
  refine RO_iconst dc_Model_reads_8 ?_
  refine RO_iconst dc_Model_reads_9 ?_
  refine RO_zs lk_225 ⟨by decide, by decide⟩ (Or.inl rfl) dc_Model_reads_10 ?_
  refine RO_bnM (fun m1 => ?_)
  refine RO_sub ?_ (rp_Model_reads_11 FU 0 1 m1)
  exact ⟨rfl, rfl, rfl, trivial⟩
def bo_Model_worked_335 (p1 : Int)   (mem : Mm) : Res := bd (fn_Model_tests 0 mem) fun r1 m2 => some (m2 226 (0 : Int).toNat, m2)
set_option maxHeartbeats 4000000 in
theorem rb_Model_worked_335 {E : EE} (p1 : Int)      (mem : Mm) : RO E mt_Model_worked (bo_Model_worked_335 p1   mem) 335 [(0, rf 203)] [] mem := by
  unfold bo_Model_worked_335
  refine RO_aload_n dc_Model_worked_335 rfl rfl ?_
  refine RO_iconst dc_Model_worked_336 ?_
  refine RO_callVv (As := [vi 0]) (rest := []) mi_Model_tests mv_Model_tests ml_Model_265 lk_203 (Nat.le_of_ble_eq_true rfl) rfl (Nat.le_of_ble_eq_true rfl) dc_Model_worked_337 (fun rq mq hq => pf_Model_tests 0  mem hq) (fun r1 m2 => ?_)
  refine RO_aload_n dc_Model_worked_340 rfl rfl ?_
  refine RO_getR (b := 226) gf_Model_78 lk_203 rfl dc_Model_worked_341 ?_
  refine RO_iconst dc_Model_worked_344 ?_
  refine RO_ia lk_226 ⟨by decide, by decide⟩ dc_Model_worked_345 ?_
  exact RO_iret rfl dc_Model_worked_346
def bo_Model_worked_329 (p1 : Int) (k14 : Int → Int → Mm → Res) (v2 : Int) (v3 : Int) (mem : Mm) : Res := k14 v2 (w32 (v3 + 1)) mem
set_option maxHeartbeats 4000000 in
theorem rb_Model_worked_329 {E : EE} (p1 : Int)  (k14 : Int → Int → Mm → Res) (H14 : ∀ (v2 : Int) (v3 : Int)  (mem : Mm), RO E mt_Model_worked (k14 v2 v3 mem) 14 [(0, rf 203), (1, vi p1), (2, vi v2), (3, vi v3)] [] mem) (v2 : Int) (v3 : Int)  (mem : Mm) : RO E mt_Model_worked (bo_Model_worked_329 p1 k14 v2 v3 mem) 329 [(0, rf 203), (1, vi p1), (2, vi v2), (3, vi v3)] [] mem := by
  unfold bo_Model_worked_329
  refine RO_iinc dc_Model_worked_329 rfl (Nat.le_of_ble_eq_true rfl) ?_
  refine RO_goto (tgt := 14) dc_Model_worked_332 rfl ?_
  refine RO_sub ?_ (H14 v2 (w32 (v3 + 1)) mem)
  exact ⟨rfl, rfl, rfl, rfl, trivial⟩
def bo_Model_worked_328 (p1 : Int) (k14 : Int → Int → Mm → Res) (v2 : Int) (v3 : Int) (s1 : Int) (s2 : Int) (mem : Mm) : Res := if 0 ≤ s1 ∧ s1 < 7 then bn (mst mem 232 s1.toNat s2) fun m2 => bo_Model_worked_329 p1 k14 v2 v3 m2 else none
set_option maxHeartbeats 4000000 in
theorem rb_Model_worked_328 {E : EE} (p1 : Int)  (k14 : Int → Int → Mm → Res) (H14 : ∀ (v2 : Int) (v3 : Int)  (mem : Mm), RO E mt_Model_worked (k14 v2 v3 mem) 14 [(0, rf 203), (1, vi p1), (2, vi v2), (3, vi v3)] [] mem) (v2 : Int) (v3 : Int) (s1 : Int) (s2 : Int)  (mem : Mm) : RO E mt_Model_worked (bo_Model_worked_328 p1 k14 v2 v3 s1 s2 mem) 328 [(0, rf 203), (1, vi p1), (2, vi v2), (3, vi v3)] [vi s2, vi s1, rf 232] mem := by
  unfold bo_Model_worked_328
  refine RO_chk (fun hi1 => ?_)
  refine RO_is lk_232 hi1 dc_Model_worked_328 ?_
  refine RO_bnM (fun m2 => ?_)
  refine RO_sub ?_ (rb_Model_worked_329 p1 k14 H14 v2 v3 m2)
  exact ⟨rfl, rfl, rfl, rfl, trivial⟩
def bo_Model_worked_300 (p1 : Int) (k14 : Int → Int → Mm → Res) (v2 : Int) (v3 : Int) (v5 : Int) (mem : Mm) : Res := if 0 ≤ v2 ∧ v2 < 7 then if (mem 233 v2.toNat) = 0 then (bo_Model_worked_328 p1 k14 v2 v3 v2 v5 mem) else (if 0 ≤ v2 ∧ v2 < 7 then bo_Model_worked_328 p1 k14 v2 v3 v2 (w32 ((mem 232 v2.toNat) * v5)) mem else none) else none
set_option maxHeartbeats 4000000 in
theorem rb_Model_worked_300 {E : EE} (p1 : Int)  (k14 : Int → Int → Mm → Res) (H14 : ∀ (v2 : Int) (v3 : Int)  (mem : Mm), RO E mt_Model_worked (k14 v2 v3 mem) 14 [(0, rf 203), (1, vi p1), (2, vi v2), (3, vi v3)] [] mem) (v2 : Int) (v3 : Int) (v5 : Int)  (mem : Mm) : RO E mt_Model_worked (bo_Model_worked_300 p1 k14 v2 v3 v5 mem) 300 [(0, rf 203), (1, vi p1), (2, vi v2), (3, vi v3), (5, vi v5)] [] mem := by
  unfold bo_Model_worked_300
  refine RO_aload_n dc_Model_worked_300 rfl rfl ?_
  refine RO_getR (b := 232) gf_Model_96 lk_203 rfl dc_Model_worked_301 ?_
  refine RO_iload_n dc_Model_worked_304 rfl rfl ?_
  refine RO_aload_n dc_Model_worked_305 rfl rfl ?_
  refine RO_getR (b := 233) gf_Model_99 lk_203 rfl dc_Model_worked_306 ?_
  refine RO_iload_n dc_Model_worked_309 rfl rfl ?_
  refine RO_chk (fun hi1 => ?_)
  refine RO_ia lk_233 hi1 dc_Model_worked_310 ?_
  refine RO_if_ne (tgt := 319) dc_Model_worked_311 rfl ?_ ?_
  · refine RO_iload dc_Model_worked_314 rfl ?_
    refine RO_goto (tgt := 328) dc_Model_worked_316 rfl ?_
    refine RO_sub ?_ (rb_Model_worked_328 p1 k14 H14 v2 v3 v2 v5 mem)
    exact ⟨rfl, rfl, rfl, rfl, trivial⟩
  · refine RO_aload_n dc_Model_worked_319 rfl rfl ?_
    refine RO_getR (b := 232) gf_Model_96 lk_203 rfl dc_Model_worked_320 ?_
    refine RO_iload_n dc_Model_worked_323 rfl rfl ?_
    refine RO_chk (fun hi2 => ?_)
    refine RO_ia lk_232 hi2 dc_Model_worked_324 ?_
    refine RO_iload dc_Model_worked_325 rfl ?_
    refine RO_imul dc_Model_worked_327 ?_
    refine RO_sub ?_ (rb_Model_worked_328 p1 k14 H14 v2 v3 v2 (w32 ((mem 232 v2.toNat) * v5)) mem)
    exact ⟨rfl, rfl, rfl, rfl, trivial⟩
def bo_Model_worked_292 (p1 : Int) (k14 : Int → Int → Mm → Res) (k268 : Int → Int → Int → Mm → Res) (v2 : Int) (v3 : Int) (s0 : Int) (mem : Mm) : Res := k268 (w32 (v2 + (-1))) v3 s0 mem
set_option maxHeartbeats 4000000 in
theorem rb_Model_worked_292 {E : EE} (p1 : Int)  (k14 : Int → Int → Mm → Res) (k268 : Int → Int → Int → Mm → Res) (H14 : ∀ (v2 : Int) (v3 : Int)  (mem : Mm), RO E mt_Model_worked (k14 v2 v3 mem) 14 [(0, rf 203), (1, vi p1), (2, vi v2), (3, vi v3)] [] mem) (H268 : ∀ (v2 : Int) (v3 : Int) (v5 : Int)  (mem : Mm), RO E mt_Model_worked (k268 v2 v3 v5 mem) 268 [(0, rf 203), (1, vi p1), (2, vi v2), (3, vi v3), (5, vi v5)] [] mem) (v2 : Int) (v3 : Int) (s0 : Int)  (mem : Mm) : RO E mt_Model_worked (bo_Model_worked_292 p1 k14 k268 v2 v3 s0 mem) 292 [(0, rf 203), (1, vi p1), (2, vi v2), (3, vi v3)] [vi s0] mem := by
  unfold bo_Model_worked_292
  refine RO_istore dc_Model_worked_292 (Nat.le_of_ble_eq_true rfl) ?_
  refine RO_iinc dc_Model_worked_294 rfl (Nat.le_of_ble_eq_true rfl) ?_
  refine RO_goto (tgt := 268) dc_Model_worked_297 rfl ?_
  refine RO_sub ?_ (H268 (w32 (v2 + (-1))) v3 s0 mem)
  exact ⟨rfl, rfl, rfl, rfl, rfl, trivial⟩
def bo_Model_worked_268 (p1 : Int) (k14 : Int → Int → Mm → Res) (k268 : Int → Int → Int → Mm → Res) (v2 : Int) (v3 : Int) (v5 : Int) (mem : Mm) : Res := if 0 < v2 then (if 0 ≤ v2 ∧ v2 < 7 then if (mem 234 v2.toNat) = 1 then (if v5 = 0 then (bo_Model_worked_292 p1 k14 k268 v2 v3 1 mem) else (bo_Model_worked_292 p1 k14 k268 v2 v3 0 mem)) else (bo_Model_worked_300 p1 k14 v2 v3 v5 mem) else none) else (bo_Model_worked_300 p1 k14 v2 v3 v5 mem)
set_option maxHeartbeats 4000000 in
theorem rb_Model_worked_268 {E : EE} (p1 : Int)  (k14 : Int → Int → Mm → Res) (k268 : Int → Int → Int → Mm → Res) (H14 : ∀ (v2 : Int) (v3 : Int)  (mem : Mm), RO E mt_Model_worked (k14 v2 v3 mem) 14 [(0, rf 203), (1, vi p1), (2, vi v2), (3, vi v3)] [] mem) (H268 : ∀ (v2 : Int) (v3 : Int) (v5 : Int)  (mem : Mm), RO E mt_Model_worked (k268 v2 v3 v5 mem) 268 [(0, rf 203), (1, vi p1), (2, vi v2), (3, vi v3), (5, vi v5)] [] mem) (v2 : Int) (v3 : Int) (v5 : Int)  (mem : Mm) : RO E mt_Model_worked (bo_Model_worked_268 p1 k14 k268 v2 v3 v5 mem) 268 [(0, rf 203), (1, vi p1), (2, vi v2), (3, vi v3), (5, vi v5)] [] mem := by
  unfold bo_Model_worked_268
  refine RO_iload_n dc_Model_worked_268 rfl rfl ?_
  refine RO_if_le (tgt := 300) dc_Model_worked_269 rfl ?_ ?_
  · refine RO_aload_n dc_Model_worked_272 rfl rfl ?_
    refine RO_getR (b := 234) gf_Model_102 lk_203 rfl dc_Model_worked_273 ?_
    refine RO_iload_n dc_Model_worked_276 rfl rfl ?_
    refine RO_chk (fun hi1 => ?_)
    refine RO_ia lk_234 hi1 dc_Model_worked_277 ?_
    refine RO_iconst dc_Model_worked_278 ?_
    refine RO_icmp_ne (tgt := 300) dc_Model_worked_279 rfl ?_ ?_
    · refine RO_iload dc_Model_worked_282 rfl ?_
      refine RO_if_ne (tgt := 291) dc_Model_worked_284 rfl ?_ ?_
      · refine RO_iconst dc_Model_worked_287 ?_
        refine RO_goto (tgt := 292) dc_Model_worked_288 rfl ?_
        refine RO_sub ?_ (rb_Model_worked_292 p1 k14 k268 H14 H268 v2 v3 1 mem)
        exact ⟨rfl, rfl, rfl, rfl, trivial⟩
      · refine RO_iconst dc_Model_worked_291 ?_
        refine RO_sub ?_ (rb_Model_worked_292 p1 k14 k268 H14 H268 v2 v3 0 mem)
        exact ⟨rfl, rfl, rfl, rfl, trivial⟩
    · refine RO_sub ?_ (rb_Model_worked_300 p1 k14 H14 v2 v3 v5 mem)
      exact ⟨rfl, rfl, rfl, rfl, rfl, trivial⟩
  · refine RO_sub ?_ (rb_Model_worked_300 p1 k14 H14 v2 v3 v5 mem)
    exact ⟨rfl, rfl, rfl, rfl, rfl, trivial⟩
def lp_Model_worked_268 (p1 : Int) (k14 : Int → Int → Mm → Res) : Nat → Int → Int → Int → Mm → Res
  | 0 => fun _ _ _ _ => none
  | n + 1 => bo_Model_worked_268 p1 k14 (lp_Model_worked_268 p1 k14 n)
theorem rp_Model_worked_268 {E : EE} (p1 : Int)  (k14 : Int → Int → Mm → Res) (H14 : ∀ (v2 : Int) (v3 : Int)  (mem : Mm), RO E mt_Model_worked (k14 v2 v3 mem) 14 [(0, rf 203), (1, vi p1), (2, vi v2), (3, vi v3)] [] mem) : ∀ (n : Nat) (v2 : Int) (v3 : Int) (v5 : Int)  (mem : Mm), RO E mt_Model_worked (lp_Model_worked_268 p1 k14 n v2 v3 v5 mem) 268 [(0, rf 203), (1, vi p1), (2, vi v2), (3, vi v3), (5, vi v5)] [] mem := by
  intro n
  induction n with
  | zero => intro v2 v3 v5  mem; exact RO_none
  | succ n ih => intro v2 v3 v5  mem; exact rb_Model_worked_268 p1  k14 (lp_Model_worked_268 p1 k14 n) H14 ih v2 v3 v5  mem
def bo_Model_worked_243 (p1 : Int) (k14 : Int → Int → Mm → Res) (v2 : Int) (v3 : Int) (v4 : Int) (s0 : Int) (mem : Mm) : Res := if v4 = 29 then (bd (fn_Model_tests v2 mem) fun r1 m2 => if 0 ≤ v2 ∧ v2 < 7 then bn (m2 226 v2.toNat) fun x4 => lp_Model_worked_268 p1 k14 FU (w32 (v2 + (-1))) v3 x4 m2 else none) else (lp_Model_worked_268 p1 k14 FU v2 v3 s0 mem)
set_option maxHeartbeats 4000000 in
theorem rb_Model_worked_243 {E : EE} (p1 : Int)  (k14 : Int → Int → Mm → Res) (H14 : ∀ (v2 : Int) (v3 : Int)  (mem : Mm), RO E mt_Model_worked (k14 v2 v3 mem) 14 [(0, rf 203), (1, vi p1), (2, vi v2), (3, vi v3)] [] mem) (v2 : Int) (v3 : Int) (v4 : Int) (s0 : Int)  (mem : Mm) : RO E mt_Model_worked (bo_Model_worked_243 p1 k14 v2 v3 v4 s0 mem) 243 [(0, rf 203), (1, vi p1), (2, vi v2), (3, vi v3), (4, vi v4)] [vi s0] mem := by
  unfold bo_Model_worked_243
  refine RO_istore dc_Model_worked_243 (Nat.le_of_ble_eq_true rfl) ?_
  refine RO_iload dc_Model_worked_245 rfl ?_
  refine RO_bipush dc_Model_worked_247 ?_
  refine RO_icmp_ne (tgt := 268) dc_Model_worked_249 rfl ?_ ?_
  · refine RO_aload_n dc_Model_worked_252 rfl rfl ?_
    refine RO_iload_n dc_Model_worked_253 rfl rfl ?_
    refine RO_callVv (As := [vi v2]) (rest := []) mi_Model_tests mv_Model_tests ml_Model_265 lk_203 (Nat.le_of_ble_eq_true rfl) rfl (Nat.le_of_ble_eq_true rfl) dc_Model_worked_254 (fun rq mq hq => pf_Model_tests v2  mem hq) (fun r1 m2 => ?_)
    refine RO_aload_n dc_Model_worked_257 rfl rfl ?_
    refine RO_getR (b := 226) gf_Model_78 lk_203 rfl dc_Model_worked_258 ?_
    refine RO_iload_n dc_Model_worked_261 rfl rfl ?_
    refine RO_chk (fun hi3 => ?_)
    refine RO_ia lk_226 hi3 dc_Model_worked_262 ?_
    refine RO_bnT (fun x4 => ?_)
    refine RO_istore dc_Model_worked_263 (Nat.le_of_ble_eq_true rfl) ?_
    refine RO_iinc dc_Model_worked_265 rfl (Nat.le_of_ble_eq_true rfl) ?_
    refine RO_sub ?_ (rp_Model_worked_268 p1 k14 H14 FU (w32 (v2 + (-1))) v3 x4 m2)
    exact ⟨rfl, rfl, rfl, rfl, rfl, trivial⟩
  · refine RO_sub ?_ (rp_Model_worked_268 p1 k14 H14 FU v2 v3 s0 mem)
    exact ⟨rfl, rfl, rfl, rfl, rfl, trivial⟩
def bo_Model_worked_194 (p1 : Int) (k14 : Int → Int → Mm → Res) (v2 : Int) (v3 : Int) (v4 : Int) (mem : Mm) : Res := bd (fn_Model_tests v2 mem) fun r1 m2 => if 0 ≤ v2 ∧ v2 < 7 then bn (mst m2 227 v2.toNat v4) fun m4 => bo_Model_worked_329 p1 k14 v2 v3 m4 else none
set_option maxHeartbeats 4000000 in
theorem rb_Model_worked_194 {E : EE} (p1 : Int)  (k14 : Int → Int → Mm → Res) (H14 : ∀ (v2 : Int) (v3 : Int)  (mem : Mm), RO E mt_Model_worked (k14 v2 v3 mem) 14 [(0, rf 203), (1, vi p1), (2, vi v2), (3, vi v3)] [] mem) (v2 : Int) (v3 : Int) (v4 : Int)  (mem : Mm) : RO E mt_Model_worked (bo_Model_worked_194 p1 k14 v2 v3 v4 mem) 194 [(0, rf 203), (1, vi p1), (2, vi v2), (3, vi v3), (4, vi v4)] [] mem := by
  unfold bo_Model_worked_194
  refine RO_aload_n dc_Model_worked_194 rfl rfl ?_
  refine RO_iload_n dc_Model_worked_195 rfl rfl ?_
  refine RO_callVv (As := [vi v2]) (rest := []) mi_Model_tests mv_Model_tests ml_Model_265 lk_203 (Nat.le_of_ble_eq_true rfl) rfl (Nat.le_of_ble_eq_true rfl) dc_Model_worked_196 (fun rq mq hq => pf_Model_tests v2  mem hq) (fun r1 m2 => ?_)
  refine RO_aload_n dc_Model_worked_199 rfl rfl ?_
  refine RO_getR (b := 227) gf_Model_81 lk_203 rfl dc_Model_worked_200 ?_
  refine RO_iload_n dc_Model_worked_203 rfl rfl ?_
  refine RO_iload dc_Model_worked_204 rfl ?_
  refine RO_chk (fun hi3 => ?_)
  refine RO_is lk_227 hi3 dc_Model_worked_206 ?_
  refine RO_bnM (fun m4 => ?_)
  refine RO_goto (tgt := 329) dc_Model_worked_207 rfl ?_
  refine RO_sub ?_ (rb_Model_worked_329 p1 k14 H14 v2 v3 m4)
  exact ⟨rfl, rfl, rfl, rfl, trivial⟩
def bo_Model_worked_137 (p1 : Int) (k14 : Int → Int → Mm → Res) (v2 : Int) (v3 : Int) (v4 : Int) (mem : Mm) : Res := bd (fn_Model_sums v2 mem) fun r1 m2 => if 0 ≤ v2 ∧ v2 < 7 then if 0 ≤ v2 ∧ v2 < 7 then bn (mst m2 228 v2.toNat (m2 230 v2.toNat)) fun m5 => if 0 ≤ v2 ∧ v2 < 7 then bn (mst m5 229 v2.toNat v4) fun m7 => if 0 ≤ v2 ∧ v2 < 7 then bn (mst m7 230 v2.toNat 0) fun m9 => if 0 ≤ v2 ∧ v2 < 7 then bn (mst m9 231 v2.toNat 20) fun m11 => bo_Model_worked_329 p1 k14 v2 v3 m11 else none else none else none else none else none
set_option maxHeartbeats 4000000 in
theorem rb_Model_worked_137 {E : EE} (p1 : Int)  (k14 : Int → Int → Mm → Res) (H14 : ∀ (v2 : Int) (v3 : Int)  (mem : Mm), RO E mt_Model_worked (k14 v2 v3 mem) 14 [(0, rf 203), (1, vi p1), (2, vi v2), (3, vi v3)] [] mem) (v2 : Int) (v3 : Int) (v4 : Int)  (mem : Mm) : RO E mt_Model_worked (bo_Model_worked_137 p1 k14 v2 v3 v4 mem) 137 [(0, rf 203), (1, vi p1), (2, vi v2), (3, vi v3), (4, vi v4)] [] mem := by
  unfold bo_Model_worked_137
  refine RO_aload_n dc_Model_worked_137 rfl rfl ?_
  refine RO_iload_n dc_Model_worked_138 rfl rfl ?_
  refine RO_callVv (As := [vi v2]) (rest := []) mi_Model_sums mv_Model_sums ml_Model_259 lk_203 (Nat.le_of_ble_eq_true rfl) rfl (Nat.le_of_ble_eq_true rfl) dc_Model_worked_139 (fun rq mq hq => pf_Model_sums v2  mem hq) (fun r1 m2 => ?_)
  refine RO_aload_n dc_Model_worked_142 rfl rfl ?_
  refine RO_getR (b := 228) gf_Model_84 lk_203 rfl dc_Model_worked_143 ?_
  refine RO_iload_n dc_Model_worked_146 rfl rfl ?_
  refine RO_aload_n dc_Model_worked_147 rfl rfl ?_
  refine RO_getR (b := 230) gf_Model_90 lk_203 rfl dc_Model_worked_148 ?_
  refine RO_iload_n dc_Model_worked_151 rfl rfl ?_
  refine RO_chk (fun hi3 => ?_)
  refine RO_ia lk_230 hi3 dc_Model_worked_152 ?_
  refine RO_chk (fun hi4 => ?_)
  refine RO_is lk_228 hi4 dc_Model_worked_153 ?_
  refine RO_bnM (fun m5 => ?_)
  refine RO_aload_n dc_Model_worked_154 rfl rfl ?_
  refine RO_getR (b := 229) gf_Model_87 lk_203 rfl dc_Model_worked_155 ?_
  refine RO_iload_n dc_Model_worked_158 rfl rfl ?_
  refine RO_iload dc_Model_worked_159 rfl ?_
  refine RO_chk (fun hi6 => ?_)
  refine RO_is lk_229 hi6 dc_Model_worked_161 ?_
  refine RO_bnM (fun m7 => ?_)
  refine RO_aload_n dc_Model_worked_162 rfl rfl ?_
  refine RO_getR (b := 230) gf_Model_90 lk_203 rfl dc_Model_worked_163 ?_
  refine RO_iload_n dc_Model_worked_166 rfl rfl ?_
  refine RO_iconst dc_Model_worked_167 ?_
  refine RO_chk (fun hi8 => ?_)
  refine RO_is lk_230 hi8 dc_Model_worked_168 ?_
  refine RO_bnM (fun m9 => ?_)
  refine RO_aload_n dc_Model_worked_169 rfl rfl ?_
  refine RO_getR (b := 231) gf_Model_93 lk_203 rfl dc_Model_worked_170 ?_
  refine RO_iload_n dc_Model_worked_173 rfl rfl ?_
  refine RO_bipush dc_Model_worked_174 ?_
  refine RO_chk (fun hi10 => ?_)
  refine RO_is lk_231 hi10 dc_Model_worked_176 ?_
  refine RO_bnM (fun m11 => ?_)
  refine RO_goto (tgt := 329) dc_Model_worked_177 rfl ?_
  refine RO_sub ?_ (rb_Model_worked_329 p1 k14 H14 v2 v3 m11)
  exact ⟨rfl, rfl, rfl, rfl, trivial⟩
def bo_Model_worked_89 (p1 : Int) (k14 : Int → Int → Mm → Res) (v2 : Int) (v3 : Int) (v4 : Int) (mem : Mm) : Res := bd (fn_Model_sums v2 mem) fun r1 m2 => if 0 ≤ v2 ∧ v2 < 7 then bn (mst m2 231 v2.toNat v4) fun m4 => bo_Model_worked_329 p1 k14 v2 v3 m4 else none
set_option maxHeartbeats 4000000 in
theorem rb_Model_worked_89 {E : EE} (p1 : Int)  (k14 : Int → Int → Mm → Res) (H14 : ∀ (v2 : Int) (v3 : Int)  (mem : Mm), RO E mt_Model_worked (k14 v2 v3 mem) 14 [(0, rf 203), (1, vi p1), (2, vi v2), (3, vi v3)] [] mem) (v2 : Int) (v3 : Int) (v4 : Int)  (mem : Mm) : RO E mt_Model_worked (bo_Model_worked_89 p1 k14 v2 v3 v4 mem) 89 [(0, rf 203), (1, vi p1), (2, vi v2), (3, vi v3), (4, vi v4)] [] mem := by
  unfold bo_Model_worked_89
  refine RO_aload_n dc_Model_worked_89 rfl rfl ?_
  refine RO_iload_n dc_Model_worked_90 rfl rfl ?_
  refine RO_callVv (As := [vi v2]) (rest := []) mi_Model_sums mv_Model_sums ml_Model_259 lk_203 (Nat.le_of_ble_eq_true rfl) rfl (Nat.le_of_ble_eq_true rfl) dc_Model_worked_91 (fun rq mq hq => pf_Model_sums v2  mem hq) (fun r1 m2 => ?_)
  refine RO_aload_n dc_Model_worked_94 rfl rfl ?_
  refine RO_getR (b := 231) gf_Model_93 lk_203 rfl dc_Model_worked_95 ?_
  refine RO_iload_n dc_Model_worked_98 rfl rfl ?_
  refine RO_iload dc_Model_worked_99 rfl ?_
  refine RO_chk (fun hi3 => ?_)
  refine RO_is lk_231 hi3 dc_Model_worked_101 ?_
  refine RO_bnM (fun m4 => ?_)
  refine RO_goto (tgt := 329) dc_Model_worked_102 rfl ?_
  refine RO_sub ?_ (rb_Model_worked_329 p1 k14 H14 v2 v3 m4)
  exact ⟨rfl, rfl, rfl, rfl, trivial⟩
def bo_Model_worked_66 (p1 : Int) (k14 : Int → Int → Mm → Res) (v2 : Int) (v3 : Int) (s1 : Int) (s2 : Int) (mem : Mm) : Res := if 0 ≤ s1 ∧ s1 < 7 then bn (mst mem 234 s1.toNat s2) fun m2 => bd (fn_Model_opens v2 m2) fun r3 m4 => bo_Model_worked_329 p1 k14 v2 v3 m4 else none
set_option maxHeartbeats 4000000 in
theorem rb_Model_worked_66 {E : EE} (p1 : Int)  (k14 : Int → Int → Mm → Res) (H14 : ∀ (v2 : Int) (v3 : Int)  (mem : Mm), RO E mt_Model_worked (k14 v2 v3 mem) 14 [(0, rf 203), (1, vi p1), (2, vi v2), (3, vi v3)] [] mem) (v2 : Int) (v3 : Int) (s1 : Int) (s2 : Int)  (mem : Mm) : RO E mt_Model_worked (bo_Model_worked_66 p1 k14 v2 v3 s1 s2 mem) 66 [(0, rf 203), (1, vi p1), (2, vi v2), (3, vi v3)] [vi s2, vi s1, rf 234] mem := by
  unfold bo_Model_worked_66
  refine RO_chk (fun hi1 => ?_)
  refine RO_is lk_234 hi1 dc_Model_worked_66 ?_
  refine RO_bnM (fun m2 => ?_)
  refine RO_aload_n dc_Model_worked_67 rfl rfl ?_
  refine RO_iload_n dc_Model_worked_68 rfl rfl ?_
  refine RO_callVv (As := [vi v2]) (rest := []) mi_Model_opens mv_Model_opens ml_Model_262 lk_203 (Nat.le_of_ble_eq_true rfl) rfl (Nat.le_of_ble_eq_true rfl) dc_Model_worked_69 (fun rq mq hq => pf_Model_opens v2  m2 hq) (fun r3 m4 => ?_)
  refine RO_goto (tgt := 329) dc_Model_worked_72 rfl ?_
  refine RO_sub ?_ (rb_Model_worked_329 p1 k14 H14 v2 v3 m4)
  exact ⟨rfl, rfl, rfl, rfl, trivial⟩
def bo_Model_worked_46 (p1 : Int) (k14 : Int → Int → Mm → Res) (v2 : Int) (v3 : Int) (v4 : Int) (mem : Mm) : Res := if v4 = 30 then (bo_Model_worked_66 p1 k14 (w32 (v2 + 1)) v3 (w32 (v2 + 1)) 1 mem) else (bo_Model_worked_66 p1 k14 (w32 (v2 + 1)) v3 (w32 (v2 + 1)) 0 mem)
set_option maxHeartbeats 4000000 in
theorem rb_Model_worked_46 {E : EE} (p1 : Int)  (k14 : Int → Int → Mm → Res) (H14 : ∀ (v2 : Int) (v3 : Int)  (mem : Mm), RO E mt_Model_worked (k14 v2 v3 mem) 14 [(0, rf 203), (1, vi p1), (2, vi v2), (3, vi v3)] [] mem) (v2 : Int) (v3 : Int) (v4 : Int)  (mem : Mm) : RO E mt_Model_worked (bo_Model_worked_46 p1 k14 v2 v3 v4 mem) 46 [(0, rf 203), (1, vi p1), (2, vi v2), (3, vi v3), (4, vi v4)] [] mem := by
  unfold bo_Model_worked_46
  refine RO_iinc dc_Model_worked_46 rfl (Nat.le_of_ble_eq_true rfl) ?_
  refine RO_aload_n dc_Model_worked_49 rfl rfl ?_
  refine RO_getR (b := 234) gf_Model_102 lk_203 rfl dc_Model_worked_50 ?_
  refine RO_iload_n dc_Model_worked_53 rfl rfl ?_
  refine RO_iload dc_Model_worked_54 rfl ?_
  refine RO_bipush dc_Model_worked_56 ?_
  refine RO_icmp_ne (tgt := 65) dc_Model_worked_58 rfl ?_ ?_
  · refine RO_iconst dc_Model_worked_61 ?_
    refine RO_goto (tgt := 66) dc_Model_worked_62 rfl ?_
    refine RO_sub ?_ (rb_Model_worked_66 p1 k14 H14 (w32 (v2 + 1)) v3 (w32 (v2 + 1)) 1 mem)
    exact ⟨rfl, rfl, rfl, rfl, trivial⟩
  · refine RO_iconst dc_Model_worked_65 ?_
    refine RO_sub ?_ (rb_Model_worked_66 p1 k14 H14 (w32 (v2 + 1)) v3 (w32 (v2 + 1)) 0 mem)
    exact ⟨rfl, rfl, rfl, rfl, trivial⟩
def bo_Model_worked_14 (p1 : Int) (k14 : Int → Int → Mm → Res) (v2 : Int) (v3 : Int) (mem : Mm) : Res := if 0 ≤ p1 ∧ p1 < 2 then if v3 < (mem 222 p1.toNat) then (if 0 ≤ v3 ∧ v3 < 2000 then bn (mem 223 v3.toNat) fun x3 => if x3 = 28 then (bo_Model_worked_46 p1 k14 v2 v3 x3 mem) else (if x3 = 30 then (bo_Model_worked_46 p1 k14 v2 v3 x3 mem) else (if x3 = 20 then (bo_Model_worked_89 p1 k14 v2 v3 x3 mem) else (if x3 = 21 then (bo_Model_worked_89 p1 k14 v2 v3 x3 mem) else (if x3 = 22 then (if 0 ≤ v2 ∧ v2 < 7 then bn (mst mem 233 v2.toNat x3) fun m5 => bo_Model_worked_329 p1 k14 v2 v3 m5 else none) else (if x3 = 24 then (bo_Model_worked_137 p1 k14 v2 v3 x3 mem) else (if x3 = 25 then (bo_Model_worked_137 p1 k14 v2 v3 x3 mem) else (if x3 = 26 then (bo_Model_worked_194 p1 k14 v2 v3 x3 mem) else (if x3 = 27 then (bo_Model_worked_194 p1 k14 v2 v3 x3 mem) else (if x3 < 100 then (if x3 < 20 then (if 0 ≤ x3 ∧ x3 < 20 then bo_Model_worked_243 p1 k14 v2 v3 x3 (mem 235 x3.toNat) mem else none) else (bo_Model_worked_243 p1 k14 v2 v3 x3 0 mem)) else (bo_Model_worked_243 p1 k14 v2 v3 x3 (w32 (x3 - 100)) mem)))))))))) else none) else (bo_Model_worked_335 p1 mem) else none
set_option maxHeartbeats 4000000 in
theorem rb_Model_worked_14 {E : EE} (p1 : Int)  (k14 : Int → Int → Mm → Res) (H14 : ∀ (v2 : Int) (v3 : Int)  (mem : Mm), RO E mt_Model_worked (k14 v2 v3 mem) 14 [(0, rf 203), (1, vi p1), (2, vi v2), (3, vi v3)] [] mem) (v2 : Int) (v3 : Int)  (mem : Mm) : RO E mt_Model_worked (bo_Model_worked_14 p1 k14 v2 v3 mem) 14 [(0, rf 203), (1, vi p1), (2, vi v2), (3, vi v3)] [] mem := by
  unfold bo_Model_worked_14
  refine RO_iload_n dc_Model_worked_14 rfl rfl ?_
  refine RO_aload_n dc_Model_worked_15 rfl rfl ?_
  refine RO_getR (b := 222) gf_Model_65 lk_203 rfl dc_Model_worked_16 ?_
  refine RO_iload_n dc_Model_worked_19 rfl rfl ?_
  refine RO_chk (fun hi1 => ?_)
  refine RO_ia lk_222 hi1 dc_Model_worked_20 ?_
  refine RO_icmp_ge (tgt := 335) dc_Model_worked_21 rfl ?_ ?_
  · refine RO_aload_n dc_Model_worked_24 rfl rfl ?_
    refine RO_getR (b := 223) gf_Model_68 lk_203 rfl dc_Model_worked_25 ?_
    refine RO_iload_n dc_Model_worked_28 rfl rfl ?_
    refine RO_chk (fun hi2 => ?_)
    refine RO_ia lk_223 hi2 dc_Model_worked_29 ?_
    refine RO_bnT (fun x3 => ?_)
    refine RO_istore dc_Model_worked_30 (Nat.le_of_ble_eq_true rfl) ?_
    refine RO_iload dc_Model_worked_32 rfl ?_
    refine RO_bipush dc_Model_worked_34 ?_
    refine RO_icmp_eq (tgt := 46) dc_Model_worked_36 rfl ?_ ?_
    · refine RO_sub ?_ (rb_Model_worked_46 p1 k14 H14 v2 v3 x3 mem)
      exact ⟨rfl, rfl, rfl, rfl, rfl, trivial⟩
    · refine RO_iload dc_Model_worked_39 rfl ?_
      refine RO_bipush dc_Model_worked_41 ?_
      refine RO_icmp_ne (tgt := 75) dc_Model_worked_43 rfl ?_ ?_
      · refine RO_sub ?_ (rb_Model_worked_46 p1 k14 H14 v2 v3 x3 mem)
        exact ⟨rfl, rfl, rfl, rfl, rfl, trivial⟩
      · refine RO_iload dc_Model_worked_75 rfl ?_
        refine RO_bipush dc_Model_worked_77 ?_
        refine RO_icmp_eq (tgt := 89) dc_Model_worked_79 rfl ?_ ?_
        · refine RO_sub ?_ (rb_Model_worked_89 p1 k14 H14 v2 v3 x3 mem)
          exact ⟨rfl, rfl, rfl, rfl, rfl, trivial⟩
        · refine RO_iload dc_Model_worked_82 rfl ?_
          refine RO_bipush dc_Model_worked_84 ?_
          refine RO_icmp_ne (tgt := 105) dc_Model_worked_86 rfl ?_ ?_
          · refine RO_sub ?_ (rb_Model_worked_89 p1 k14 H14 v2 v3 x3 mem)
            exact ⟨rfl, rfl, rfl, rfl, rfl, trivial⟩
          · refine RO_iload dc_Model_worked_105 rfl ?_
            refine RO_bipush dc_Model_worked_107 ?_
            refine RO_icmp_ne (tgt := 123) dc_Model_worked_109 rfl ?_ ?_
            · refine RO_aload_n dc_Model_worked_112 rfl rfl ?_
              refine RO_getR (b := 233) gf_Model_99 lk_203 rfl dc_Model_worked_113 ?_
              refine RO_iload_n dc_Model_worked_116 rfl rfl ?_
              refine RO_iload dc_Model_worked_117 rfl ?_
              refine RO_chk (fun hi4 => ?_)
              refine RO_is lk_233 hi4 dc_Model_worked_119 ?_
              refine RO_bnM (fun m5 => ?_)
              refine RO_goto (tgt := 329) dc_Model_worked_120 rfl ?_
              refine RO_sub ?_ (rb_Model_worked_329 p1 k14 H14 v2 v3 m5)
              exact ⟨rfl, rfl, rfl, rfl, trivial⟩
            · refine RO_iload dc_Model_worked_123 rfl ?_
              refine RO_bipush dc_Model_worked_125 ?_
              refine RO_icmp_eq (tgt := 137) dc_Model_worked_127 rfl ?_ ?_
              · refine RO_sub ?_ (rb_Model_worked_137 p1 k14 H14 v2 v3 x3 mem)
                exact ⟨rfl, rfl, rfl, rfl, rfl, trivial⟩
              · refine RO_iload dc_Model_worked_130 rfl ?_
                refine RO_bipush dc_Model_worked_132 ?_
                refine RO_icmp_ne (tgt := 180) dc_Model_worked_134 rfl ?_ ?_
                · refine RO_sub ?_ (rb_Model_worked_137 p1 k14 H14 v2 v3 x3 mem)
                  exact ⟨rfl, rfl, rfl, rfl, rfl, trivial⟩
                · refine RO_iload dc_Model_worked_180 rfl ?_
                  refine RO_bipush dc_Model_worked_182 ?_
                  refine RO_icmp_eq (tgt := 194) dc_Model_worked_184 rfl ?_ ?_
                  · refine RO_sub ?_ (rb_Model_worked_194 p1 k14 H14 v2 v3 x3 mem)
                    exact ⟨rfl, rfl, rfl, rfl, rfl, trivial⟩
                  · refine RO_iload dc_Model_worked_187 rfl ?_
                    refine RO_bipush dc_Model_worked_189 ?_
                    refine RO_icmp_ne (tgt := 210) dc_Model_worked_191 rfl ?_ ?_
                    · refine RO_sub ?_ (rb_Model_worked_194 p1 k14 H14 v2 v3 x3 mem)
                      exact ⟨rfl, rfl, rfl, rfl, rfl, trivial⟩
                    · refine RO_iload dc_Model_worked_210 rfl ?_
                      refine RO_bipush dc_Model_worked_212 ?_
                      refine RO_icmp_lt (tgt := 225) dc_Model_worked_214 rfl ?_ ?_
                      · refine RO_iload dc_Model_worked_225 rfl ?_
                        refine RO_bipush dc_Model_worked_227 ?_
                        refine RO_icmp_ge (tgt := 242) dc_Model_worked_229 rfl ?_ ?_
                        · refine RO_aload_n dc_Model_worked_232 rfl rfl ?_
                          refine RO_getR (b := 235) gf_Model_105 lk_203 rfl dc_Model_worked_233 ?_
                          refine RO_iload dc_Model_worked_236 rfl ?_
                          refine RO_chk (fun hi6 => ?_)
                          refine RO_ia lk_235 hi6 dc_Model_worked_238 ?_
                          refine RO_goto (tgt := 243) dc_Model_worked_239 rfl ?_
                          refine RO_sub ?_ (rb_Model_worked_243 p1 k14 H14 v2 v3 x3 (mem 235 x3.toNat) mem)
                          exact ⟨rfl, rfl, rfl, rfl, rfl, trivial⟩
                        · refine RO_iconst dc_Model_worked_242 ?_
                          refine RO_sub ?_ (rb_Model_worked_243 p1 k14 H14 v2 v3 x3 0 mem)
                          exact ⟨rfl, rfl, rfl, rfl, rfl, trivial⟩
                      · refine RO_iload dc_Model_worked_217 rfl ?_
                        refine RO_bipush dc_Model_worked_219 ?_
                        refine RO_isub dc_Model_worked_221 ?_
                        refine RO_goto (tgt := 243) dc_Model_worked_222 rfl ?_
                        refine RO_sub ?_ (rb_Model_worked_243 p1 k14 H14 v2 v3 x3 (w32 (x3 - 100)) mem)
                        exact ⟨rfl, rfl, rfl, rfl, rfl, trivial⟩
  · refine RO_sub ?_ (rb_Model_worked_335 p1 mem)
    exact ⟨rfl, trivial⟩
def lp_Model_worked_14 (p1 : Int)  : Nat → Int → Int → Mm → Res
  | 0 => fun _ _ _ => none
  | n + 1 => bo_Model_worked_14 p1  (lp_Model_worked_14 p1  n)
theorem rp_Model_worked_14 {E : EE} (p1 : Int)    : ∀ (n : Nat) (v2 : Int) (v3 : Int)  (mem : Mm), RO E mt_Model_worked (lp_Model_worked_14 p1  n v2 v3 mem) 14 [(0, rf 203), (1, vi p1), (2, vi v2), (3, vi v3)] [] mem := by
  intro n
  induction n with
  | zero => intro v2 v3  mem; exact RO_none
  | succ n ih => intro v2 v3  mem; exact rb_Model_worked_14 p1   (lp_Model_worked_14 p1  n)  ih v2 v3  mem
def fn_Model_worked (p1 : Int) (mem : Mm) : Res := bd (fn_Model_opens 0 mem) fun r1 m2 => if 0 ≤ p1 ∧ p1 < 2 then bn (m2 221 p1.toNat) fun x4 => lp_Model_worked_14 p1 FU 0 x4 m2 else none
set_option maxHeartbeats 4000000 in
theorem pf_Model_worked {E : EE} (p1 : Int)  (mem : Mm) {r : Int} {mem9 : Mm} (h : fn_Model_worked p1 mem = some (r, mem9)) : MetX E 3 yn_Model_worked cd_Model_worked 6 (some .int) [rf 203, vi p1] mem r mem9 := by
  refine RO_met (y := yn_Model_worked) (by decide +kernel) (Nat.le_of_ble_eq_true rfl) ?_ h
  show RO E mt_Model_worked (fn_Model_worked p1 mem) 0 [(0, rf 203), (1, vi p1)] [] mem
  unfold fn_Model_worked
  refine RO_iconst dc_Model_worked_0 ?_
  refine RO_istore_n dc_Model_worked_1 rfl (Nat.le_of_ble_eq_true rfl) ?_
  refine RO_aload_n dc_Model_worked_2 rfl rfl ?_
  refine RO_iconst dc_Model_worked_3 ?_
  refine RO_callVv (As := [vi 0]) (rest := []) mi_Model_opens mv_Model_opens ml_Model_262 lk_203 (Nat.le_of_ble_eq_true rfl) rfl (Nat.le_of_ble_eq_true rfl) dc_Model_worked_4 (fun rq mq hq => pf_Model_opens 0  mem hq) (fun r1 m2 => ?_)
  refine RO_aload_n dc_Model_worked_7 rfl rfl ?_
  refine RO_getR (b := 221) gf_Model_62 lk_203 rfl dc_Model_worked_8 ?_
  refine RO_iload_n dc_Model_worked_11 rfl rfl ?_
  refine RO_chk (fun hi3 => ?_)
  refine RO_ia lk_221 hi3 dc_Model_worked_12 ?_
  refine RO_bnT (fun x4 => ?_)
  refine RO_istore_n dc_Model_worked_13 rfl (Nat.le_of_ble_eq_true rfl) ?_
  refine RO_sub ?_ (rp_Model_worked_14 p1 FU 0 x4 m2)
  exact ⟨rfl, rfl, rfl, rfl, trivial⟩
