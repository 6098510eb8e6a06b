def bo_HillsReader_readWaits_83   (v1 : Int) (v2 : Int) (v3 : Nat) (s0 : Int) (mem : Mm) : Res := if s0 = (-1) then (some (0, mem)) else (if s0 = v1 then (bd (fn_Tape_wrong 3 mem) fun r1 m2 => if r1 = 0 ∨ r1 = 1 then some (r1, m2) else none) else (bd (fn_Tape_step  mem) fun r4 m5 => bd (fn_Tape_takeNumber 1 60 m5) fun r6 m7 => if r6 = (-1) then (some (0, m7)) else (if 0 ≤ v2 ∧ v2 < 6 then bn (mst m7 (v3 + 2) v2.toNat s0) fun m9 => if 0 ≤ v2 ∧ v2 < 6 then bn (mst m9 (v3 + 3) v2.toNat r6) fun m11 => if isK 0 (m11 3 1) = true then bn (mst m11 (m11 3 1).toNat 4 (w32 ((m11 (m11 3 1).toNat 4) + 1))) fun m13 => bd (fn_Tape_takeSign 59 m13) fun r14 m15 => if r14 = 0 ∨ r14 = 1 then some (r14, m15) else none else none else none else none)))
set_option maxHeartbeats 4000000 in
theorem rb_HillsReader_readWaits_83 {E : EE}     (v1 : Int) (v2 : Int) (v3 : Nat) (s0 : Int) (hk_v3 : ly_k v3 = (9, 8)) (mem : Mm) : RO E mt_HillsReader_readWaits (bo_HillsReader_readWaits_83   v1 v2 v3 s0 mem) 83 [(0, rf 3), (1, vi v1), (2, vi v2), (3, rf v3)] [vi s0] mem := by
  unfold bo_HillsReader_readWaits_83
  refine RO_istore dc_HillsReader_readWaits_83 (Nat.le_of_ble_eq_true rfl) ?_
  refine RO_iload dc_HillsReader_readWaits_85 rfl ?_
  refine RO_iconst dc_HillsReader_readWaits_87 ?_
  refine RO_icmp_ne (tgt := 93) dc_HillsReader_readWaits_88 rfl ?_ ?_
  · refine RO_iconst dc_HillsReader_readWaits_91 ?_
    exact RO_zret rfl (Or.inl rfl) dc_HillsReader_readWaits_92
  · refine RO_iload dc_HillsReader_readWaits_93 rfl ?_
    refine RO_iload_n dc_HillsReader_readWaits_95 rfl rfl ?_
    refine RO_icmp_ne (tgt := 108) dc_HillsReader_readWaits_96 rfl ?_ ?_
    · refine RO_aload_n dc_HillsReader_readWaits_99 rfl rfl ?_
      refine RO_getR (b := 1) gf_HillsReader_9 lk_3 rfl dc_HillsReader_readWaits_100 ?_
      refine RO_iconst dc_HillsReader_readWaits_103 ?_
      refine RO_callVi (As := [vi 3]) (rest := []) mi_Tape_wrong mv_Tape_wrong ml_HillsReader_100 lk_1 (Nat.le_of_ble_eq_true rfl) rfl (Nat.le_of_ble_eq_true rfl) (fun _ => rfl) dc_HillsReader_readWaits_104 (fun rq mq hq => pf_Tape_wrong 3  mem hq) (fun r1 m2 => ?_)
      refine RO_chk (fun hz3 => ?_)
      exact RO_zret rfl hz3 dc_HillsReader_readWaits_107
    · refine RO_aload_n dc_HillsReader_readWaits_108 rfl rfl ?_
      refine RO_getR (b := 1) gf_HillsReader_9 lk_3 rfl dc_HillsReader_readWaits_109 ?_
      refine RO_callVv (As := []) (rest := []) mi_Tape_step mv_Tape_step ml_HillsReader_110 lk_1 (Nat.le_of_ble_eq_true rfl) rfl (Nat.le_of_ble_eq_true rfl) dc_HillsReader_readWaits_112 (fun rq mq hq => pf_Tape_step   mem hq) (fun r4 m5 => ?_)
      refine RO_aload_n dc_HillsReader_readWaits_115 rfl rfl ?_
      refine RO_getR (b := 1) gf_HillsReader_9 lk_3 rfl dc_HillsReader_readWaits_116 ?_
      refine RO_iconst dc_HillsReader_readWaits_119 ?_
      refine RO_bipush dc_HillsReader_readWaits_120 ?_
      refine RO_callVi (As := [vi 1, vi 60]) (rest := []) mi_Tape_takeNumber mv_Tape_takeNumber ml_HillsReader_156 lk_1 (Nat.le_of_ble_eq_true rfl) rfl (Nat.le_of_ble_eq_true rfl) (fun _ => rfl) dc_HillsReader_readWaits_122 (fun rq mq hq => pf_Tape_takeNumber 1 60  m5 hq) (fun r6 m7 => ?_)
      refine RO_istore dc_HillsReader_readWaits_125 (Nat.le_of_ble_eq_true rfl) ?_
      refine RO_iload dc_HillsReader_readWaits_127 rfl ?_
      refine RO_iconst dc_HillsReader_readWaits_129 ?_
      refine RO_icmp_ne (tgt := 135) dc_HillsReader_readWaits_130 rfl ?_ ?_
      · refine RO_iconst dc_HillsReader_readWaits_133 ?_
        exact RO_zret rfl (Or.inl rfl) dc_HillsReader_readWaits_134
      · refine RO_aload_n dc_HillsReader_readWaits_135 rfl rfl ?_
        refine RO_getR (b := (v3 + 2)) gf_HillsReader_225 hk_v3 (by omega) dc_HillsReader_readWaits_136 ?_
        refine RO_iload_n dc_HillsReader_readWaits_139 rfl rfl ?_
        refine RO_iload dc_HillsReader_readWaits_140 rfl ?_
        refine RO_chk (fun hi8 => ?_)
        refine RO_is (cl_9_6 hk_v3) hi8 dc_HillsReader_readWaits_142 ?_
        refine RO_bnM (fun m9 => ?_)
        refine RO_aload_n dc_HillsReader_readWaits_143 rfl rfl ?_
        refine RO_getR (b := (v3 + 3)) gf_HillsReader_231 hk_v3 (by omega) dc_HillsReader_readWaits_144 ?_
        refine RO_iload_n dc_HillsReader_readWaits_147 rfl rfl ?_
        refine RO_iload dc_HillsReader_readWaits_148 rfl ?_
        refine RO_chk (fun hi10 => ?_)
        refine RO_is (cl_9_7 hk_v3) hi10 dc_HillsReader_readWaits_150 ?_
        refine RO_bnM (fun m11 => ?_)
        refine RO_aload_n dc_HillsReader_readWaits_151 rfl rfl ?_
        refine RO_chk (fun hz12 => ?_)
        refine RO_getM gf_HillsReader_15 lk_3 (isK_0 hz12) dc_HillsReader_readWaits_152 ?_
        refine RO_dup dc_HillsReader_readWaits_155 (nt2 _) ?_
        refine RO_getI gf_HillsReader_79 (kd_0 hz12) dc_HillsReader_readWaits_156 ?_
        refine RO_iconst dc_HillsReader_readWaits_159 ?_
        refine RO_iadd dc_HillsReader_readWaits_160 ?_
        refine RO_putI gp_HillsReader_79 (kd_0 hz12) dc_HillsReader_readWaits_161 ?_
        refine RO_bnM (fun m13 => ?_)
        refine RO_aload_n dc_HillsReader_readWaits_164 rfl rfl ?_
        refine RO_getR (b := 1) gf_HillsReader_9 lk_3 rfl dc_HillsReader_readWaits_165 ?_
        refine RO_bipush dc_HillsReader_readWaits_168 ?_
        refine RO_callVi (As := [vi 59]) (rest := []) mi_Tape_takeSign mv_Tape_takeSign ml_HillsReader_145 lk_1 (Nat.le_of_ble_eq_true rfl) rfl (Nat.le_of_ble_eq_true rfl) (fun _ => rfl) dc_HillsReader_readWaits_170 (fun rq mq hq => pf_Tape_takeSign 59  m13 hq) (fun r14 m15 => ?_)
        refine RO_chk (fun hz16 => ?_)
        exact RO_zret rfl hz16 dc_HillsReader_readWaits_173
def bo_HillsReader_readWaits_18   (v1 : Int) (s0 : Int) (mem : Mm) : Res := if s0 = (-1) then (some (0, mem)) else (if isK 0 (mem 3 1) = true then if 0 ≤ v1 ∧ v1 < 6 then if 0 ≤ s0 ∧ s0 < 6 then if (mem (((mem 3 1).toNat + 4 * v1.toNat) + 15) s0.toNat) = (-1) then (bd (fn_Tape_step  mem) fun r6 m7 => bd (fn_Tape_take (-11) m7) fun r8 m9 => if r8 = 0 then (bo_HillsReader_readWaits_83 v1 s0 (((mem 3 1).toNat + 4 * v1.toNat) + 13) (-1) m9) else (bd (fn_HillsReader_whichWalker  m9) fun r10 m11 => bo_HillsReader_readWaits_83 v1 s0 (((mem 3 1).toNat + 4 * v1.toNat) + 13) r10 m11)) else (bd (fn_Tape_wrong 3 mem) fun r12 m13 => if r12 = 0 ∨ r12 = 1 then some (r12, m13) else none) else none else none else none)
set_option maxHeartbeats 4000000 in
theorem rb_HillsReader_readWaits_18 {E : EE}     (v1 : Int) (s0 : Int)  (mem : Mm) : RO E mt_HillsReader_readWaits (bo_HillsReader_readWaits_18   v1 s0 mem) 18 [(0, rf 3), (1, vi v1)] [vi s0] mem := by
  unfold bo_HillsReader_readWaits_18
  refine RO_istore_n dc_HillsReader_readWaits_18 rfl (Nat.le_of_ble_eq_true rfl) ?_
  refine RO_iload_n dc_HillsReader_readWaits_19 rfl rfl ?_
  refine RO_iconst dc_HillsReader_readWaits_20 ?_
  refine RO_icmp_ne (tgt := 26) dc_HillsReader_readWaits_21 rfl ?_ ?_
  · refine RO_iconst dc_HillsReader_readWaits_24 ?_
    exact RO_zret rfl (Or.inl rfl) dc_HillsReader_readWaits_25
  · refine RO_aload_n dc_HillsReader_readWaits_26 rfl rfl ?_
    refine RO_chk (fun hz1 => ?_)
    refine RO_getM gf_HillsReader_15 lk_3 (isK_0 hz1) dc_HillsReader_readWaits_27 ?_
    refine RO_getR (b := ((mem 3 1).toNat + 6)) gf_HillsReader_163 (kd_0 hz1) (by omega) dc_HillsReader_readWaits_30 ?_
    refine RO_iload_n dc_HillsReader_readWaits_33 rfl rfl ?_
    refine RO_chk (fun hi2 => ?_)
    have hb3 : ((mem 3 1).toNat + 6) + (raO 18).1 + (raO 18).2 * v1.toNat = (((mem 3 1).toNat + 4 * v1.toNat) + 13) := by show _ + 7 + 4 * _ = _; omega
    have hk4 := el_18 (cl_0_10 (kd_0 hz1)) hi2 hb3
    refine RO_aa (by decide) (cl_0_10 (kd_0 hz1)) hi2 hb3 dc_HillsReader_readWaits_34 ?_
    refine RO_astore_n dc_HillsReader_readWaits_35 rfl (Nat.le_of_ble_eq_true rfl) ?_
    refine RO_aload_n dc_HillsReader_readWaits_36 rfl rfl ?_
    refine RO_getR (b := (((mem 3 1).toNat + 4 * v1.toNat) + 15)) gf_HillsReader_225 hk4 (by omega) dc_HillsReader_readWaits_37 ?_
    refine RO_iload_n dc_HillsReader_readWaits_40 rfl rfl ?_
    refine RO_chk (fun hi5 => ?_)
    refine RO_ia (cl_9_6 hk4) hi5 dc_HillsReader_readWaits_41 ?_
    refine RO_iconst dc_HillsReader_readWaits_42 ?_
    refine RO_icmp_eq (tgt := 55) dc_HillsReader_readWaits_43 rfl ?_ ?_
    · refine RO_aload_n dc_HillsReader_readWaits_55 rfl rfl ?_
      refine RO_getR (b := 1) gf_HillsReader_9 lk_3 rfl dc_HillsReader_readWaits_56 ?_
      refine RO_callVv (As := []) (rest := []) mi_Tape_step mv_Tape_step ml_HillsReader_110 lk_1 (Nat.le_of_ble_eq_true rfl) rfl (Nat.le_of_ble_eq_true rfl) dc_HillsReader_readWaits_59 (fun rq mq hq => pf_Tape_step   mem hq) (fun r6 m7 => ?_)
      refine RO_aload_n dc_HillsReader_readWaits_62 rfl rfl ?_
      refine RO_getR (b := 1) gf_HillsReader_9 lk_3 rfl dc_HillsReader_readWaits_63 ?_
      refine RO_getsW 9 (by decide) (x := (-11)) (by decide) gs_HillsReader_228 dc_HillsReader_readWaits_66 ?_
      refine RO_callVi (As := [vw (-11)]) (rest := []) mi_Tape_take mv_Tape_take ml_HillsReader_60 lk_1 (Nat.le_of_ble_eq_true rfl) rfl (Nat.le_of_ble_eq_true rfl) (fun _ => rfl) dc_HillsReader_readWaits_69 (fun rq mq hq => pf_Tape_take (-11)  m7 hq) (fun r8 m9 => ?_)
      refine RO_if_eq (tgt := 82) dc_HillsReader_readWaits_72 rfl ?_ ?_
      · refine RO_iconst dc_HillsReader_readWaits_82 ?_
        refine RO_sub ?_ (rb_HillsReader_readWaits_83 v1 s0 (((mem 3 1).toNat + 4 * v1.toNat) + 13) (-1) hk4 m9)
        exact ⟨rfl, rfl, rfl, rfl, trivial⟩
      · refine RO_aload_n dc_HillsReader_readWaits_75 rfl rfl ?_
        refine RO_callVi (As := []) (rest := []) mi_HillsReader_whichWalker mv_HillsReader_whichWalker ml_HillsReader_135 lk_3 (Nat.le_of_ble_eq_true rfl) rfl (Nat.le_of_ble_eq_true rfl) (fun _ => rfl) dc_HillsReader_readWaits_76 (fun rq mq hq => pf_HillsReader_whichWalker   m9 hq) (fun r10 m11 => ?_)
        refine RO_goto (tgt := 83) dc_HillsReader_readWaits_79 rfl ?_
        refine RO_sub ?_ (rb_HillsReader_readWaits_83 v1 s0 (((mem 3 1).toNat + 4 * v1.toNat) + 13) r10 hk4 m11)
        exact ⟨rfl, rfl, rfl, rfl, trivial⟩
    · refine RO_aload_n dc_HillsReader_readWaits_46 rfl rfl ?_
      refine RO_getR (b := 1) gf_HillsReader_9 lk_3 rfl dc_HillsReader_readWaits_47 ?_
      refine RO_iconst dc_HillsReader_readWaits_50 ?_
      refine RO_callVi (As := [vi 3]) (rest := []) mi_Tape_wrong mv_Tape_wrong ml_HillsReader_100 lk_1 (Nat.le_of_ble_eq_true rfl) rfl (Nat.le_of_ble_eq_true rfl) (fun _ => rfl) dc_HillsReader_readWaits_51 (fun rq mq hq => pf_Tape_wrong 3  mem hq) (fun r12 m13 => ?_)
      refine RO_chk (fun hz14 => ?_)
      exact RO_zret rfl hz14 dc_HillsReader_readWaits_54
def fn_HillsReader_readWaits  (mem : Mm) : Res := bd (fn_HillsReader_takeWalkerAt  mem) fun r1 m2 => if r1 = (-1) then (bo_HillsReader_readWaits_18 r1 (-1) m2) else (bd (fn_HillsReader_whichPlace  m2) fun r3 m4 => bo_HillsReader_readWaits_18 r1 r3 m4)
set_option maxHeartbeats 4000000 in
theorem pf_HillsReader_readWaits {E : EE}   (mem : Mm) {r : Int} {mem9 : Mm} (h : fn_HillsReader_readWaits  mem = some (r, mem9)) : MetX E 8 yn_HillsReader_readWaits cd_HillsReader_readWaits 6 (some .boolean) [rf 3] mem r mem9 := by
  refine RO_met (y := yn_HillsReader_readWaits) (by decide +kernel) (Nat.le_of_ble_eq_true rfl) ?_ h
  show RO E mt_HillsReader_readWaits (fn_HillsReader_readWaits  mem) 0 [(0, rf 3)] [] mem
  unfold fn_HillsReader_readWaits
  refine RO_aload_n dc_HillsReader_readWaits_0 rfl rfl ?_
  refine RO_callVi (As := []) (rest := []) mi_HillsReader_takeWalkerAt mv_HillsReader_takeWalkerAt ml_HillsReader_222 lk_3 (Nat.le_of_ble_eq_true rfl) rfl (Nat.le_of_ble_eq_true rfl) (fun _ => rfl) dc_HillsReader_readWaits_1 (fun rq mq hq => pf_HillsReader_takeWalkerAt   mem hq) (fun r1 m2 => ?_)
  refine RO_istore_n dc_HillsReader_readWaits_4 rfl (Nat.le_of_ble_eq_true rfl) ?_
  refine RO_iload_n dc_HillsReader_readWaits_5 rfl rfl ?_
  refine RO_iconst dc_HillsReader_readWaits_6 ?_
  refine RO_icmp_ne (tgt := 14) dc_HillsReader_readWaits_7 rfl ?_ ?_
  · refine RO_iconst dc_HillsReader_readWaits_10 ?_
    refine RO_goto (tgt := 18) dc_HillsReader_readWaits_11 rfl ?_
    refine RO_sub ?_ (rb_HillsReader_readWaits_18 r1 (-1) m2)
    exact ⟨rfl, rfl, trivial⟩
  · refine RO_aload_n dc_HillsReader_readWaits_14 rfl rfl ?_
    refine RO_callVi (As := []) (rest := []) mi_HillsReader_whichPlace mv_HillsReader_whichPlace ml_HillsReader_149 lk_3 (Nat.le_of_ble_eq_true rfl) rfl (Nat.le_of_ble_eq_true rfl) (fun _ => rfl) dc_HillsReader_readWaits_15 (fun rq mq hq => pf_HillsReader_whichPlace   m2 hq) (fun r3 m4 => ?_)
    refine RO_sub ?_ (rb_HillsReader_readWaits_18 r1 r3 m4)
    exact ⟨rfl, rfl, trivial⟩
def bo_HillsReader_readHour_124   (v1 : Int) (v2 : Int) (v3 : Int) (s0 : Int) (mem : Mm) : Res := if s0 = (-1) then (some (0, mem)) else (if isK 0 (mem 3 1) = true then if 0 ≤ v1 ∧ v1 < 6 then bn (mst mem ((mem 3 1).toNat + 7) v1.toNat v2) fun m3 => if isK 0 (m3 3 1) = true then if 0 ≤ v1 ∧ v1 < 6 then bn (mst m3 ((m3 3 1).toNat + 8) v1.toNat v3) fun m6 => if isK 0 (m6 3 1) = true then if 0 ≤ v1 ∧ v1 < 6 then bn (mst m6 ((m6 3 1).toNat + 9) v1.toNat s0) fun m9 => if isK 0 (m9 3 1) = true then bn (mst m9 (m9 3 1).toNat 2 (w32 ((m9 (m9 3 1).toNat 2) + 1))) fun m11 => bd (fn_Tape_takeSign 59 m11) fun r12 m13 => if r12 = 0 ∨ r12 = 1 then some (r12, m13) else none else none else none else none else none else none else none else none)
set_option maxHeartbeats 4000000 in
theorem rb_HillsReader_readHour_124 {E : EE}     (v1 : Int) (v2 : Int) (v3 : Int) (s0 : Int)  (mem : Mm) : RO E mt_HillsReader_readHour (bo_HillsReader_readHour_124   v1 v2 v3 s0 mem) 124 [(0, rf 3), (1, vi v1), (2, vi v2), (3, vi v3)] [vi s0] mem := by
  unfold bo_HillsReader_readHour_124
  refine RO_istore dc_HillsReader_readHour_124 (Nat.le_of_ble_eq_true rfl) ?_
  refine RO_iload dc_HillsReader_readHour_126 rfl ?_
  refine RO_iconst dc_HillsReader_readHour_128 ?_
  refine RO_icmp_ne (tgt := 134) dc_HillsReader_readHour_129 rfl ?_ ?_
  · refine RO_iconst dc_HillsReader_readHour_132 ?_
    exact RO_zret rfl (Or.inl rfl) dc_HillsReader_readHour_133
  · refine RO_aload_n dc_HillsReader_readHour_134 rfl rfl ?_
    refine RO_chk (fun hz1 => ?_)
    refine RO_getM gf_HillsReader_15 lk_3 (isK_0 hz1) dc_HillsReader_readHour_135 ?_
    refine RO_getR (b := ((mem 3 1).toNat + 7)) gf_HillsReader_246 (kd_0 hz1) (by omega) dc_HillsReader_readHour_138 ?_
    refine RO_iload_n dc_HillsReader_readHour_141 rfl rfl ?_
    refine RO_iload_n dc_HillsReader_readHour_142 rfl rfl ?_
    refine RO_chk (fun hi2 => ?_)
    refine RO_is (cl_0_11 (kd_0 hz1)) hi2 dc_HillsReader_readHour_143 ?_
    refine RO_bnM (fun m3 => ?_)
    refine RO_aload_n dc_HillsReader_readHour_144 rfl rfl ?_
    refine RO_chk (fun hz4 => ?_)
    refine RO_getM gf_HillsReader_15 lk_3 (isK_0 hz4) dc_HillsReader_readHour_145 ?_
    refine RO_getR (b := ((m3 3 1).toNat + 8)) gf_HillsReader_249 (kd_0 hz4) (by omega) dc_HillsReader_readHour_148 ?_
    refine RO_iload_n dc_HillsReader_readHour_151 rfl rfl ?_
    refine RO_iload_n dc_HillsReader_readHour_152 rfl rfl ?_
    refine RO_chk (fun hi5 => ?_)
    refine RO_is (cl_0_12 (kd_0 hz4)) hi5 dc_HillsReader_readHour_153 ?_
    refine RO_bnM (fun m6 => ?_)
    refine RO_aload_n dc_HillsReader_readHour_154 rfl rfl ?_
    refine RO_chk (fun hz7 => ?_)
    refine RO_getM gf_HillsReader_15 lk_3 (isK_0 hz7) dc_HillsReader_readHour_155 ?_
    refine RO_getR (b := ((m6 3 1).toNat + 9)) gf_HillsReader_252 (kd_0 hz7) (by omega) dc_HillsReader_readHour_158 ?_
    refine RO_iload_n dc_HillsReader_readHour_161 rfl rfl ?_
    refine RO_iload dc_HillsReader_readHour_162 rfl ?_
    refine RO_chk (fun hi8 => ?_)
    refine RO_is (cl_0_13 (kd_0 hz7)) hi8 dc_HillsReader_readHour_164 ?_
    refine RO_bnM (fun m9 => ?_)
    refine RO_aload_n dc_HillsReader_readHour_165 rfl rfl ?_
    refine RO_chk (fun hz10 => ?_)
    refine RO_getM gf_HillsReader_15 lk_3 (isK_0 hz10) dc_HillsReader_readHour_166 ?_
    refine RO_dup dc_HillsReader_readHour_169 (nt2 _) ?_
    refine RO_getI gf_HillsReader_88 (kd_0 hz10) dc_HillsReader_readHour_170 ?_
    refine RO_iconst dc_HillsReader_readHour_173 ?_
    refine RO_iadd dc_HillsReader_readHour_174 ?_
    refine RO_putI gp_HillsReader_88 (kd_0 hz10) dc_HillsReader_readHour_175 ?_
    refine RO_bnM (fun m11 => ?_)
    refine RO_aload_n dc_HillsReader_readHour_178 rfl rfl ?_
    refine RO_getR (b := 1) gf_HillsReader_9 lk_3 rfl dc_HillsReader_readHour_179 ?_
    refine RO_bipush dc_HillsReader_readHour_182 ?_
    refine RO_callVi (As := [vi 59]) (rest := []) mi_Tape_takeSign mv_Tape_takeSign ml_HillsReader_145 lk_1 (Nat.le_of_ble_eq_true rfl) rfl (Nat.le_of_ble_eq_true rfl) (fun _ => rfl) dc_HillsReader_readHour_184 (fun rq mq hq => pf_Tape_takeSign 59  m11 hq) (fun r12 m13 => ?_)
    refine RO_chk (fun hz14 => ?_)
    exact RO_zret rfl hz14 dc_HillsReader_readHour_187
def bo_HillsReader_readHour_56   (v1 : Int) (v2 : Int) (s0 : Int) (mem : Mm) : Res := if s0 = (-1) then (some (0, mem)) else (if isK 0 (mem 3 1) = true then if 0 ≤ v2 ∧ v2 < 6 then bd (fn_Walker_passes (((mem 3 1).toNat + 4 * v2.toNat) + 13) s0 mem) fun r5 m6 => if r5 = 0 then (bd (fn_Tape_wrong 4 m6) fun r7 m8 => if r7 = 0 ∨ r7 = 1 then some (r7, m8) else none) else (bd (fn_Tape_step  m6) fun r10 m11 => bd (fn_Tape_take (-14) m11) fun r12 m13 => if r12 = 0 then (bo_HillsReader_readHour_124 v1 v2 s0 (-1) m13) else (bd (fn_Tape_takeNumber 0 239 m13) fun r14 m15 => bo_HillsReader_readHour_124 v1 v2 s0 r14 m15)) else none else none)
set_option maxHeartbeats 4000000 in
theorem rb_HillsReader_readHour_56 {E : EE}     (v1 : Int) (v2 : Int) (s0 : Int)  (mem : Mm) : RO E mt_HillsReader_readHour (bo_HillsReader_readHour_56   v1 v2 s0 mem) 56 [(0, rf 3), (1, vi v1), (2, vi v2)] [vi s0] mem := by
  unfold bo_HillsReader_readHour_56
  refine RO_istore_n dc_HillsReader_readHour_56 rfl (Nat.le_of_ble_eq_true rfl) ?_
  refine RO_iload_n dc_HillsReader_readHour_57 rfl rfl ?_
  refine RO_iconst dc_HillsReader_readHour_58 ?_
  refine RO_icmp_ne (tgt := 64) dc_HillsReader_readHour_59 rfl ?_ ?_
  · refine RO_iconst dc_HillsReader_readHour_62 ?_
    exact RO_zret rfl (Or.inl rfl) dc_HillsReader_readHour_63
  · refine RO_aload_n dc_HillsReader_readHour_64 rfl rfl ?_
    refine RO_chk (fun hz1 => ?_)
    refine RO_getM gf_HillsReader_15 lk_3 (isK_0 hz1) dc_HillsReader_readHour_65 ?_
    refine RO_getR (b := ((mem 3 1).toNat + 6)) gf_HillsReader_163 (kd_0 hz1) (by omega) dc_HillsReader_readHour_68 ?_
    refine RO_iload_n dc_HillsReader_readHour_71 rfl rfl ?_
    refine RO_chk (fun hi2 => ?_)
    have hb3 : ((mem 3 1).toNat + 6) + (raO 18).1 + (raO 18).2 * v2.toNat = (((mem 3 1).toNat + 4 * v2.toNat) + 13) := by show _ + 7 + 4 * _ = _; omega
    have hk4 := el_18 (cl_0_10 (kd_0 hz1)) hi2 hb3
    refine RO_aa (by decide) (cl_0_10 (kd_0 hz1)) hi2 hb3 dc_HillsReader_readHour_72 ?_
    refine RO_iload_n dc_HillsReader_readHour_73 rfl rfl ?_
    refine RO_callVi (As := [vi s0]) (rest := []) mi_Walker_passes mv_Walker_passes ml_HillsReader_240 hk4 (Nat.le_of_ble_eq_true rfl) rfl (Nat.le_of_ble_eq_true rfl) (fun _ => rfl) dc_HillsReader_readHour_74 (fun rq mq hq => pf_Walker_passes (((mem 3 1).toNat + 4 * v2.toNat) + 13) s0 hk4 mem hq) (fun r5 m6 => ?_)
    refine RO_if_ne (tgt := 89) dc_HillsReader_readHour_77 rfl ?_ ?_
    · refine RO_aload_n dc_HillsReader_readHour_80 rfl rfl ?_
      refine RO_getR (b := 1) gf_HillsReader_9 lk_3 rfl dc_HillsReader_readHour_81 ?_
      refine RO_iconst dc_HillsReader_readHour_84 ?_
      refine RO_callVi (As := [vi 4]) (rest := []) mi_Tape_wrong mv_Tape_wrong ml_HillsReader_100 lk_1 (Nat.le_of_ble_eq_true rfl) rfl (Nat.le_of_ble_eq_true rfl) (fun _ => rfl) dc_HillsReader_readHour_85 (fun rq mq hq => pf_Tape_wrong 4  m6 hq) (fun r7 m8 => ?_)
      refine RO_chk (fun hz9 => ?_)
      exact RO_zret rfl hz9 dc_HillsReader_readHour_88
    · refine RO_aload_n dc_HillsReader_readHour_89 rfl rfl ?_
      refine RO_getR (b := 1) gf_HillsReader_9 lk_3 rfl dc_HillsReader_readHour_90 ?_
      refine RO_callVv (As := []) (rest := []) mi_Tape_step mv_Tape_step ml_HillsReader_110 lk_1 (Nat.le_of_ble_eq_true rfl) rfl (Nat.le_of_ble_eq_true rfl) dc_HillsReader_readHour_93 (fun rq mq hq => pf_Tape_step   m6 hq) (fun r10 m11 => ?_)
      refine RO_aload_n dc_HillsReader_readHour_96 rfl rfl ?_
      refine RO_getR (b := 1) gf_HillsReader_9 lk_3 rfl dc_HillsReader_readHour_97 ?_
      refine RO_getsW 12 (by decide) (x := (-14)) (by decide) gs_HillsReader_243 dc_HillsReader_readHour_100 ?_
      refine RO_callVi (As := [vw (-14)]) (rest := []) mi_Tape_take mv_Tape_take ml_HillsReader_60 lk_1 (Nat.le_of_ble_eq_true rfl) rfl (Nat.le_of_ble_eq_true rfl) (fun _ => rfl) dc_HillsReader_readHour_103 (fun rq mq hq => pf_Tape_take (-14)  m11 hq) (fun r12 m13 => ?_)
      refine RO_if_eq (tgt := 123) dc_HillsReader_readHour_106 rfl ?_ ?_
      · refine RO_iconst dc_HillsReader_readHour_123 ?_
        refine RO_sub ?_ (rb_HillsReader_readHour_124 v1 v2 s0 (-1) m13)
        exact ⟨rfl, rfl, rfl, rfl, trivial⟩
      · refine RO_aload_n dc_HillsReader_readHour_109 rfl rfl ?_
        refine RO_getR (b := 1) gf_HillsReader_9 lk_3 rfl dc_HillsReader_readHour_110 ?_
        refine RO_iconst dc_HillsReader_readHour_113 ?_
        refine RO_sipush dc_HillsReader_readHour_114 ?_
        refine RO_callVi (As := [vi 0, vi 239]) (rest := []) mi_Tape_takeNumber mv_Tape_takeNumber ml_HillsReader_156 lk_1 (Nat.le_of_ble_eq_true rfl) rfl (Nat.le_of_ble_eq_true rfl) (fun _ => rfl) dc_HillsReader_readHour_117 (fun rq mq hq => pf_Tape_takeNumber 0 239  m13 hq) (fun r14 m15 => ?_)
        refine RO_goto (tgt := 124) dc_HillsReader_readHour_120 rfl ?_
        refine RO_sub ?_ (rb_HillsReader_readHour_124 v1 v2 s0 r14 m15)
        exact ⟨rfl, rfl, rfl, rfl, trivial⟩
def fn_HillsReader_readHour  (mem : Mm) : Res := if isK 0 (mem 3 1) = true then bn (mem (mem 3 1).toNat 2) fun x2 => if isK 0 (mem 3 1) = true then bd (fn_HillsReader_readNewName ((mem 3 1).toNat + 3) x2 mem) fun r4 m5 => if r4 = 0 then (some (0, m5)) else (bd (fn_Tape_take (-13) m5) fun r6 m7 => if r6 = 0 then (some (0, m7)) else (bd (fn_HillsReader_takeWalkerAt  m7) fun r8 m9 => if r8 = (-1) then (bo_HillsReader_readHour_56 x2 r8 (-1) m9) else (bd (fn_HillsReader_whichPlace  m9) fun r10 m11 => bo_HillsReader_readHour_56 x2 r8 r10 m11))) else none else none
set_option maxHeartbeats 4000000 in
theorem pf_HillsReader_readHour {E : EE}   (mem : Mm) {r : Int} {mem9 : Mm} (h : fn_HillsReader_readHour  mem = some (r, mem9)) : MetX E 8 yn_HillsReader_readHour cd_HillsReader_readHour 5 (some .boolean) [rf 3] mem r mem9 := by
  refine RO_met (y := yn_HillsReader_readHour) (by decide +kernel) (Nat.le_of_ble_eq_true rfl) ?_ h
  show RO E mt_HillsReader_readHour (fn_HillsReader_readHour  mem) 0 [(0, rf 3)] [] mem
  unfold fn_HillsReader_readHour
  refine RO_aload_n dc_HillsReader_readHour_0 rfl rfl ?_
  refine RO_chk (fun hz1 => ?_)
  refine RO_getM gf_HillsReader_15 lk_3 (isK_0 hz1) dc_HillsReader_readHour_1 ?_
  refine RO_getI gf_HillsReader_88 (kd_0 hz1) dc_HillsReader_readHour_4 ?_
  refine RO_bnT (fun x2 => ?_)
  refine RO_istore_n dc_HillsReader_readHour_7 rfl (Nat.le_of_ble_eq_true rfl) ?_
  refine RO_aload_n dc_HillsReader_readHour_8 rfl rfl ?_
  refine RO_aload_n dc_HillsReader_readHour_9 rfl rfl ?_
  refine RO_chk (fun hz3 => ?_)
  refine RO_getM gf_HillsReader_15 lk_3 (isK_0 hz3) dc_HillsReader_readHour_10 ?_
  refine RO_getR (b := ((mem 3 1).toNat + 3)) gf_HillsReader_234 (kd_0 hz3) (by omega) dc_HillsReader_readHour_13 ?_
  refine RO_iload_n dc_HillsReader_readHour_16 rfl rfl ?_
  refine RO_callVi (As := [rf ((mem 3 1).toNat + 3), vi x2]) (rest := []) mi_HillsReader_readNewName mv_HillsReader_readNewName ml_HillsReader_141 lk_3 (Nat.le_of_ble_eq_true rfl) rfl (Nat.le_of_ble_eq_true rfl) (fun _ => rfl) dc_HillsReader_readHour_17 (fun rq mq hq => pf_HillsReader_readNewName ((mem 3 1).toNat + 3) x2 (cl_0_7 (kd_0 hz3)) mem hq) (fun r4 m5 => ?_)
  refine RO_if_eq (tgt := 36) dc_HillsReader_readHour_20 rfl ?_ ?_
  · refine RO_iconst dc_HillsReader_readHour_36 ?_
    exact RO_zret rfl (Or.inl rfl) dc_HillsReader_readHour_37
  · refine RO_aload_n dc_HillsReader_readHour_23 rfl rfl ?_
    refine RO_getR (b := 1) gf_HillsReader_9 lk_3 rfl dc_HillsReader_readHour_24 ?_
    refine RO_getsW 11 (by decide) (x := (-13)) (by decide) gs_HillsReader_237 dc_HillsReader_readHour_27 ?_
    refine RO_callVi (As := [vw (-13)]) (rest := []) mi_Tape_take mv_Tape_take ml_HillsReader_60 lk_1 (Nat.le_of_ble_eq_true rfl) rfl (Nat.le_of_ble_eq_true rfl) (fun _ => rfl) dc_HillsReader_readHour_30 (fun rq mq hq => pf_Tape_take (-13)  m5 hq) (fun r6 m7 => ?_)
    refine RO_if_ne (tgt := 38) dc_HillsReader_readHour_33 rfl ?_ ?_
    · refine RO_iconst dc_HillsReader_readHour_36 ?_
      exact RO_zret rfl (Or.inl rfl) dc_HillsReader_readHour_37
    · refine RO_aload_n dc_HillsReader_readHour_38 rfl rfl ?_
      refine RO_callVi (As := []) (rest := []) mi_HillsReader_takeWalkerAt mv_HillsReader_takeWalkerAt ml_HillsReader_222 lk_3 (Nat.le_of_ble_eq_true rfl) rfl (Nat.le_of_ble_eq_true rfl) (fun _ => rfl) dc_HillsReader_readHour_39 (fun rq mq hq => pf_HillsReader_takeWalkerAt   m7 hq) (fun r8 m9 => ?_)
      refine RO_istore_n dc_HillsReader_readHour_42 rfl (Nat.le_of_ble_eq_true rfl) ?_
      refine RO_iload_n dc_HillsReader_readHour_43 rfl rfl ?_
      refine RO_iconst dc_HillsReader_readHour_44 ?_
      refine RO_icmp_ne (tgt := 52) dc_HillsReader_readHour_45 rfl ?_ ?_
      · refine RO_iconst dc_HillsReader_readHour_48 ?_
        refine RO_goto (tgt := 56) dc_HillsReader_readHour_49 rfl ?_
        refine RO_sub ?_ (rb_HillsReader_readHour_56 x2 r8 (-1) m9)
        exact ⟨rfl, rfl, rfl, trivial⟩
      · refine RO_aload_n dc_HillsReader_readHour_52 rfl rfl ?_
        refine RO_callVi (As := []) (rest := []) mi_HillsReader_whichPlace mv_HillsReader_whichPlace ml_HillsReader_149 lk_3 (Nat.le_of_ble_eq_true rfl) rfl (Nat.le_of_ble_eq_true rfl) (fun _ => rfl) dc_HillsReader_readHour_53 (fun rq mq hq => pf_HillsReader_whichPlace   m9 hq) (fun r10 m11 => ?_)
        refine RO_sub ?_ (rb_HillsReader_readHour_56 x2 r8 r10 m11)
        exact ⟨rfl, rfl, rfl, trivial⟩
def bo_Lines_read_46 (th : Nat) (p2 : Nat)   (mem : Mm) : Res := bd (fn_Tape_close  mem) fun r1 m2 => some (r1, m2)
set_option maxHeartbeats 4000000 in
theorem rb_Lines_read_46 {E : EE} (th : Nat) (p2 : Nat) (hk_th : ly_k th = (3, 4)) (hk_p2 : ly_k p2 = (0, 15))     (mem : Mm) : RO E mt_Lines_read (bo_Lines_read_46 th p2   mem) 46 [(1, rf 1)] [] mem := by
  unfold bo_Lines_read_46
  refine RO_aload_n dc_Lines_read_46 rfl rfl ?_
  refine RO_callVi (As := []) (rest := []) mi_Tape_close mv_Tape_close ml_Lines_44 lk_1 (Nat.le_of_ble_eq_true rfl) rfl (Nat.le_of_ble_eq_true rfl) (fun _ => rfl) dc_Lines_read_47 (fun rq mq hq => pf_Tape_close   mem hq) (fun r1 m2 => ?_)
  exact RO_iret rfl dc_Lines_read_50
def bo_Lines_read_14 (th : Nat) (p2 : Nat) (k14 : Int → Int → Mm → Res) (v3 : Int) (v4 : Int) (mem : Mm) : Res := if v4 < 1000 then (if v3 = 0 then (bo_Lines_read_46 th p2 mem) else (bd (fn_Tape_isEnd  mem) fun r1 m2 => if r1 = 0 then (bd (fn_Lines_readLine th p2 m2) fun r3 m4 => k14 r3 (w32 (v4 + 1)) m4) else (bo_Lines_read_46 th p2 m2))) else (bo_Lines_read_46 th p2 mem)
set_option maxHeartbeats 4000000 in
theorem rb_Lines_read_14 {E : EE} (th : Nat) (p2 : Nat) (hk_th : ly_k th = (3, 4)) (hk_p2 : ly_k p2 = (0, 15)) (k14 : Int → Int → Mm → Res) (H14 : ∀ (v3 : Int) (v4 : Int)  (mem : Mm), RO E mt_Lines_read (k14 v3 v4 mem) 14 [(0, rf th), (1, rf 1), (2, rf p2), (3, vi v3), (4, vi v4)] [] mem) (v3 : Int) (v4 : Int)  (mem : Mm) : RO E mt_Lines_read (bo_Lines_read_14 th p2 k14 v3 v4 mem) 14 [(0, rf th), (1, rf 1), (2, rf p2), (3, vi v3), (4, vi v4)] [] mem := by
  unfold bo_Lines_read_14
  refine RO_iload dc_Lines_read_14 rfl ?_
  refine RO_sipush dc_Lines_read_16 ?_
  refine RO_icmp_ge (tgt := 46) dc_Lines_read_19 rfl ?_ ?_
  · refine RO_iload_n dc_Lines_read_22 rfl rfl ?_
    refine RO_if_eq (tgt := 46) dc_Lines_read_23 rfl ?_ ?_
    · refine RO_sub ?_ (rb_Lines_read_46 th p2 hk_th hk_p2 mem)
      exact ⟨rfl, trivial⟩
    · refine RO_aload_n dc_Lines_read_26 rfl rfl ?_
      refine RO_callVi (As := []) (rest := []) mi_Tape_isEnd mv_Tape_isEnd ml_Lines_36 lk_1 (Nat.le_of_ble_eq_true rfl) rfl (Nat.le_of_ble_eq_true rfl) (fun _ => rfl) dc_Lines_read_27 (fun rq mq hq => pf_Tape_isEnd   mem hq) (fun r1 m2 => ?_)
      refine RO_if_ne (tgt := 46) dc_Lines_read_30 rfl ?_ ?_
      · refine RO_aload_n dc_Lines_read_33 rfl rfl ?_
        refine RO_aload_n dc_Lines_read_34 rfl rfl ?_
        refine RO_aload_n dc_Lines_read_35 rfl rfl ?_
        refine RO_callVi (As := [rf 1, rf p2]) (rest := []) mi_Lines_readLine mv_Lines_readLine ml_Lines_40 hk_th (Nat.le_of_ble_eq_true rfl) rfl (Nat.le_of_ble_eq_true rfl) (fun _ => rfl) dc_Lines_read_36 (fun rq mq hq => pf_Lines_readLine th p2 hk_th hk_p2 m2 hq) (fun r3 m4 => ?_)
        refine RO_istore_n dc_Lines_read_39 rfl (Nat.le_of_ble_eq_true rfl) ?_
        refine RO_iinc dc_Lines_read_40 rfl (Nat.le_of_ble_eq_true rfl) ?_
        refine RO_goto (tgt := 14) dc_Lines_read_43 rfl ?_
        refine RO_sub ?_ (H14 r3 (w32 (v4 + 1)) m4)
        exact ⟨rfl, rfl, rfl, rfl, rfl, trivial⟩
      · refine RO_sub ?_ (rb_Lines_read_46 th p2 hk_th hk_p2 m2)
        exact ⟨rfl, trivial⟩
  · refine RO_sub ?_ (rb_Lines_read_46 th p2 hk_th hk_p2 mem)
    exact ⟨rfl, trivial⟩
def lp_Lines_read_14 (th : Nat) (p2 : Nat)  : Nat → Int → Int → Mm → Res
  | 0 => fun _ _ _ => none
  | n + 1 => bo_Lines_read_14 th p2  (lp_Lines_read_14 th p2  n)
theorem rp_Lines_read_14 {E : EE} (th : Nat) (p2 : Nat) (hk_th : ly_k th = (3, 4)) (hk_p2 : ly_k p2 = (0, 15))   : ∀ (n : Nat) (v3 : Int) (v4 : Int)  (mem : Mm), RO E mt_Lines_read (lp_Lines_read_14 th p2  n v3 v4 mem) 14 [(0, rf th), (1, rf 1), (2, rf p2), (3, vi v3), (4, vi v4)] [] mem := by
  intro n
  induction n with
  | zero => intro v3 v4  mem; exact RO_none
  | succ n ih => intro v3 v4  mem; exact rb_Lines_read_14 th p2 hk_th hk_p2  (lp_Lines_read_14 th p2  n)  ih v3 v4  mem
def fn_Lines_read (th : Nat) (p2 : Nat) (mem : Mm) : Res := bn (mst mem th 0 0) fun m1 => bd (fn_Tape_open  m1) fun r2 m3 => lp_Lines_read_14 th p2 FU 1 0 m3
set_option maxHeartbeats 4000000 in
theorem pf_Lines_read {E : EE} (th : Nat) (p2 : Nat) (hk_th : ly_k th = (3, 4)) (hk_p2 : ly_k p2 = (0, 15)) (mem : Mm) {r : Int} {mem9 : Mm} (h : fn_Lines_read th p2 mem = some (r, mem9)) : MetX E 8 yn_Lines_read cd_Lines_read 5 (some .int) [rf th, rf 1, rf p2] mem r mem9 := by
  refine RO_met (y := yn_Lines_read) (by decide +kernel) (Nat.le_of_ble_eq_true rfl) ?_ h
  show RO E mt_Lines_read (fn_Lines_read th p2 mem) 0 [(0, rf th), (1, rf 1), (2, rf p2)] [] mem
  unfold fn_Lines_read
  refine RO_aload_n dc_Lines_read_0 rfl rfl ?_
  refine RO_iconst dc_Lines_read_1 ?_
  refine RO_putI gp_Lines_21 hk_th dc_Lines_read_2 ?_
  refine RO_bnM (fun m1 => ?_)
  refine RO_aload_n dc_Lines_read_5 rfl rfl ?_
  refine RO_callVv (As := []) (rest := []) mi_Tape_open mv_Tape_open ml_Lines_31 lk_1 (Nat.le_of_ble_eq_true rfl) rfl (Nat.le_of_ble_eq_true rfl) dc_Lines_read_6 (fun rq mq hq => pf_Tape_open   m1 hq) (fun r2 m3 => ?_)
  refine RO_iconst dc_Lines_read_9 ?_
  refine RO_istore_n dc_Lines_read_10 rfl (Nat.le_of_ble_eq_true rfl) ?_
  refine RO_iconst dc_Lines_read_11 ?_
  refine RO_istore dc_Lines_read_12 (Nat.le_of_ble_eq_true rfl) ?_
  refine RO_sub ?_ (rp_Lines_read_14 th p2 hk_th hk_p2 FU 1 0 m3)
  exact ⟨rfl, rfl, rfl, rfl, rfl, trivial⟩
def fn_Clock_days  (mem : Mm) : Res := if isK 0 (mem 0 2) = true then bd (fn_Lines_read 78 (mem 0 2).toNat mem) fun r2 m3 => if r2 = 0 then (bd (fn_Lines_copy 86 78 m3) fun r4 m5 => some (r2, m5)) else (some (r2, m3)) else none
set_option maxHeartbeats 4000000 in
theorem pf_Clock_days {E : EE}   (mem : Mm) {r : Int} {mem9 : Mm} (h : fn_Clock_days  mem = some (r, mem9)) : MetX E 9 yn_Clock_days cd_Clock_days 2 (some .int) [rf 0] mem r mem9 := by
  refine RO_met (y := yn_Clock_days) (by decide +kernel) (Nat.le_of_ble_eq_true rfl) ?_ h
  show RO E mt_Clock_days (fn_Clock_days  mem) 0 [(0, rf 0)] [] mem
  unfold fn_Clock_days
  refine RO_aload_n dc_Clock_days_0 rfl rfl ?_
  refine RO_getR (b := 78) gf_Clock_38 lk_0 rfl dc_Clock_days_1 ?_
  refine RO_aload_n dc_Clock_days_4 rfl rfl ?_
  refine RO_getR (b := 1) gf_Clock_10 lk_0 rfl dc_Clock_days_5 ?_
  refine RO_aload_n dc_Clock_days_8 rfl rfl ?_
  refine RO_chk (fun hz1 => ?_)
  refine RO_getM gf_Clock_28 lk_0 (isK_0 hz1) dc_Clock_days_9 ?_
  refine RO_callVi (As := [rf 1, rf (mem 0 2).toNat]) (rest := []) mi_Lines_read mv_Lines_read ml_Clock_114 lk_78 (Nat.le_of_ble_eq_true rfl) rfl (Nat.le_of_ble_eq_true rfl) (fun _ => rfl) dc_Clock_days_12 (fun rq mq hq => pf_Lines_read 78 (mem 0 2).toNat lk_78 (kd_0 hz1) mem hq) (fun r2 m3 => ?_)
  refine RO_istore_n dc_Clock_days_15 rfl (Nat.le_of_ble_eq_true rfl) ?_
  refine RO_iload_n dc_Clock_days_16 rfl rfl ?_
  refine RO_if_ne (tgt := 34) dc_Clock_days_17 rfl ?_ ?_
  · refine RO_aload_n dc_Clock_days_20 rfl rfl ?_
    refine RO_getR (b := 82) gf_Clock_45 lk_0 rfl dc_Clock_days_21 ?_
    refine RO_getR (b := 86) gf_Clock_117 lk_82 rfl dc_Clock_days_24 ?_
    refine RO_aload_n dc_Clock_days_27 rfl rfl ?_
    refine RO_getR (b := 78) gf_Clock_38 lk_0 rfl dc_Clock_days_28 ?_
    refine RO_callVv (As := [rf 78]) (rest := []) mi_Lines_copy mv_Lines_copy ml_Clock_120 lk_86 (Nat.le_of_ble_eq_true rfl) rfl (Nat.le_of_ble_eq_true rfl) dc_Clock_days_31 (fun rq mq hq => pf_Lines_copy 86 78 lk_86 lk_78 m3 hq) (fun r4 m5 => ?_)
    refine RO_iload_n dc_Clock_days_34 rfl rfl ?_
    exact RO_iret rfl dc_Clock_days_35
  · refine RO_iload_n dc_Clock_days_34 rfl rfl ?_
    exact RO_iret rfl dc_Clock_days_35
def bo_Clock_chooseDeputies_179 (kr0 : Int → Int → Int → Mm → Res) (p1 : Int) (p2 : Int) (p3 : Int) (k93 : Int → Mm → Res) (v4 : Int) (mem : Mm) : Res := k93 (w32 (v4 + 1)) mem
set_option maxHeartbeats 4000000 in
theorem rb_Clock_chooseDeputies_179 {E : EE} (kr0 : Int → Int → Int → Mm → Res) (p1 : Int) (p2 : Int) (p3 : Int) (d : Nat) (hd0 : 2 ≤ d) (Hkr0 : ∀ (p1 : Int) (p2 : Int) (p3 : Int)  (mem : Mm) (r : Int) (mem9 : Mm), kr0 p1 p2 p3 mem = some (r, mem9) → MetX E d yn_Clock_chooseDeputies cd_Clock_chooseDeputies 6 none [rf 0, vi p1, vi p2, vi p3] mem r mem9)   (k93 : Int → Mm → Res) (H93 : ∀ (v4 : Int)  (mem : Mm), RO E (mt_Clock_chooseDeputies (d + 1)) (k93 v4 mem) 93 [(0, rf 0), (1, vi p1), (2, vi p2), (3, vi p3), (4, vi v4)] [] mem) (v4 : Int)  (mem : Mm) : RO E (mt_Clock_chooseDeputies (d + 1)) (bo_Clock_chooseDeputies_179 kr0 p1 p2 p3 k93 v4 mem) 179 [(0, rf 0), (1, vi p1), (2, vi p2), (3, vi p3), (4, vi v4)] [] mem := by
  unfold bo_Clock_chooseDeputies_179
  refine RO_iinc dc_Clock_chooseDeputies_179 rfl (Nat.le_of_ble_eq_true rfl) ?_
  refine RO_goto (tgt := 93) dc_Clock_chooseDeputies_182 rfl ?_
  refine RO_sub ?_ (H93 (w32 (v4 + 1)) mem)
  exact ⟨rfl, rfl, rfl, rfl, rfl, trivial⟩
def bo_Clock_chooseDeputies_119 (kr0 : Int → Int → Int → Mm → Res) (p1 : Int) (p2 : Int) (p3 : Int) (k93 : Int → Mm → Res) (v4 : Int) (s0 : Int) (mem : Mm) : Res := if s0 = 0 then (bo_Clock_chooseDeputies_179 kr0 p1 p2 p3 k93 v4 mem) else (if isK 0 (mem 0 2) = true then bd (fn_State_canDepute 83 (mem 0 2).toNat p1 v4 mem) fun r2 m3 => if r2 = 0 then (bo_Clock_chooseDeputies_179 kr0 p1 p2 p3 k93 v4 m3) else (if 0 ≤ p1 ∧ p1 < 6 then bn (mst m3 109 p1.toNat v4) fun m5 => bd (fn_Walk_offBy p1 v4 m5) fun r6 m7 => bd (kr0 (w32 (p1 + 1)) (ior p2 (ishl 1 v4)) (w32 (p3 + r6)) m7) fun r8 m9 => bo_Clock_chooseDeputies_179 kr0 p1 p2 p3 k93 v4 m9 else none) else none)
set_option maxHeartbeats 4000000 in
theorem rb_Clock_chooseDeputies_119 {E : EE} (kr0 : Int → Int → Int → Mm → Res) (p1 : Int) (p2 : Int) (p3 : Int) (d : Nat) (hd0 : 2 ≤ d) (Hkr0 : ∀ (p1 : Int) (p2 : Int) (p3 : Int)  (mem : Mm) (r : Int) (mem9 : Mm), kr0 p1 p2 p3 mem = some (r, mem9) → MetX E d yn_Clock_chooseDeputies cd_Clock_chooseDeputies 6 none [rf 0, vi p1, vi p2, vi p3] mem r mem9)   (k93 : Int → Mm → Res) (H93 : ∀ (v4 : Int)  (mem : Mm), RO E (mt_Clock_chooseDeputies (d + 1)) (k93 v4 mem) 93 [(0, rf 0), (1, vi p1), (2, vi p2), (3, vi p3), (4, vi v4)] [] mem) (v4 : Int) (s0 : Int)  (mem : Mm) : RO E (mt_Clock_chooseDeputies (d + 1)) (bo_Clock_chooseDeputies_119 kr0 p1 p2 p3 k93 v4 s0 mem) 119 [(0, rf 0), (1, vi p1), (2, vi p2), (3, vi p3), (4, vi v4)] [vi s0] mem := by
  unfold bo_Clock_chooseDeputies_119
  refine RO_istore dc_Clock_chooseDeputies_119 (Nat.le_of_ble_eq_true rfl) ?_
  refine RO_iload dc_Clock_chooseDeputies_121 rfl ?_
  refine RO_if_eq (tgt := 179) dc_Clock_chooseDeputies_123 rfl ?_ ?_
  · refine RO_sub ?_ (rb_Clock_chooseDeputies_179 kr0 p1 p2 p3 d hd0 Hkr0 k93 H93 v4 mem)
    exact ⟨rfl, rfl, rfl, rfl, rfl, trivial⟩
  · refine RO_aload_n dc_Clock_chooseDeputies_126 rfl rfl ?_
    refine RO_getR (b := 82) gf_Clock_45 lk_0 rfl dc_Clock_chooseDeputies_127 ?_
    refine RO_getR (b := 83) gf_Clock_143 lk_82 rfl dc_Clock_chooseDeputies_130 ?_
    refine RO_aload_n dc_Clock_chooseDeputies_133 rfl rfl ?_
    refine RO_chk (fun hz1 => ?_)
    refine RO_getM gf_Clock_28 lk_0 (isK_0 hz1) dc_Clock_chooseDeputies_134 ?_
    refine RO_iload_n dc_Clock_chooseDeputies_137 rfl rfl ?_
    refine RO_iload dc_Clock_chooseDeputies_138 rfl ?_
    refine RO_callVi (As := [rf (mem 0 2).toNat, vi p1, vi v4]) (rest := []) mi_State_canDepute mv_State_canDepute ml_Clock_205 lk_83 (by show _ < d + 1; omega) rfl (Nat.le_of_ble_eq_true rfl) (fun _ => rfl) dc_Clock_chooseDeputies_140 (fun rq mq hq => pf_State_canDepute 83 (mem 0 2).toNat p1 v4 lk_83 (kd_0 hz1) mem hq) (fun r2 m3 => ?_)
    refine RO_if_eq (tgt := 179) dc_Clock_chooseDeputies_143 rfl ?_ ?_
    · refine RO_sub ?_ (rb_Clock_chooseDeputies_179 kr0 p1 p2 p3 d hd0 Hkr0 k93 H93 v4 m3)
      exact ⟨rfl, rfl, rfl, rfl, rfl, trivial⟩
    · refine RO_aload_n dc_Clock_chooseDeputies_146 rfl rfl ?_
      refine RO_getR (b := 109) gf_Clock_85 lk_0 rfl dc_Clock_chooseDeputies_147 ?_
      refine RO_iload_n dc_Clock_chooseDeputies_150 rfl rfl ?_
      refine RO_iload dc_Clock_chooseDeputies_151 rfl ?_
      refine RO_chk (fun hi4 => ?_)
      refine RO_is lk_109 hi4 dc_Clock_chooseDeputies_153 ?_
      refine RO_bnM (fun m5 => ?_)
      refine RO_aload_n dc_Clock_chooseDeputies_154 rfl rfl ?_
      refine RO_iload_n dc_Clock_chooseDeputies_155 rfl rfl ?_
      refine RO_iconst dc_Clock_chooseDeputies_156 ?_
      refine RO_iadd dc_Clock_chooseDeputies_157 ?_
      refine RO_iload_n dc_Clock_chooseDeputies_158 rfl rfl ?_
      refine RO_iconst dc_Clock_chooseDeputies_159 ?_
      refine RO_iload dc_Clock_chooseDeputies_160 rfl ?_
      refine RO_ishl dc_Clock_chooseDeputies_162 ?_
      refine RO_ior dc_Clock_chooseDeputies_163 ?_
      refine RO_iload_n dc_Clock_chooseDeputies_164 rfl rfl ?_
      refine RO_aload_n dc_Clock_chooseDeputies_165 rfl rfl ?_
      refine RO_getR (b := 98) gf_Clock_67 lk_0 rfl dc_Clock_chooseDeputies_166 ?_
      refine RO_iload_n dc_Clock_chooseDeputies_169 rfl rfl ?_
      refine RO_iload dc_Clock_chooseDeputies_170 rfl ?_
      refine RO_callVi (As := [vi p1, vi v4]) (rest := [vi p3, vi (ior p2 (ishl 1 v4)), vi (w32 (p1 + 1)), rf 0]) mi_Walk_offBy mv_Walk_offBy ml_Clock_365 lk_98 (by show _ < d + 1; omega) rfl (Nat.le_of_ble_eq_true rfl) (fun _ => rfl) dc_Clock_chooseDeputies_172 (fun rq mq hq => pf_Walk_offBy p1 v4  m5 hq) (fun r6 m7 => ?_)
      refine RO_iadd dc_Clock_chooseDeputies_175 ?_
      refine RO_callVv (As := [vi (w32 (p1 + 1)), vi (ior p2 (ishl 1 v4)), vi (w32 (p3 + r6))]) (rest := []) mi_Clock_chooseDeputies mv_Clock_chooseDeputies ml_Clock_269 lk_0 (by show _ < d + 1; omega) rfl (Nat.le_of_ble_eq_true rfl) dc_Clock_chooseDeputies_176 (fun rq mq hq => Hkr0 (w32 (p1 + 1)) (ior p2 (ishl 1 v4)) (w32 (p3 + r6))  m7 rq mq hq) (fun r8 m9 => ?_)
      refine RO_sub ?_ (rb_Clock_chooseDeputies_179 kr0 p1 p2 p3 d hd0 Hkr0 k93 H93 v4 m9)
      exact ⟨rfl, rfl, rfl, rfl, rfl, trivial⟩
def bo_Clock_chooseDeputies_93 (kr0 : Int → Int → Int → Mm → Res) (p1 : Int) (p2 : Int) (p3 : Int) (k93 : Int → Mm → Res) (v4 : Int) (mem : Mm) : Res := if isK 0 (mem 0 2) = true then if v4 < (mem (mem 0 2).toNat 1) then (if (iand (ishr p2 v4) 1) = 0 then (bo_Clock_chooseDeputies_119 kr0 p1 p2 p3 k93 v4 1 mem) else (bo_Clock_chooseDeputies_119 kr0 p1 p2 p3 k93 v4 0 mem)) else (some (0, mem)) else none
set_option maxHeartbeats 4000000 in
theorem rb_Clock_chooseDeputies_93 {E : EE} (kr0 : Int → Int → Int → Mm → Res) (p1 : Int) (p2 : Int) (p3 : Int) (d : Nat) (hd0 : 2 ≤ d) (Hkr0 : ∀ (p1 : Int) (p2 : Int) (p3 : Int)  (mem : Mm) (r : Int) (mem9 : Mm), kr0 p1 p2 p3 mem = some (r, mem9) → MetX E d yn_Clock_chooseDeputies cd_Clock_chooseDeputies 6 none [rf 0, vi p1, vi p2, vi p3] mem r mem9)   (k93 : Int → Mm → Res) (H93 : ∀ (v4 : Int)  (mem : Mm), RO E (mt_Clock_chooseDeputies (d + 1)) (k93 v4 mem) 93 [(0, rf 0), (1, vi p1), (2, vi p2), (3, vi p3), (4, vi v4)] [] mem) (v4 : Int)  (mem : Mm) : RO E (mt_Clock_chooseDeputies (d + 1)) (bo_Clock_chooseDeputies_93 kr0 p1 p2 p3 k93 v4 mem) 93 [(0, rf 0), (1, vi p1), (2, vi p2), (3, vi p3), (4, vi v4)] [] mem := by
  unfold bo_Clock_chooseDeputies_93
  refine RO_iload dc_Clock_chooseDeputies_93 rfl ?_
  refine RO_aload_n dc_Clock_chooseDeputies_95 rfl rfl ?_
  refine RO_chk (fun hz1 => ?_)
  refine RO_getM gf_Clock_28 lk_0 (isK_0 hz1) dc_Clock_chooseDeputies_96 ?_
  refine RO_getI gf_Clock_282 (kd_0 hz1) dc_Clock_chooseDeputies_99 ?_
  refine RO_icmp_ge (tgt := 185) dc_Clock_chooseDeputies_102 rfl ?_ ?_
  · refine RO_iload_n dc_Clock_chooseDeputies_105 rfl rfl ?_
    refine RO_iload dc_Clock_chooseDeputies_106 rfl ?_
    refine RO_ishr dc_Clock_chooseDeputies_108 ?_
    refine RO_iconst dc_Clock_chooseDeputies_109 ?_
    refine RO_iand dc_Clock_chooseDeputies_110 ?_
    refine RO_if_ne (tgt := 118) dc_Clock_chooseDeputies_111 rfl ?_ ?_
    · refine RO_iconst dc_Clock_chooseDeputies_114 ?_
      refine RO_goto (tgt := 119) dc_Clock_chooseDeputies_115 rfl ?_
      refine RO_sub ?_ (rb_Clock_chooseDeputies_119 kr0 p1 p2 p3 d hd0 Hkr0 k93 H93 v4 1 mem)
      exact ⟨rfl, rfl, rfl, rfl, rfl, trivial⟩
    · refine RO_iconst dc_Clock_chooseDeputies_118 ?_
      refine RO_sub ?_ (rb_Clock_chooseDeputies_119 kr0 p1 p2 p3 d hd0 Hkr0 k93 H93 v4 0 mem)
      exact ⟨rfl, rfl, rfl, rfl, rfl, trivial⟩
  · exact RO_vret rfl dc_Clock_chooseDeputies_185
def lp_Clock_chooseDeputies_93 (kr0 : Int → Int → Int → Mm → Res) (p1 : Int) (p2 : Int) (p3 : Int)  : Nat → Int → Mm → Res
  | 0 => fun _ _ => none
  | n + 1 => bo_Clock_chooseDeputies_93 kr0 p1 p2 p3  (lp_Clock_chooseDeputies_93 kr0 p1 p2 p3  n)
theorem rp_Clock_chooseDeputies_93 {E : EE} (kr0 : Int → Int → Int → Mm → Res) (p1 : Int) (p2 : Int) (p3 : Int) (d : Nat) (hd0 : 2 ≤ d) (Hkr0 : ∀ (p1 : Int) (p2 : Int) (p3 : Int)  (mem : Mm) (r : Int) (mem9 : Mm), kr0 p1 p2 p3 mem = some (r, mem9) → MetX E d yn_Clock_chooseDeputies cd_Clock_chooseDeputies 6 none [rf 0, vi p1, vi p2, vi p3] mem r mem9)     : ∀ (n : Nat) (v4 : Int)  (mem : Mm), RO E (mt_Clock_chooseDeputies (d + 1)) (lp_Clock_chooseDeputies_93 kr0 p1 p2 p3  n v4 mem) 93 [(0, rf 0), (1, vi p1), (2, vi p2), (3, vi p3), (4, vi v4)] [] mem := by
  intro n
  induction n with
  | zero => intro v4  mem; exact RO_none
  | succ n ih => intro v4  mem; exact rb_Clock_chooseDeputies_93 kr0 p1 p2 p3 d hd0 Hkr0   (lp_Clock_chooseDeputies_93 kr0 p1 p2 p3  n)  ih v4  mem
def bo_Clock_chooseDeputies_27 (kr0 : Int → Int → Int → Mm → Res) (p1 : Int) (p2 : Int) (p3 : Int)   (mem : Mm) : Res := bn (mst mem 0 17 p3) fun m1 => bn (mcp m1 109 (0 : Int).toNat 110 (0 : Int).toNat (6 : Int).toNat) fun m2 => some (0, m2)
set_option maxHeartbeats 4000000 in
theorem rb_Clock_chooseDeputies_27 {E : EE} (kr0 : Int → Int → Int → Mm → Res) (p1 : Int) (p2 : Int) (p3 : Int) (d : Nat) (hd0 : 2 ≤ d) (Hkr0 : ∀ (p1 : Int) (p2 : Int) (p3 : Int)  (mem : Mm) (r : Int) (mem9 : Mm), kr0 p1 p2 p3 mem = some (r, mem9) → MetX E d yn_Clock_chooseDeputies cd_Clock_chooseDeputies 6 none [rf 0, vi p1, vi p2, vi p3] mem r mem9)       (mem : Mm) : RO E (mt_Clock_chooseDeputies (d + 1)) (bo_Clock_chooseDeputies_27 kr0 p1 p2 p3   mem) 27 [(0, rf 0), (3, vi p3)] [] mem := by
  unfold bo_Clock_chooseDeputies_27
  refine RO_aload_n dc_Clock_chooseDeputies_27 rfl rfl ?_
  refine RO_iload_n dc_Clock_chooseDeputies_28 rfl rfl ?_
  refine RO_putI gp_Clock_266 lk_0 dc_Clock_chooseDeputies_29 ?_
  refine RO_bnM (fun m1 => ?_)
  refine RO_aload_n dc_Clock_chooseDeputies_32 rfl rfl ?_
  refine RO_getR (b := 109) gf_Clock_85 lk_0 rfl dc_Clock_chooseDeputies_33 ?_
  refine RO_iconst dc_Clock_chooseDeputies_36 ?_
  refine RO_aload_n dc_Clock_chooseDeputies_37 rfl rfl ?_
  refine RO_getR (b := 110) gf_Clock_88 lk_0 rfl dc_Clock_chooseDeputies_38 ?_
  refine RO_iconst dc_Clock_chooseDeputies_41 ?_
  refine RO_bipush dc_Clock_chooseDeputies_42 ?_
  refine RO_copy mw_copy ml_Clock_359 lk_109 lk_110 (by decide) (Nat.le_of_ble_eq_true rfl) (by show _ < d + 1; omega) dc_Clock_chooseDeputies_44 ?_
  refine RO_bnM (fun m2 => ?_)
  exact RO_vret rfl dc_Clock_chooseDeputies_47
def bm_Clock_chooseDeputies (kr0 : Int → Int → Int → Mm → Res) (p1 : Int) (p2 : Int) (p3 : Int) (mem : Mm) : Res := if isK 0 (mem 0 2) = true then if p1 < (mem (mem 0 2).toNat 2) then (if 0 ≤ p1 ∧ p1 < 6 then bd (fn_State_lives 83 (mem 85 p1.toNat) mem) fun r3 m4 => if r3 = 0 then (lp_Clock_chooseDeputies_93 kr0 p1 p2 p3 FU 0 m4) else (if 0 ≤ p1 ∧ p1 < 6 then bn (mst m4 109 p1.toNat (-1)) fun m6 => bd (kr0 (w32 (p1 + 1)) p2 p3 m6) fun r7 m8 => some (0, m8) else none) else none) else (if (mem 0 17) = (-1) then (bo_Clock_chooseDeputies_27 kr0 p1 p2 p3 mem) else (if p3 < (mem 0 17) then (bo_Clock_chooseDeputies_27 kr0 p1 p2 p3 mem) else (some (0, mem)))) else none
set_option maxHeartbeats 4000000 in
theorem pb_Clock_chooseDeputies {E : EE} (kr0 : Int → Int → Int → Mm → Res) (d : Nat) (hd0 : 2 ≤ d) (Hkr0 : ∀ (p1 : Int) (p2 : Int) (p3 : Int)  (mem : Mm) (r : Int) (mem9 : Mm), kr0 p1 p2 p3 mem = some (r, mem9) → MetX E d yn_Clock_chooseDeputies cd_Clock_chooseDeputies 6 none [rf 0, vi p1, vi p2, vi p3] mem r mem9)  (p1 : Int) (p2 : Int) (p3 : Int)  (mem : Mm) {r : Int} {mem9 : Mm} (h : bm_Clock_chooseDeputies kr0 p1 p2 p3 mem = some (r, mem9)) : MetX E (d + 1) yn_Clock_chooseDeputies cd_Clock_chooseDeputies 6 none [rf 0, vi p1, vi p2, vi p3] mem r mem9 := by
  refine RO_met (y := yn_Clock_chooseDeputies) (by decide +kernel) (Nat.le_of_ble_eq_true rfl) ?_ h
  show RO E (mt_Clock_chooseDeputies (d + 1)) (bm_Clock_chooseDeputies kr0 p1 p2 p3 mem) 0 [(0, rf 0), (1, vi p1), (2, vi p2), (3, vi p3)] [] mem
  unfold bm_Clock_chooseDeputies
  refine RO_iload_n dc_Clock_chooseDeputies_0 rfl rfl ?_
  refine RO_aload_n dc_Clock_chooseDeputies_1 rfl rfl ?_
  refine RO_chk (fun hz1 => ?_)
  refine RO_getM gf_Clock_28 lk_0 (isK_0 hz1) dc_Clock_chooseDeputies_2 ?_
  refine RO_getI gf_Clock_263 (kd_0 hz1) dc_Clock_chooseDeputies_5 ?_
  refine RO_icmp_lt (tgt := 48) dc_Clock_chooseDeputies_8 rfl ?_ ?_
  · refine RO_aload_n dc_Clock_chooseDeputies_48 rfl rfl ?_
    refine RO_getR (b := 82) gf_Clock_45 lk_0 rfl dc_Clock_chooseDeputies_49 ?_
    refine RO_getR (b := 83) gf_Clock_143 lk_82 rfl dc_Clock_chooseDeputies_52 ?_
    refine RO_aload_n dc_Clock_chooseDeputies_55 rfl rfl ?_
    refine RO_getR (b := 82) gf_Clock_45 lk_0 rfl dc_Clock_chooseDeputies_56 ?_
    refine RO_getR (b := 83) gf_Clock_143 lk_82 rfl dc_Clock_chooseDeputies_59 ?_
    refine RO_getR (b := 85) gf_Clock_172 lk_83 rfl dc_Clock_chooseDeputies_62 ?_
    refine RO_iload_n dc_Clock_chooseDeputies_65 rfl rfl ?_
    refine RO_chk (fun hi2 => ?_)
    refine RO_ia lk_85 hi2 dc_Clock_chooseDeputies_66 ?_
    refine RO_callVi (As := [vi (mem 85 p1.toNat)]) (rest := []) mi_State_lives mv_State_lives ml_Clock_146 lk_83 (by show _ < d + 1; omega) rfl (Nat.le_of_ble_eq_true rfl) (fun _ => rfl) dc_Clock_chooseDeputies_67 (fun rq mq hq => pf_State_lives 83 (mem 85 p1.toNat) lk_83 mem hq) (fun r3 m4 => ?_)
    refine RO_if_eq (tgt := 90) dc_Clock_chooseDeputies_70 rfl ?_ ?_
    · refine RO_iconst dc_Clock_chooseDeputies_90 ?_
      refine RO_istore dc_Clock_chooseDeputies_91 (Nat.le_of_ble_eq_true rfl) ?_
      refine RO_sub ?_ (rp_Clock_chooseDeputies_93 kr0 p1 p2 p3 d hd0 Hkr0 FU 0 m4)
      exact ⟨rfl, rfl, rfl, rfl, rfl, trivial⟩
    · refine RO_aload_n dc_Clock_chooseDeputies_73 rfl rfl ?_
      refine RO_getR (b := 109) gf_Clock_85 lk_0 rfl dc_Clock_chooseDeputies_74 ?_
      refine RO_iload_n dc_Clock_chooseDeputies_77 rfl rfl ?_
      refine RO_iconst dc_Clock_chooseDeputies_78 ?_
      refine RO_chk (fun hi5 => ?_)
      refine RO_is lk_109 hi5 dc_Clock_chooseDeputies_79 ?_
      refine RO_bnM (fun m6 => ?_)
      refine RO_aload_n dc_Clock_chooseDeputies_80 rfl rfl ?_
      refine RO_iload_n dc_Clock_chooseDeputies_81 rfl rfl ?_
      refine RO_iconst dc_Clock_chooseDeputies_82 ?_
      refine RO_iadd dc_Clock_chooseDeputies_83 ?_
      refine RO_iload_n dc_Clock_chooseDeputies_84 rfl rfl ?_
      refine RO_iload_n dc_Clock_chooseDeputies_85 rfl rfl ?_
      refine RO_callVv (As := [vi (w32 (p1 + 1)), vi p2, vi p3]) (rest := []) mi_Clock_chooseDeputies mv_Clock_chooseDeputies ml_Clock_269 lk_0 (by show _ < d + 1; omega) rfl (Nat.le_of_ble_eq_true rfl) dc_Clock_chooseDeputies_86 (fun rq mq hq => Hkr0 (w32 (p1 + 1)) p2 p3  m6 rq mq hq) (fun r7 m8 => ?_)
      exact RO_vret rfl dc_Clock_chooseDeputies_89
  · refine RO_aload_n dc_Clock_chooseDeputies_11 rfl rfl ?_
    refine RO_getI gf_Clock_266 lk_0 dc_Clock_chooseDeputies_12 ?_
    refine RO_iconst dc_Clock_chooseDeputies_15 ?_
    refine RO_icmp_eq (tgt := 27) dc_Clock_chooseDeputies_16 rfl ?_ ?_
    · refine RO_sub ?_ (rb_Clock_chooseDeputies_27 kr0 p1 p2 p3 d hd0 Hkr0 mem)
      exact ⟨rfl, rfl, trivial⟩
    · refine RO_iload_n dc_Clock_chooseDeputies_19 rfl rfl ?_
      refine RO_aload_n dc_Clock_chooseDeputies_20 rfl rfl ?_
      refine RO_getI gf_Clock_266 lk_0 dc_Clock_chooseDeputies_21 ?_
      refine RO_icmp_ge (tgt := 47) dc_Clock_chooseDeputies_24 rfl ?_ ?_
      · refine RO_sub ?_ (rb_Clock_chooseDeputies_27 kr0 p1 p2 p3 d hd0 Hkr0 mem)
        exact ⟨rfl, rfl, trivial⟩
      · exact RO_vret rfl dc_Clock_chooseDeputies_47
def rc_Clock_chooseDeputies : Nat → (Int → Int → Int → Mm → Res)
  | 0 => ((fun _ _ _ _ => none))
  | n + 1 => (bm_Clock_chooseDeputies (rc_Clock_chooseDeputies n))
theorem rq_Clock_chooseDeputies {E : EE} : ∀ n : Nat, (∀ (p1 : Int) (p2 : Int) (p3 : Int)  (mem : Mm) (r : Int) (mem9 : Mm), (rc_Clock_chooseDeputies n) p1 p2 p3 mem = some (r, mem9) → MetX E (2 + n) yn_Clock_chooseDeputies cd_Clock_chooseDeputies 6 none [rf 0, vi p1, vi p2, vi p3] mem r mem9) := by
  intro n
  induction n with
  | zero => exact (fun p1 p2 p3  mem r mem9 h9 => by cases h9)
  | succ n ih => exact (fun p1 p2 p3  mem r mem9 h9 => pb_Clock_chooseDeputies (rc_Clock_chooseDeputies n) (2 + n) (by omega) ih p1 p2 p3  mem h9)
def fn_Clock_chooseDeputies (p1 : Int) (p2 : Int) (p3 : Int) (mem : Mm) : Res := (rc_Clock_chooseDeputies 8) p1 p2 p3 mem
theorem pf_Clock_chooseDeputies {E : EE} (p1 : Int) (p2 : Int) (p3 : Int)  (mem : Mm) {r : Int} {mem9 : Mm} (h : fn_Clock_chooseDeputies p1 p2 p3 mem = some (r, mem9)) : MetX E 10 yn_Clock_chooseDeputies cd_Clock_chooseDeputies 6 none [rf 0, vi p1, vi p2, vi p3] mem r mem9 := (rq_Clock_chooseDeputies 8) p1 p2 p3  mem r mem9 h
def fn_Clock_deputies (p1 : Int) (mem : Mm) : Res := if p1 < (-1) then (some ((-2), mem)) else (if isK 0 (mem 0 2) = true then if p1 < (mem (mem 0 2).toNat 2) then (if isK 0 (mem 0 2) = true then bd (fn_Walk_go (mem 0 2).toNat 83 mem) fun r3 m4 => bn (mst m4 0 17 (-1)) fun m5 => bd (fn_Clock_chooseDeputies 0 0 0 m5) fun r6 m7 => if (m7 0 17) = (-1) then (some ((-2), m7)) else (if p1 = (-1) then (some (m7 0 17, m7)) else (if 0 ≤ p1 ∧ p1 < 6 then some (m7 110 p1.toNat, m7) else none)) else none) else (some ((-2), mem)) else none)
set_option maxHeartbeats 4000000 in
theorem pf_Clock_deputies {E : EE} (p1 : Int)  (mem : Mm) {r : Int} {mem9 : Mm} (h : fn_Clock_deputies p1 mem = some (r, mem9)) : MetX E 11 yn_Clock_deputies cd_Clock_deputies 2 (some .int) [rf 0, vi p1] mem r mem9 := by
  refine RO_met (y := yn_Clock_deputies) (by decide +kernel) (Nat.le_of_ble_eq_true rfl) ?_ h
  show RO E mt_Clock_deputies (fn_Clock_deputies p1 mem) 0 [(0, rf 0), (1, vi p1)] [] mem
  unfold fn_Clock_deputies
  refine RO_iload_n dc_Clock_deputies_0 rfl rfl ?_
  refine RO_iconst dc_Clock_deputies_1 ?_
  refine RO_icmp_lt (tgt := 16) dc_Clock_deputies_2 rfl ?_ ?_
  · refine RO_bipush dc_Clock_deputies_16 ?_
    exact RO_iret rfl dc_Clock_deputies_18
  · refine RO_iload_n dc_Clock_deputies_5 rfl rfl ?_
    refine RO_aload_n dc_Clock_deputies_6 rfl rfl ?_
    refine RO_chk (fun hz1 => ?_)
    refine RO_getM gf_Clock_28 lk_0 (isK_0 hz1) dc_Clock_deputies_7 ?_
    refine RO_getI gf_Clock_263 (kd_0 hz1) dc_Clock_deputies_10 ?_
    refine RO_icmp_lt (tgt := 19) dc_Clock_deputies_13 rfl ?_ ?_
    · refine RO_aload_n dc_Clock_deputies_19 rfl rfl ?_
      refine RO_getR (b := 98) gf_Clock_67 lk_0 rfl dc_Clock_deputies_20 ?_
      refine RO_aload_n dc_Clock_deputies_23 rfl rfl ?_
      refine RO_chk (fun hz2 => ?_)
      refine RO_getM gf_Clock_28 lk_0 (isK_0 hz2) dc_Clock_deputies_24 ?_
      refine RO_aload_n dc_Clock_deputies_27 rfl rfl ?_
      refine RO_getR (b := 82) gf_Clock_45 lk_0 rfl dc_Clock_deputies_28 ?_
      refine RO_getR (b := 83) gf_Clock_143 lk_82 rfl dc_Clock_deputies_31 ?_
      refine RO_callVv (As := [rf (mem 0 2).toNat, rf 83]) (rest := []) mi_Walk_go mv_Walk_go ml_Clock_161 lk_98 (Nat.le_of_ble_eq_true rfl) rfl (Nat.le_of_ble_eq_true rfl) dc_Clock_deputies_34 (fun rq mq hq => pf_Walk_go (mem 0 2).toNat 83 (kd_0 hz2) lk_83 mem hq) (fun r3 m4 => ?_)
      refine RO_aload_n dc_Clock_deputies_37 rfl rfl ?_
      refine RO_iconst dc_Clock_deputies_38 ?_
      refine RO_putI gp_Clock_266 lk_0 dc_Clock_deputies_39 ?_
      refine RO_bnM (fun m5 => ?_)
      refine RO_aload_n dc_Clock_deputies_42 rfl rfl ?_
      refine RO_iconst dc_Clock_deputies_43 ?_
      refine RO_iconst dc_Clock_deputies_44 ?_
      refine RO_iconst dc_Clock_deputies_45 ?_
      refine RO_callVv (As := [vi 0, vi 0, vi 0]) (rest := []) mi_Clock_chooseDeputies mv_Clock_chooseDeputies ml_Clock_269 lk_0 (Nat.le_of_ble_eq_true rfl) rfl (Nat.le_of_ble_eq_true rfl) dc_Clock_deputies_46 (fun rq mq hq => pf_Clock_chooseDeputies 0 0 0  m5 hq) (fun r6 m7 => ?_)
      refine RO_aload_n dc_Clock_deputies_49 rfl rfl ?_
      refine RO_getI gf_Clock_266 lk_0 dc_Clock_deputies_50 ?_
      refine RO_iconst dc_Clock_deputies_53 ?_
      refine RO_icmp_ne (tgt := 60) dc_Clock_deputies_54 rfl ?_ ?_
      · refine RO_bipush dc_Clock_deputies_57 ?_
        exact RO_iret rfl dc_Clock_deputies_59
      · refine RO_iload_n dc_Clock_deputies_60 rfl rfl ?_
        refine RO_iconst dc_Clock_deputies_61 ?_
        refine RO_icmp_ne (tgt := 72) dc_Clock_deputies_62 rfl ?_ ?_
        · refine RO_aload_n dc_Clock_deputies_65 rfl rfl ?_
          refine RO_getI gf_Clock_266 lk_0 dc_Clock_deputies_66 ?_
          refine RO_goto (tgt := 78) dc_Clock_deputies_69 rfl ?_
          exact RO_iret rfl dc_Clock_deputies_78
        · refine RO_aload_n dc_Clock_deputies_72 rfl rfl ?_
          refine RO_getR (b := 110) gf_Clock_88 lk_0 rfl dc_Clock_deputies_73 ?_
          refine RO_iload_n dc_Clock_deputies_76 rfl rfl ?_
          refine RO_chk (fun hi8 => ?_)
          refine RO_ia lk_110 hi8 dc_Clock_deputies_77 ?_
          exact RO_iret rfl dc_Clock_deputies_78
    · refine RO_bipush dc_Clock_deputies_16 ?_
      exact RO_iret rfl dc_Clock_deputies_18
def bo_Law_readLevel_62 (kr0 : Nat → Int → Int → Mm → Res) (kr1 : Nat → Int → Mm → Res) (th : Nat) (p2 : Int) (p3 : Int) (k29 : Int → Mm → Res) (v4 : Int) (v5 : Int) (mem : Mm) : Res := bd (fn_Tape_step  mem) fun r1 m2 => bd (kr0 th (w32 (p2 + 1)) p3 m2) fun r3 m4 => if r3 = 0 then (some (0, m4)) else (bd (fn_Law_put th v5 m4) fun r5 m6 => k29 (w32 (v4 + 1)) m6)
set_option maxHeartbeats 4000000 in
theorem rb_Law_readLevel_62 {E : EE} (kr0 : Nat → Int → Int → Mm → Res) (kr1 : Nat → Int → Mm → Res) (th : Nat) (p2 : Int) (p3 : Int) (d : Nat) (hd0 : 6 ≤ d) (Hkr0 : ∀ (th : Nat) (p2 : Int) (p3 : Int) (hk_th : ly_k th = (2, 4)) (mem : Mm) (r : Int) (mem9 : Mm), kr0 th p2 p3 mem = some (r, mem9) → MetX E d yn_Law_readLevel cd_Law_readLevel 6 (some .boolean) [rf th, rf 1, vi p2, vi p3] mem r mem9) (Hkr1 : ∀ (th : Nat) (p2 : Int) (hk_th : ly_k th = (2, 4)) (mem : Mm) (r : Int) (mem9 : Mm), kr1 th p2 mem = some (r, mem9) → MetX E d yn_Law_readPart cd_Law_readPart 6 (some .boolean) [rf th, rf 1, vi p2] mem r mem9)  (hk_th : ly_k th = (2, 4)) (k29 : Int → Mm → Res) (H29 : ∀ (v4 : Int)  (mem : Mm), RO E (mt_Law_readLevel (d + 1)) (k29 v4 mem) 29 [(0, rf th), (1, rf 1), (2, vi p2), (3, vi p3), (4, vi v4)] [] mem) (v4 : Int) (v5 : Int)  (mem : Mm) : RO E (mt_Law_readLevel (d + 1)) (bo_Law_readLevel_62 kr0 kr1 th p2 p3 k29 v4 v5 mem) 62 [(0, rf th), (1, rf 1), (2, vi p2), (3, vi p3), (4, vi v4), (5, vi v5)] [] mem := by
  unfold bo_Law_readLevel_62
  refine RO_aload_n dc_Law_readLevel_62 rfl rfl ?_
  refine RO_callVv (As := []) (rest := []) mi_Tape_step mv_Tape_step ml_Law_38 lk_1 (by show _ < d + 1; omega) rfl (Nat.le_of_ble_eq_true rfl) dc_Law_readLevel_63 (fun rq mq hq => pf_Tape_step   mem hq) (fun r1 m2 => ?_)
  refine RO_aload_n dc_Law_readLevel_66 rfl rfl ?_
  refine RO_aload_n dc_Law_readLevel_67 rfl rfl ?_
  refine RO_iload_n dc_Law_readLevel_68 rfl rfl ?_
  refine RO_iconst dc_Law_readLevel_69 ?_
  refine RO_iadd dc_Law_readLevel_70 ?_
  refine RO_iload_n dc_Law_readLevel_71 rfl rfl ?_
  refine RO_callVi (As := [rf 1, vi (w32 (p2 + 1)), vi p3]) (rest := []) mi_Law_readLevel mv_Law_readLevel ml_Law_30 hk_th (by show _ < d + 1; omega) rfl (Nat.le_of_ble_eq_true rfl) (fun _ => rfl) dc_Law_readLevel_72 (fun rq mq hq => Hkr0 th (w32 (p2 + 1)) p3 hk_th m2 rq mq hq) (fun r3 m4 => ?_)
  refine RO_if_ne (tgt := 80) dc_Law_readLevel_75 rfl ?_ ?_
  · refine RO_iconst dc_Law_readLevel_78 ?_
    exact RO_zret rfl (Or.inl rfl) dc_Law_readLevel_79
  · refine RO_aload_n dc_Law_readLevel_80 rfl rfl ?_
    refine RO_iload dc_Law_readLevel_81 rfl ?_
    refine RO_callVv (As := [vi v5]) (rest := []) mi_Law_put mv_Law_put ml_Law_22 hk_th (by show _ < d + 1; omega) rfl (Nat.le_of_ble_eq_true rfl) dc_Law_readLevel_83 (fun rq mq hq => pf_Law_put th v5 hk_th m4 hq) (fun r5 m6 => ?_)
    refine RO_iinc dc_Law_readLevel_86 rfl (Nat.le_of_ble_eq_true rfl) ?_
    refine RO_goto (tgt := 29) dc_Law_readLevel_89 rfl ?_
    refine RO_sub ?_ (H29 (w32 (v4 + 1)) m6)
    exact ⟨rfl, rfl, rfl, rfl, rfl, trivial⟩
def bo_Law_readLevel_29 (kr0 : Nat → Int → Int → Mm → Res) (kr1 : Nat → Int → Mm → Res) (th : Nat) (p2 : Int) (p3 : Int) (k29 : Int → Mm → Res) (v4 : Int) (mem : Mm) : Res := if v4 < 1000 then (bd (fn_Law_operatorOf p2 mem) fun r1 m2 => if r1 = (-1) then (some (1, m2)) else (if p2 = 1 then (if 0 < v4 then (some (1, m2)) else (bo_Law_readLevel_62 kr0 kr1 th p2 p3 k29 v4 r1 m2)) else (bo_Law_readLevel_62 kr0 kr1 th p2 p3 k29 v4 r1 m2))) else (some (1, mem))
set_option maxHeartbeats 4000000 in
theorem rb_Law_readLevel_29 {E : EE} (kr0 : Nat → Int → Int → Mm → Res) (kr1 : Nat → Int → Mm → Res) (th : Nat) (p2 : Int) (p3 : Int) (d : Nat) (hd0 : 6 ≤ d) (Hkr0 : ∀ (th : Nat) (p2 : Int) (p3 : Int) (hk_th : ly_k th = (2, 4)) (mem : Mm) (r : Int) (mem9 : Mm), kr0 th p2 p3 mem = some (r, mem9) → MetX E d yn_Law_readLevel cd_Law_readLevel 6 (some .boolean) [rf th, rf 1, vi p2, vi p3] mem r mem9) (Hkr1 : ∀ (th : Nat) (p2 : Int) (hk_th : ly_k th = (2, 4)) (mem : Mm) (r : Int) (mem9 : Mm), kr1 th p2 mem = some (r, mem9) → MetX E d yn_Law_readPart cd_Law_readPart 6 (some .boolean) [rf th, rf 1, vi p2] mem r mem9)  (hk_th : ly_k th = (2, 4)) (k29 : Int → Mm → Res) (H29 : ∀ (v4 : Int)  (mem : Mm), RO E (mt_Law_readLevel (d + 1)) (k29 v4 mem) 29 [(0, rf th), (1, rf 1), (2, vi p2), (3, vi p3), (4, vi v4)] [] mem) (v4 : Int)  (mem : Mm) : RO E (mt_Law_readLevel (d + 1)) (bo_Law_readLevel_29 kr0 kr1 th p2 p3 k29 v4 mem) 29 [(0, rf th), (1, rf 1), (2, vi p2), (3, vi p3), (4, vi v4)] [] mem := by
  unfold bo_Law_readLevel_29
  refine RO_iload dc_Law_readLevel_29 rfl ?_
  refine RO_sipush dc_Law_readLevel_31 ?_
  refine RO_icmp_ge (tgt := 92) dc_Law_readLevel_34 rfl ?_ ?_
  · refine RO_aload_n dc_Law_readLevel_37 rfl rfl ?_
    refine RO_iload_n dc_Law_readLevel_38 rfl rfl ?_
    refine RO_callSi (As := [rf 1, vi p2]) (rest := []) mi_Law_operatorOf ms_Law_operatorOf ml_Law_34 (by show _ < d + 1; omega) rfl (Nat.le_of_ble_eq_true rfl) (fun _ => rfl) dc_Law_readLevel_39 (fun rq mq hq => pf_Law_operatorOf p2  mem hq) (fun r1 m2 => ?_)
    refine RO_istore dc_Law_readLevel_42 (Nat.le_of_ble_eq_true rfl) ?_
    refine RO_iload dc_Law_readLevel_44 rfl ?_
    refine RO_iconst dc_Law_readLevel_46 ?_
    refine RO_icmp_eq (tgt := 60) dc_Law_readLevel_47 rfl ?_ ?_
    · refine RO_iconst dc_Law_readLevel_60 ?_
      exact RO_zret rfl (Or.inr rfl) dc_Law_readLevel_61
    · refine RO_iload_n dc_Law_readLevel_50 rfl rfl ?_
      refine RO_iconst dc_Law_readLevel_51 ?_
      refine RO_icmp_ne (tgt := 62) dc_Law_readLevel_52 rfl ?_ ?_
      · refine RO_iload dc_Law_readLevel_55 rfl ?_
        refine RO_if_le (tgt := 62) dc_Law_readLevel_57 rfl ?_ ?_
        · refine RO_iconst dc_Law_readLevel_60 ?_
          exact RO_zret rfl (Or.inr rfl) dc_Law_readLevel_61
        · refine RO_sub ?_ (rb_Law_readLevel_62 kr0 kr1 th p2 p3 d hd0 Hkr0 Hkr1 hk_th k29 H29 v4 r1 m2)
          exact ⟨rfl, rfl, rfl, rfl, rfl, rfl, trivial⟩
      · refine RO_sub ?_ (rb_Law_readLevel_62 kr0 kr1 th p2 p3 d hd0 Hkr0 Hkr1 hk_th k29 H29 v4 r1 m2)
        exact ⟨rfl, rfl, rfl, rfl, rfl, rfl, trivial⟩
  · refine RO_iconst dc_Law_readLevel_92 ?_
    exact RO_zret rfl (Or.inr rfl) dc_Law_readLevel_93
def lp_Law_readLevel_29 (kr0 : Nat → Int → Int → Mm → Res) (kr1 : Nat → Int → Mm → Res) (th : Nat) (p2 : Int) (p3 : Int)  : Nat → Int → Mm → Res
  | 0 => fun _ _ => none
  | n + 1 => bo_Law_readLevel_29 kr0 kr1 th p2 p3  (lp_Law_readLevel_29 kr0 kr1 th p2 p3  n)
theorem rp_Law_readLevel_29 {E : EE} (kr0 : Nat → Int → Int → Mm → Res) (kr1 : Nat → Int → Mm → Res) (th : Nat) (p2 : Int) (p3 : Int) (d : Nat) (hd0 : 6 ≤ d) (Hkr0 : ∀ (th : Nat) (p2 : Int) (p3 : Int) (hk_th : ly_k th = (2, 4)) (mem : Mm) (r : Int) (mem9 : Mm), kr0 th p2 p3 mem = some (r, mem9) → MetX E d yn_Law_readLevel cd_Law_readLevel 6 (some .boolean) [rf th, rf 1, vi p2, vi p3] mem r mem9) (Hkr1 : ∀ (th : Nat) (p2 : Int) (hk_th : ly_k th = (2, 4)) (mem : Mm) (r : Int) (mem9 : Mm), kr1 th p2 mem = some (r, mem9) → MetX E d yn_Law_readPart cd_Law_readPart 6 (some .boolean) [rf th, rf 1, vi p2] mem r mem9)  (hk_th : ly_k th = (2, 4))   : ∀ (n : Nat) (v4 : Int)  (mem : Mm), RO E (mt_Law_readLevel (d + 1)) (lp_Law_readLevel_29 kr0 kr1 th p2 p3  n v4 mem) 29 [(0, rf th), (1, rf 1), (2, vi p2), (3, vi p3), (4, vi v4)] [] mem := by
  intro n
  induction n with
  | zero => intro v4  mem; exact RO_none
  | succ n ih => intro v4  mem; exact rb_Law_readLevel_29 kr0 kr1 th p2 p3 d hd0 Hkr0 Hkr1 hk_th  (lp_Law_readLevel_29 kr0 kr1 th p2 p3  n)  ih v4  mem
def bm_Law_readLevel (kr0 : Nat → Int → Int → Mm → Res) (kr1 : Nat → Int → Mm → Res) (th : Nat) (p2 : Int) (p3 : Int) (mem : Mm) : Res := if 3 < p2 then (bd (kr1 th p3 mem) fun r1 m2 => if r1 = 0 ∨ r1 = 1 then some (r1, m2) else none) else (bd (kr0 th (w32 (p2 + 1)) p3 mem) fun r4 m5 => if r4 = 0 then (some (0, m5)) else (lp_Law_readLevel_29 kr0 kr1 th p2 p3 FU 0 m5))
set_option maxHeartbeats 4000000 in
theorem pb_Law_readLevel {E : EE} (kr0 : Nat → Int → Int → Mm → Res) (kr1 : Nat → Int → Mm → Res) (d : Nat) (hd0 : 6 ≤ d) (Hkr0 : ∀ (th : Nat) (p2 : Int) (p3 : Int) (hk_th : ly_k th = (2, 4)) (mem : Mm) (r : Int) (mem9 : Mm), kr0 th p2 p3 mem = some (r, mem9) → MetX E d yn_Law_readLevel cd_Law_readLevel 6 (some .boolean) [rf th, rf 1, vi p2, vi p3] mem r mem9) (Hkr1 : ∀ (th : Nat) (p2 : Int) (hk_th : ly_k th = (2, 4)) (mem : Mm) (r : Int) (mem9 : Mm), kr1 th p2 mem = some (r, mem9) → MetX E d yn_Law_readPart cd_Law_readPart 6 (some .boolean) [rf th, rf 1, vi p2] mem r mem9)  (th : Nat) (p2 : Int) (p3 : Int) (hk_th : ly_k th = (2, 4)) (mem : Mm) {r : Int} {mem9 : Mm} (h : bm_Law_readLevel kr0 kr1 th p2 p3 mem = some (r, mem9)) : MetX E (d + 1) yn_Law_readLevel cd_Law_readLevel 6 (some .boolean) [rf th, rf 1, vi p2, vi p3] mem r mem9 := by
  refine RO_met (y := yn_Law_readLevel) (by decide +kernel) (Nat.le_of_ble_eq_true rfl) ?_ h
  show RO E (mt_Law_readLevel (d + 1)) (bm_Law_readLevel kr0 kr1 th p2 p3 mem) 0 [(0, rf th), (1, rf 1), (2, vi p2), (3, vi p3)] [] mem
  unfold bm_Law_readLevel
  refine RO_iload_n dc_Law_readLevel_0 rfl rfl ?_
  refine RO_iconst dc_Law_readLevel_1 ?_
  refine RO_icmp_le (tgt := 12) dc_Law_readLevel_2 rfl ?_ ?_
  · refine RO_aload_n dc_Law_readLevel_5 rfl rfl ?_
    refine RO_aload_n dc_Law_readLevel_6 rfl rfl ?_
    refine RO_iload_n dc_Law_readLevel_7 rfl rfl ?_
    refine RO_callVi (As := [rf 1, vi p3]) (rest := []) mi_Law_readPart mv_Law_readPart ml_Law_26 hk_th (by show _ < d + 1; omega) rfl (Nat.le_of_ble_eq_true rfl) (fun _ => rfl) dc_Law_readLevel_8 (fun rq mq hq => Hkr1 th p3 hk_th mem rq mq hq) (fun r1 m2 => ?_)
    refine RO_chk (fun hz3 => ?_)
    exact RO_zret rfl hz3 dc_Law_readLevel_11
  · refine RO_aload_n dc_Law_readLevel_12 rfl rfl ?_
    refine RO_aload_n dc_Law_readLevel_13 rfl rfl ?_
    refine RO_iload_n dc_Law_readLevel_14 rfl rfl ?_
    refine RO_iconst dc_Law_readLevel_15 ?_
    refine RO_iadd dc_Law_readLevel_16 ?_
    refine RO_iload_n dc_Law_readLevel_17 rfl rfl ?_
    refine RO_callVi (As := [rf 1, vi (w32 (p2 + 1)), vi p3]) (rest := []) mi_Law_readLevel mv_Law_readLevel ml_Law_30 hk_th (by show _ < d + 1; omega) rfl (Nat.le_of_ble_eq_true rfl) (fun _ => rfl) dc_Law_readLevel_18 (fun rq mq hq => Hkr0 th (w32 (p2 + 1)) p3 hk_th mem rq mq hq) (fun r4 m5 => ?_)
    refine RO_if_ne (tgt := 26) dc_Law_readLevel_21 rfl ?_ ?_
    · refine RO_iconst dc_Law_readLevel_24 ?_
      exact RO_zret rfl (Or.inl rfl) dc_Law_readLevel_25
    · refine RO_iconst dc_Law_readLevel_26 ?_
      refine RO_istore dc_Law_readLevel_27 (Nat.le_of_ble_eq_true rfl) ?_
      refine RO_sub ?_ (rp_Law_readLevel_29 kr0 kr1 th p2 p3 d hd0 Hkr0 Hkr1 hk_th FU 0 m5)
      exact ⟨rfl, rfl, rfl, rfl, rfl, trivial⟩
def bo_Law_readPart_128 (kr0 : Nat → Int → Int → Mm → Res) (kr1 : Nat → Int → Mm → Res) (th : Nat) (p2 : Int)  (s0 : Nat) (s1 : Int) (mem : Mm) : Res := bd (fn_Law_put s0 s1 mem) fun r1 m2 => some (1, m2)
set_option maxHeartbeats 4000000 in
theorem rb_Law_readPart_128 {E : EE} (kr0 : Nat → Int → Int → Mm → Res) (kr1 : Nat → Int → Mm → Res) (th : Nat) (p2 : Int) (d : Nat) (hd0 : 6 ≤ d) (Hkr0 : ∀ (th : Nat) (p2 : Int) (p3 : Int) (hk_th : ly_k th = (2, 4)) (mem : Mm) (r : Int) (mem9 : Mm), kr0 th p2 p3 mem = some (r, mem9) → MetX E d yn_Law_readLevel cd_Law_readLevel 6 (some .boolean) [rf th, rf 1, vi p2, vi p3] mem r mem9) (Hkr1 : ∀ (th : Nat) (p2 : Int) (hk_th : ly_k th = (2, 4)) (mem : Mm) (r : Int) (mem9 : Mm), kr1 th p2 mem = some (r, mem9) → MetX E d yn_Law_readPart cd_Law_readPart 6 (some .boolean) [rf th, rf 1, vi p2] mem r mem9)  (hk_th : ly_k th = (2, 4))   (s0 : Nat) (s1 : Int) (hk_s0 : ly_k s0 = (2, 4)) (mem : Mm) : RO E (mt_Law_readPart (d + 1)) (bo_Law_readPart_128 kr0 kr1 th p2  s0 s1 mem) 128 [] [vi s1, rf s0] mem := by
  unfold bo_Law_readPart_128
  refine RO_callVv (As := [vi s1]) (rest := []) mi_Law_put mv_Law_put ml_Law_22 hk_s0 (by show _ < d + 1; omega) rfl (Nat.le_of_ble_eq_true rfl) dc_Law_readPart_128 (fun rq mq hq => pf_Law_put s0 s1 hk_s0 mem hq) (fun r1 m2 => ?_)
  refine RO_iconst dc_Law_readPart_131 ?_
  exact RO_zret rfl (Or.inr rfl) dc_Law_readPart_132
def bo_Law_readPart_115 (kr0 : Nat → Int → Int → Mm → Res) (kr1 : Nat → Int → Mm → Res) (th : Nat) (p2 : Int)  (v4 : Int) (v5 : Int) (mem : Mm) : Res := if v4 = 0 then (bo_Law_readPart_128 kr0 kr1 th p2 th v5 mem) else (bo_Law_readPart_128 kr0 kr1 th p2 th (-5) mem)
set_option maxHeartbeats 4000000 in
theorem rb_Law_readPart_115 {E : EE} (kr0 : Nat → Int → Int → Mm → Res) (kr1 : Nat → Int → Mm → Res) (th : Nat) (p2 : Int) (d : Nat) (hd0 : 6 ≤ d) (Hkr0 : ∀ (th : Nat) (p2 : Int) (p3 : Int) (hk_th : ly_k th = (2, 4)) (mem : Mm) (r : Int) (mem9 : Mm), kr0 th p2 p3 mem = some (r, mem9) → MetX E d yn_Law_readLevel cd_Law_readLevel 6 (some .boolean) [rf th, rf 1, vi p2, vi p3] mem r mem9) (Hkr1 : ∀ (th : Nat) (p2 : Int) (hk_th : ly_k th = (2, 4)) (mem : Mm) (r : Int) (mem9 : Mm), kr1 th p2 mem = some (r, mem9) → MetX E d yn_Law_readPart cd_Law_readPart 6 (some .boolean) [rf th, rf 1, vi p2] mem r mem9)  (hk_th : ly_k th = (2, 4))   (v4 : Int) (v5 : Int)  (mem : Mm) : RO E (mt_Law_readPart (d + 1)) (bo_Law_readPart_115 kr0 kr1 th p2  v4 v5 mem) 115 [(0, rf th), (4, vi v4), (5, vi v5)] [] mem := by
  unfold bo_Law_readPart_115
  refine RO_aload_n dc_Law_readPart_115 rfl rfl ?_
  refine RO_iload dc_Law_readPart_116 rfl ?_
  refine RO_if_eq (tgt := 126) dc_Law_readPart_118 rfl ?_ ?_
  · refine RO_iload dc_Law_readPart_126 rfl ?_
    refine RO_sub ?_ (rb_Law_readPart_128 kr0 kr1 th p2 d hd0 Hkr0 Hkr1 hk_th th v5 hk_th mem)
    exact trivial
  · refine RO_bipush dc_Law_readPart_121 ?_
    refine RO_goto (tgt := 128) dc_Law_readPart_123 rfl ?_
    refine RO_sub ?_ (rb_Law_readPart_128 kr0 kr1 th p2 d hd0 Hkr0 Hkr1 hk_th th (-5) hk_th mem)
    exact trivial
def bo_Law_readPart_51 (kr0 : Nat → Int → Int → Mm → Res) (kr1 : Nat → Int → Mm → Res) (th : Nat) (p2 : Int)  (v3 : Int) (v4 : Int) (v5 : Int) (mem : Mm) : Res := if p2 < 5 then (bd (fn_Tape_step  mem) fun r1 m2 => if v3 = 0 then (if v4 = 0 then (bo_Law_readPart_115 kr0 kr1 th p2 v4 v5 m2) else (bd (kr1 th (w32 (p2 + 1)) m2) fun r3 m4 => if r3 = 0 then (some (0, m4)) else (bo_Law_readPart_115 kr0 kr1 th p2 v4 v5 m4))) else (bd (kr0 th 0 (w32 (p2 + 1)) m2) fun r5 m6 => if r5 = 0 then (some (0, m6)) else (bd (fn_Tape_takeSign 41 m6) fun r7 m8 => if r7 = 0 then (some (0, m8)) else (some (1, m8))))) else (bd (fn_Tape_wrong 5 mem) fun r9 m10 => if r9 = 0 ∨ r9 = 1 then some (r9, m10) else none)
set_option maxHeartbeats 4000000 in
theorem rb_Law_readPart_51 {E : EE} (kr0 : Nat → Int → Int → Mm → Res) (kr1 : Nat → Int → Mm → Res) (th : Nat) (p2 : Int) (d : Nat) (hd0 : 6 ≤ d) (Hkr0 : ∀ (th : Nat) (p2 : Int) (p3 : Int) (hk_th : ly_k th = (2, 4)) (mem : Mm) (r : Int) (mem9 : Mm), kr0 th p2 p3 mem = some (r, mem9) → MetX E d yn_Law_readLevel cd_Law_readLevel 6 (some .boolean) [rf th, rf 1, vi p2, vi p3] mem r mem9) (Hkr1 : ∀ (th : Nat) (p2 : Int) (hk_th : ly_k th = (2, 4)) (mem : Mm) (r : Int) (mem9 : Mm), kr1 th p2 mem = some (r, mem9) → MetX E d yn_Law_readPart cd_Law_readPart 6 (some .boolean) [rf th, rf 1, vi p2] mem r mem9)  (hk_th : ly_k th = (2, 4))   (v3 : Int) (v4 : Int) (v5 : Int)  (mem : Mm) : RO E (mt_Law_readPart (d + 1)) (bo_Law_readPart_51 kr0 kr1 th p2  v3 v4 v5 mem) 51 [(0, rf th), (1, rf 1), (2, vi p2), (3, vi v3), (4, vi v4), (5, vi v5)] [] mem := by
  unfold bo_Law_readPart_51
  refine RO_iload_n dc_Law_readPart_51 rfl rfl ?_
  refine RO_iconst dc_Law_readPart_52 ?_
  refine RO_icmp_lt (tgt := 62) dc_Law_readPart_53 rfl ?_ ?_
  · refine RO_aload_n dc_Law_readPart_62 rfl rfl ?_
    refine RO_callVv (As := []) (rest := []) mi_Tape_step mv_Tape_step ml_Law_38 lk_1 (by show _ < d + 1; omega) rfl (Nat.le_of_ble_eq_true rfl) dc_Law_readPart_63 (fun rq mq hq => pf_Tape_step   mem hq) (fun r1 m2 => ?_)
    refine RO_iload_n dc_Law_readPart_66 rfl rfl ?_
    refine RO_if_eq (tgt := 97) dc_Law_readPart_67 rfl ?_ ?_
    · refine RO_iload dc_Law_readPart_97 rfl ?_
      refine RO_if_eq (tgt := 115) dc_Law_readPart_99 rfl ?_ ?_
      · refine RO_sub ?_ (rb_Law_readPart_115 kr0 kr1 th p2 d hd0 Hkr0 Hkr1 hk_th v4 v5 m2)
        exact ⟨rfl, rfl, rfl, trivial⟩
      · refine RO_aload_n dc_Law_readPart_102 rfl rfl ?_
        refine RO_aload_n dc_Law_readPart_103 rfl rfl ?_
        refine RO_iload_n dc_Law_readPart_104 rfl rfl ?_
        refine RO_iconst dc_Law_readPart_105 ?_
        refine RO_iadd dc_Law_readPart_106 ?_
        refine RO_callVi (As := [rf 1, vi (w32 (p2 + 1))]) (rest := []) mi_Law_readPart mv_Law_readPart ml_Law_26 hk_th (by show _ < d + 1; omega) rfl (Nat.le_of_ble_eq_true rfl) (fun _ => rfl) dc_Law_readPart_107 (fun rq mq hq => Hkr1 th (w32 (p2 + 1)) hk_th m2 rq mq hq) (fun r3 m4 => ?_)
        refine RO_if_ne (tgt := 115) dc_Law_readPart_110 rfl ?_ ?_
        · refine RO_iconst dc_Law_readPart_113 ?_
          exact RO_zret rfl (Or.inl rfl) dc_Law_readPart_114
        · refine RO_sub ?_ (rb_Law_readPart_115 kr0 kr1 th p2 d hd0 Hkr0 Hkr1 hk_th v4 v5 m4)
          exact ⟨rfl, rfl, rfl, trivial⟩
    · refine RO_aload_n dc_Law_readPart_70 rfl rfl ?_
      refine RO_aload_n dc_Law_readPart_71 rfl rfl ?_
      refine RO_iconst dc_Law_readPart_72 ?_
      refine RO_iload_n dc_Law_readPart_73 rfl rfl ?_
      refine RO_iconst dc_Law_readPart_74 ?_
      refine RO_iadd dc_Law_readPart_75 ?_
      refine RO_callVi (As := [rf 1, vi 0, vi (w32 (p2 + 1))]) (rest := []) mi_Law_readLevel mv_Law_readLevel ml_Law_30 hk_th (by show _ < d + 1; omega) rfl (Nat.le_of_ble_eq_true rfl) (fun _ => rfl) dc_Law_readPart_76 (fun rq mq hq => Hkr0 th 0 (w32 (p2 + 1)) hk_th m2 rq mq hq) (fun r5 m6 => ?_)
      refine RO_if_eq (tgt := 95) dc_Law_readPart_79 rfl ?_ ?_
      · refine RO_iconst dc_Law_readPart_95 ?_
        exact RO_zret rfl (Or.inl rfl) dc_Law_readPart_96
      · refine RO_aload_n dc_Law_readPart_82 rfl rfl ?_
        refine RO_bipush dc_Law_readPart_83 ?_
        refine RO_callVi (As := [vi 41]) (rest := []) mi_Tape_takeSign mv_Tape_takeSign ml_Law_70 lk_1 (by show _ < d + 1; omega) rfl (Nat.le_of_ble_eq_true rfl) (fun _ => rfl) dc_Law_readPart_85 (fun rq mq hq => pf_Tape_takeSign 41  m6 hq) (fun r7 m8 => ?_)
        refine RO_if_eq (tgt := 95) dc_Law_readPart_88 rfl ?_ ?_
        · refine RO_iconst dc_Law_readPart_95 ?_
          exact RO_zret rfl (Or.inl rfl) dc_Law_readPart_96
        · refine RO_iconst dc_Law_readPart_91 ?_
          refine RO_goto (tgt := 96) dc_Law_readPart_92 rfl ?_
          exact RO_zret rfl (Or.inr rfl) dc_Law_readPart_96
  · refine RO_aload_n dc_Law_readPart_56 rfl rfl ?_
    refine RO_iconst dc_Law_readPart_57 ?_
    refine RO_callVi (As := [vi 5]) (rest := []) mi_Tape_wrong mv_Tape_wrong ml_Law_66 lk_1 (by show _ < d + 1; omega) rfl (Nat.le_of_ble_eq_true rfl) (fun _ => rfl) dc_Law_readPart_58 (fun rq mq hq => pf_Tape_wrong 5  mem hq) (fun r9 m10 => ?_)
    refine RO_chk (fun hz11 => ?_)
    exact RO_zret rfl hz11 dc_Law_readPart_61
def bo_Law_readPart_22 (kr0 : Nat → Int → Int → Mm → Res) (kr1 : Nat → Int → Mm → Res) (th : Nat) (p2 : Int)  (v3 : Int) (s0 : Int) (mem : Mm) : Res := bd (fn_Law_leafOf  mem) fun r1 m2 => if v3 = 0 then (if s0 = 0 then (if r1 = (-1) then (bd (fn_Tape_wrong 1 m2) fun r3 m4 => if r3 = 0 ∨ r3 = 1 then some (r3, m4) else none) else (bo_Law_readPart_51 kr0 kr1 th p2 v3 s0 r1 m2)) else (bo_Law_readPart_51 kr0 kr1 th p2 v3 s0 r1 m2)) else (bo_Law_readPart_51 kr0 kr1 th p2 v3 s0 r1 m2)
set_option maxHeartbeats 4000000 in
theorem rb_Law_readPart_22 {E : EE} (kr0 : Nat → Int → Int → Mm → Res) (kr1 : Nat → Int → Mm → Res) (th : Nat) (p2 : Int) (d : Nat) (hd0 : 6 ≤ d) (Hkr0 : ∀ (th : Nat) (p2 : Int) (p3 : Int) (hk_th : ly_k th = (2, 4)) (mem : Mm) (r : Int) (mem9 : Mm), kr0 th p2 p3 mem = some (r, mem9) → MetX E d yn_Law_readLevel cd_Law_readLevel 6 (some .boolean) [rf th, rf 1, vi p2, vi p3] mem r mem9) (Hkr1 : ∀ (th : Nat) (p2 : Int) (hk_th : ly_k th = (2, 4)) (mem : Mm) (r : Int) (mem9 : Mm), kr1 th p2 mem = some (r, mem9) → MetX E d yn_Law_readPart cd_Law_readPart 6 (some .boolean) [rf th, rf 1, vi p2] mem r mem9)  (hk_th : ly_k th = (2, 4))   (v3 : Int) (s0 : Int)  (mem : Mm) : RO E (mt_Law_readPart (d + 1)) (bo_Law_readPart_22 kr0 kr1 th p2  v3 s0 mem) 22 [(0, rf th), (1, rf 1), (2, vi p2), (3, vi v3)] [vi s0] mem := by
  unfold bo_Law_readPart_22
  refine RO_istore dc_Law_readPart_22 (Nat.le_of_ble_eq_true rfl) ?_
  refine RO_aload_n dc_Law_readPart_24 rfl rfl ?_
  refine RO_callSi (As := [rf 1]) (rest := []) mi_Law_leafOf ms_Law_leafOf ml_Law_62 (by show _ < d + 1; omega) rfl (Nat.le_of_ble_eq_true rfl) (fun _ => rfl) dc_Law_readPart_25 (fun rq mq hq => pf_Law_leafOf   mem hq) (fun r1 m2 => ?_)
  refine RO_istore dc_Law_readPart_28 (Nat.le_of_ble_eq_true rfl) ?_
  refine RO_iload_n dc_Law_readPart_30 rfl rfl ?_
  refine RO_if_ne (tgt := 51) dc_Law_readPart_31 rfl ?_ ?_
  · refine RO_iload dc_Law_readPart_34 rfl ?_
    refine RO_if_ne (tgt := 51) dc_Law_readPart_36 rfl ?_ ?_
    · refine RO_iload dc_Law_readPart_39 rfl ?_
      refine RO_iconst dc_Law_readPart_41 ?_
      refine RO_icmp_ne (tgt := 51) dc_Law_readPart_42 rfl ?_ ?_
      · refine RO_aload_n dc_Law_readPart_45 rfl rfl ?_
        refine RO_iconst dc_Law_readPart_46 ?_
        refine RO_callVi (As := [vi 1]) (rest := []) mi_Tape_wrong mv_Tape_wrong ml_Law_66 lk_1 (by show _ < d + 1; omega) rfl (Nat.le_of_ble_eq_true rfl) (fun _ => rfl) dc_Law_readPart_47 (fun rq mq hq => pf_Tape_wrong 1  m2 hq) (fun r3 m4 => ?_)
        refine RO_chk (fun hz5 => ?_)
        exact RO_zret rfl hz5 dc_Law_readPart_50
      · refine RO_sub ?_ (rb_Law_readPart_51 kr0 kr1 th p2 d hd0 Hkr0 Hkr1 hk_th v3 s0 r1 m2)
        exact ⟨rfl, rfl, rfl, rfl, rfl, rfl, trivial⟩
    · refine RO_sub ?_ (rb_Law_readPart_51 kr0 kr1 th p2 d hd0 Hkr0 Hkr1 hk_th v3 s0 r1 m2)
      exact ⟨rfl, rfl, rfl, rfl, rfl, rfl, trivial⟩
  · refine RO_sub ?_ (rb_Law_readPart_51 kr0 kr1 th p2 d hd0 Hkr0 Hkr1 hk_th v3 s0 r1 m2)
    exact ⟨rfl, rfl, rfl, rfl, rfl, rfl, trivial⟩
def bm_Law_readPart (kr0 : Nat → Int → Int → Mm → Res) (kr1 : Nat → Int → Mm → Res) (th : Nat) (p2 : Int) (mem : Mm) : Res := bd (fn_Tape_isSign 40 mem) fun r1 m2 => if (m2 1 2) = (-25) then (bo_Law_readPart_22 kr0 kr1 th p2 r1 1 m2) else (bo_Law_readPart_22 kr0 kr1 th p2 r1 0 m2)
set_option maxHeartbeats 4000000 in
theorem pb_Law_readPart {E : EE} (kr0 : Nat → Int → Int → Mm → Res) (kr1 : Nat → Int → Mm → Res) (d : Nat) (hd0 : 6 ≤ d) (Hkr0 : ∀ (th : Nat) (p2 : Int) (p3 : Int) (hk_th : ly_k th = (2, 4)) (mem : Mm) (r : Int) (mem9 : Mm), kr0 th p2 p3 mem = some (r, mem9) → MetX E d yn_Law_readLevel cd_Law_readLevel 6 (some .boolean) [rf th, rf 1, vi p2, vi p3] mem r mem9) (Hkr1 : ∀ (th : Nat) (p2 : Int) (hk_th : ly_k th = (2, 4)) (mem : Mm) (r : Int) (mem9 : Mm), kr1 th p2 mem = some (r, mem9) → MetX E d yn_Law_readPart cd_Law_readPart 6 (some .boolean) [rf th, rf 1, vi p2] mem r mem9)  (th : Nat) (p2 : Int) (hk_th : ly_k th = (2, 4)) (mem : Mm) {r : Int} {mem9 : Mm} (h : bm_Law_readPart kr0 kr1 th p2 mem = some (r, mem9)) : MetX E (d + 1) yn_Law_readPart cd_Law_readPart 6 (some .boolean) [rf th, rf 1, vi p2] mem r mem9 := by
  refine RO_met (y := yn_Law_readPart) (by decide +kernel) (Nat.le_of_ble_eq_true rfl) ?_ h
  show RO E (mt_Law_readPart (d + 1)) (bm_Law_readPart kr0 kr1 th p2 mem) 0 [(0, rf th), (1, rf 1), (2, vi p2)] [] mem
  unfold bm_Law_readPart
  refine RO_aload_n dc_Law_readPart_0 rfl rfl ?_
  refine RO_bipush dc_Law_readPart_1 ?_
  refine RO_callVi (As := [vi 40]) (rest := []) mi_Tape_isSign mv_Tape_isSign ml_Law_55 lk_1 (by show _ < d + 1; omega) rfl (Nat.le_of_ble_eq_true rfl) (fun _ => rfl) dc_Law_readPart_3 (fun rq mq hq => pf_Tape_isSign 40  mem hq) (fun r1 m2 => ?_)
  refine RO_istore_n dc_Law_readPart_6 rfl (Nat.le_of_ble_eq_true rfl) ?_
  refine RO_aload_n dc_Law_readPart_7 rfl rfl ?_
  refine RO_getW gf_Law_43 lk_1 dc_Law_readPart_8 ?_
  refine RO_getsW 23 (by decide) (x := (-25)) (by decide) gs_Law_59 dc_Law_readPart_11 ?_
  refine RO_acmp_ne (tgt := 21) dc_Law_readPart_14 rfl ?_ ?_
  · refine RO_iconst dc_Law_readPart_17 ?_
    refine RO_goto (tgt := 22) dc_Law_readPart_18 rfl ?_
    refine RO_sub ?_ (rb_Law_readPart_22 kr0 kr1 th p2 d hd0 Hkr0 Hkr1 hk_th r1 1 m2)
    exact ⟨rfl, rfl, rfl, rfl, trivial⟩
  · refine RO_iconst dc_Law_readPart_21 ?_
    refine RO_sub ?_ (rb_Law_readPart_22 kr0 kr1 th p2 d hd0 Hkr0 Hkr1 hk_th r1 0 m2)
    exact ⟨rfl, rfl, rfl, rfl, trivial⟩
def rc_Law_readLevel_Law_readPart : Nat → (Nat → Int → Int → Mm → Res) × (Nat → Int → Mm → Res)
  | 0 => ((fun _ _ _ _ => none), (fun _ _ _ => none))
  | n + 1 => (bm_Law_readLevel (rc_Law_readLevel_Law_readPart n).1 (rc_Law_readLevel_Law_readPart n).2, bm_Law_readPart (rc_Law_readLevel_Law_readPart n).1 (rc_Law_readLevel_Law_readPart n).2)
theorem rq_Law_readLevel_Law_readPart {E : EE} : ∀ n : Nat, (∀ (th : Nat) (p2 : Int) (p3 : Int) (hk_th : ly_k th = (2, 4)) (mem : Mm) (r : Int) (mem9 : Mm), (rc_Law_readLevel_Law_readPart n).1 th p2 p3 mem = some (r, mem9) → MetX E (6 + n) yn_Law_readLevel cd_Law_readLevel 6 (some .boolean) [rf th, rf 1, vi p2, vi p3] mem r mem9) ∧ (∀ (th : Nat) (p2 : Int) (hk_th : ly_k th = (2, 4)) (mem : Mm) (r : Int) (mem9 : Mm), (rc_Law_readLevel_Law_readPart n).2 th p2 mem = some (r, mem9) → MetX E (6 + n) yn_Law_readPart cd_Law_readPart 6 (some .boolean) [rf th, rf 1, vi p2] mem r mem9) := by
  intro n
  induction n with
  | zero => exact ⟨(fun th p2 p3 hk_th mem r mem9 h9 => by cases h9), (fun th p2 hk_th mem r mem9 h9 => by cases h9)⟩
  | succ n ih => exact ⟨(fun th p2 p3 hk_th mem r mem9 h9 => pb_Law_readLevel (rc_Law_readLevel_Law_readPart n).1 (rc_Law_readLevel_Law_readPart n).2 (6 + n) (by omega) ih.1 ih.2 th p2 p3 hk_th mem h9), (fun th p2 hk_th mem r mem9 h9 => pb_Law_readPart (rc_Law_readLevel_Law_readPart n).1 (rc_Law_readLevel_Law_readPart n).2 (6 + n) (by omega) ih.1 ih.2 th p2 hk_th mem h9)⟩
def fn_Law_readLevel (th : Nat) (p2 : Int) (p3 : Int) (mem : Mm) : Res := (rc_Law_readLevel_Law_readPart 40).1 th p2 p3 mem
theorem pf_Law_readLevel {E : EE} (th : Nat) (p2 : Int) (p3 : Int) (hk_th : ly_k th = (2, 4)) (mem : Mm) {r : Int} {mem9 : Mm} (h : fn_Law_readLevel th p2 p3 mem = some (r, mem9)) : MetX E 46 yn_Law_readLevel cd_Law_readLevel 6 (some .boolean) [rf th, rf 1, vi p2, vi p3] mem r mem9 := (rq_Law_readLevel_Law_readPart 40).1 th p2 p3 hk_th mem r mem9 h
def fn_Law_readPart (th : Nat) (p2 : Int) (mem : Mm) : Res := (rc_Law_readLevel_Law_readPart 40).2 th p2 mem
theorem pf_Law_readPart {E : EE} (th : Nat) (p2 : Int) (hk_th : ly_k th = (2, 4)) (mem : Mm) {r : Int} {mem9 : Mm} (h : fn_Law_readPart th p2 mem = some (r, mem9)) : MetX E 46 yn_Law_readPart cd_Law_readPart 6 (some .boolean) [rf th, rf 1, vi p2] mem r mem9 := (rq_Law_readLevel_Law_readPart 40).2 th p2 hk_th mem r mem9 h
def fn_HillsReader_readMissed  (mem : Mm) : Res := if (mem 3 2) = 0 then (bn (mst mem 3 2 1) fun m1 => bd (fn_Tape_step  m1) fun r2 m3 => if isK 0 (m3 3 1) = true then bd (fn_Law_clear ((m3 3 1).toNat + 10) m3) fun r5 m6 => if isK 0 (m6 3 1) = true then bd (fn_Law_readLevel ((m6 3 1).toNat + 10) 0 0 m6) fun r8 m9 => if r8 = 0 then (some (0, m9)) else (bd (fn_Tape_takeSign 59 m9) fun r10 m11 => if r10 = 0 then (some (0, m11)) else (some (1, m11))) else none else none) else (bd (fn_Tape_wrong 3 mem) fun r12 m13 => if r12 = 0 ∨ r12 = 1 then some (r12, m13) else none)
set_option maxHeartbeats 4000000 in
theorem pf_HillsReader_readMissed {E : EE}   (mem : Mm) {r : Int} {mem9 : Mm} (h : fn_HillsReader_readMissed  mem = some (r, mem9)) : MetX E 47 yn_HillsReader_readMissed cd_HillsReader_readMissed 1 (some .boolean) [rf 3] mem r mem9 := by
  refine RO_met (y := yn_HillsReader_readMissed) (by decide +kernel) (Nat.le_of_ble_eq_true rfl) ?_ h
  show RO E mt_HillsReader_readMissed (fn_HillsReader_readMissed  mem) 0 [(0, rf 3)] [] mem
  unfold fn_HillsReader_readMissed
  refine RO_aload_n dc_HillsReader_readMissed_0 rfl rfl ?_
  refine RO_getZ gf_HillsReader_24 lk_3 dc_HillsReader_readMissed_1 ?_
  refine RO_if_eq (tgt := 16) dc_HillsReader_readMissed_4 rfl ?_ ?_
  · refine RO_aload_n dc_HillsReader_readMissed_16 rfl rfl ?_
    refine RO_iconst dc_HillsReader_readMissed_17 ?_
    refine RO_putZ gp_HillsReader_24 lk_3 (Or.inr rfl) dc_HillsReader_readMissed_18 ?_
    refine RO_bnM (fun m1 => ?_)
    refine RO_aload_n dc_HillsReader_readMissed_21 rfl rfl ?_
    refine RO_getR (b := 1) gf_HillsReader_9 lk_3 rfl dc_HillsReader_readMissed_22 ?_
    refine RO_callVv (As := []) (rest := []) mi_Tape_step mv_Tape_step ml_HillsReader_110 lk_1 (Nat.le_of_ble_eq_true rfl) rfl (Nat.le_of_ble_eq_true rfl) dc_HillsReader_readMissed_25 (fun rq mq hq => pf_Tape_step   m1 hq) (fun r2 m3 => ?_)
    refine RO_aload_n dc_HillsReader_readMissed_28 rfl rfl ?_
    refine RO_chk (fun hz4 => ?_)
    refine RO_getM gf_HillsReader_15 lk_3 (isK_0 hz4) dc_HillsReader_readMissed_29 ?_
    refine RO_getR (b := ((m3 3 1).toNat + 10)) gf_HillsReader_255 (kd_0 hz4) (by omega) dc_HillsReader_readMissed_32 ?_
    refine RO_callVv (As := []) (rest := []) mi_Law_clear mv_Law_clear ml_HillsReader_259 (cl_0_14 (kd_0 hz4)) (Nat.le_of_ble_eq_true rfl) rfl (Nat.le_of_ble_eq_true rfl) dc_HillsReader_readMissed_35 (fun rq mq hq => pf_Law_clear ((m3 3 1).toNat + 10) (cl_0_14 (kd_0 hz4)) m3 hq) (fun r5 m6 => ?_)
    refine RO_aload_n dc_HillsReader_readMissed_38 rfl rfl ?_
    refine RO_chk (fun hz7 => ?_)
    refine RO_getM gf_HillsReader_15 lk_3 (isK_0 hz7) dc_HillsReader_readMissed_39 ?_
    refine RO_getR (b := ((m6 3 1).toNat + 10)) gf_HillsReader_255 (kd_0 hz7) (by omega) dc_HillsReader_readMissed_42 ?_
    refine RO_aload_n dc_HillsReader_readMissed_45 rfl rfl ?_
    refine RO_getR (b := 1) gf_HillsReader_9 lk_3 rfl dc_HillsReader_readMissed_46 ?_
    refine RO_iconst dc_HillsReader_readMissed_49 ?_
    refine RO_iconst dc_HillsReader_readMissed_50 ?_
    refine RO_callNi (As := [rf 1, vi 0, vi 0]) (rest := []) mi_Law_readLevel mv_Law_readLevel mn_HillsReader_264 (cl_0_14 (kd_0 hz7)) (Nat.le_of_ble_eq_true rfl) rfl (Nat.le_of_ble_eq_true rfl) (fun _ => rfl) dc_HillsReader_readMissed_51 (fun rq mq hq => pf_Law_readLevel ((m6 3 1).toNat + 10) 0 0 (cl_0_14 (kd_0 hz7)) m6 hq) (fun r8 m9 => ?_)
    refine RO_if_eq (tgt := 73) dc_HillsReader_readMissed_54 rfl ?_ ?_
    · refine RO_iconst dc_HillsReader_readMissed_73 ?_
      exact RO_zret rfl (Or.inl rfl) dc_HillsReader_readMissed_74
    · refine RO_aload_n dc_HillsReader_readMissed_57 rfl rfl ?_
      refine RO_getR (b := 1) gf_HillsReader_9 lk_3 rfl dc_HillsReader_readMissed_58 ?_
      refine RO_bipush dc_HillsReader_readMissed_61 ?_
      refine RO_callVi (As := [vi 59]) (rest := []) mi_Tape_takeSign mv_Tape_takeSign ml_HillsReader_145 lk_1 (Nat.le_of_ble_eq_true rfl) rfl (Nat.le_of_ble_eq_true rfl) (fun _ => rfl) dc_HillsReader_readMissed_63 (fun rq mq hq => pf_Tape_takeSign 59  m9 hq) (fun r10 m11 => ?_)
      refine RO_if_eq (tgt := 73) dc_HillsReader_readMissed_66 rfl ?_ ?_
      · refine RO_iconst dc_HillsReader_readMissed_73 ?_
        exact RO_zret rfl (Or.inl rfl) dc_HillsReader_readMissed_74
      · refine RO_iconst dc_HillsReader_readMissed_69 ?_
        refine RO_goto (tgt := 74) dc_HillsReader_readMissed_70 rfl ?_
        exact RO_zret rfl (Or.inr rfl) dc_HillsReader_readMissed_74
  · refine RO_aload_n dc_HillsReader_readMissed_7 rfl rfl ?_
    refine RO_getR (b := 1) gf_HillsReader_9 lk_3 rfl dc_HillsReader_readMissed_8 ?_
    refine RO_iconst dc_HillsReader_readMissed_11 ?_
    refine RO_callVi (As := [vi 3]) (rest := []) mi_Tape_wrong mv_Tape_wrong ml_HillsReader_100 lk_1 (Nat.le_of_ble_eq_true rfl) rfl (Nat.le_of_ble_eq_true rfl) (fun _ => rfl) dc_HillsReader_readMissed_12 (fun rq mq hq => pf_Tape_wrong 3  mem hq) (fun r12 m13 => ?_)
    refine RO_chk (fun hz14 => ?_)
    exact RO_zret rfl hz14 dc_HillsReader_readMissed_15
def bo_HillsReader_read_276 (p1 : Nat)   (mem : Mm) : Res := if isK 0 (mem 3 1) = true then bd (fn_Hills_findWays (mem 3 1).toNat mem) fun r2 m3 => bd (fn_Tape_close  m3) fun r4 m5 => some (r4, m5) else none
set_option maxHeartbeats 4000000 in
theorem rb_HillsReader_read_276 {E : EE} (p1 : Nat) (hk_p1 : ly_k p1 = (0, 15))     (mem : Mm) : RO E mt_HillsReader_read (bo_HillsReader_read_276 p1   mem) 276 [(0, rf 3)] [] mem := by
  unfold bo_HillsReader_read_276
  refine RO_aload_n dc_HillsReader_read_276 rfl rfl ?_
  refine RO_chk (fun hz1 => ?_)
  refine RO_getM gf_HillsReader_15 lk_3 (isK_0 hz1) dc_HillsReader_read_277 ?_
  refine RO_callVv (As := []) (rest := []) mi_Hills_findWays mv_Hills_findWays ml_HillsReader_103 (kd_0 hz1) (Nat.le_of_ble_eq_true rfl) rfl (Nat.le_of_ble_eq_true rfl) dc_HillsReader_read_280 (fun rq mq hq => pf_Hills_findWays (mem 3 1).toNat (kd_0 hz1) mem hq) (fun r2 m3 => ?_)
  refine RO_aload_n dc_HillsReader_read_283 rfl rfl ?_
  refine RO_getR (b := 1) gf_HillsReader_9 lk_3 rfl dc_HillsReader_read_284 ?_
  refine RO_callVi (As := []) (rest := []) mi_Tape_close mv_Tape_close ml_HillsReader_106 lk_1 (Nat.le_of_ble_eq_true rfl) rfl (Nat.le_of_ble_eq_true rfl) (fun _ => rfl) dc_HillsReader_read_287 (fun rq mq hq => pf_Tape_close   m3 hq) (fun r4 m5 => ?_)
  exact RO_iret rfl dc_HillsReader_read_290
def bo_HillsReader_read_270 (p1 : Nat) (k28 : Int → Int → Mm → Res) (v2 : Int) (v3 : Int) (mem : Mm) : Res := k28 v2 (w32 (v3 + 1)) mem
set_option maxHeartbeats 4000000 in
theorem rb_HillsReader_read_270 {E : EE} (p1 : Nat) (hk_p1 : ly_k p1 = (0, 15)) (k28 : Int → Int → Mm → Res) (H28 : ∀ (v2 : Int) (v3 : Int)  (mem : Mm), RO E mt_HillsReader_read (k28 v2 v3 mem) 28 [(0, rf 3), (2, vi v2), (3, vi v3)] [] mem) (v2 : Int) (v3 : Int)  (mem : Mm) : RO E mt_HillsReader_read (bo_HillsReader_read_270 p1 k28 v2 v3 mem) 270 [(0, rf 3), (2, vi v2), (3, vi v3)] [] mem := by
  unfold bo_HillsReader_read_270
  refine RO_iinc dc_HillsReader_read_270 rfl (Nat.le_of_ble_eq_true rfl) ?_
  refine RO_goto (tgt := 28) dc_HillsReader_read_273 rfl ?_
  refine RO_sub ?_ (H28 v2 (w32 (v3 + 1)) mem)
  exact ⟨rfl, rfl, rfl, trivial⟩
def bo_HillsReader_read_269 (p1 : Nat) (k28 : Int → Int → Mm → Res) (v3 : Int) (s0 : Int) (mem : Mm) : Res := bo_HillsReader_read_270 p1 k28 s0 v3 mem
set_option maxHeartbeats 4000000 in
theorem rb_HillsReader_read_269 {E : EE} (p1 : Nat) (hk_p1 : ly_k p1 = (0, 15)) (k28 : Int → Int → Mm → Res) (H28 : ∀ (v2 : Int) (v3 : Int)  (mem : Mm), RO E mt_HillsReader_read (k28 v2 v3 mem) 28 [(0, rf 3), (2, vi v2), (3, vi v3)] [] mem) (v3 : Int) (s0 : Int)  (mem : Mm) : RO E mt_HillsReader_read (bo_HillsReader_read_269 p1 k28 v3 s0 mem) 269 [(0, rf 3), (3, vi v3)] [vi s0] mem := by
  unfold bo_HillsReader_read_269
  refine RO_istore_n dc_HillsReader_read_269 rfl (Nat.le_of_ble_eq_true rfl) ?_
  refine RO_sub ?_ (rb_HillsReader_read_270 p1 hk_p1 k28 H28 s0 v3 mem)
  exact ⟨rfl, rfl, rfl, trivial⟩
def bo_HillsReader_read_242 (p1 : Nat) (k28 : Int → Int → Mm → Res) (v3 : Int) (s0 : Int) (mem : Mm) : Res := bo_HillsReader_read_270 p1 k28 s0 v3 mem
set_option maxHeartbeats 4000000 in
theorem rb_HillsReader_read_242 {E : EE} (p1 : Nat) (hk_p1 : ly_k p1 = (0, 15)) (k28 : Int → Int → Mm → Res) (H28 : ∀ (v2 : Int) (v3 : Int)  (mem : Mm), RO E mt_HillsReader_read (k28 v2 v3 mem) 28 [(0, rf 3), (2, vi v2), (3, vi v3)] [] mem) (v3 : Int) (s0 : Int)  (mem : Mm) : RO E mt_HillsReader_read (bo_HillsReader_read_242 p1 k28 v3 s0 mem) 242 [(0, rf 3), (3, vi v3)] [vi s0] mem := by
  unfold bo_HillsReader_read_242
  refine RO_istore_n dc_HillsReader_read_242 rfl (Nat.le_of_ble_eq_true rfl) ?_
  refine RO_goto (tgt := 270) dc_HillsReader_read_243 rfl ?_
  refine RO_sub ?_ (rb_HillsReader_read_270 p1 hk_p1 k28 H28 s0 v3 mem)
  exact ⟨rfl, rfl, rfl, trivial⟩
def bo_HillsReader_read_241 (p1 : Nat) (k28 : Int → Int → Mm → Res) (v3 : Int) (mem : Mm) : Res := bo_HillsReader_read_242 p1 k28 v3 0 mem
set_option maxHeartbeats 4000000 in
theorem rb_HillsReader_read_241 {E : EE} (p1 : Nat) (hk_p1 : ly_k p1 = (0, 15)) (k28 : Int → Int → Mm → Res) (H28 : ∀ (v2 : Int) (v3 : Int)  (mem : Mm), RO E mt_HillsReader_read (k28 v2 v3 mem) 28 [(0, rf 3), (2, vi v2), (3, vi v3)] [] mem) (v3 : Int)  (mem : Mm) : RO E mt_HillsReader_read (bo_HillsReader_read_241 p1 k28 v3 mem) 241 [(0, rf 3), (3, vi v3)] [] mem := by
  unfold bo_HillsReader_read_241
  refine RO_iconst dc_HillsReader_read_241 ?_
  refine RO_sub ?_ (rb_HillsReader_read_242 p1 hk_p1 k28 H28 v3 0 mem)
  exact ⟨rfl, rfl, trivial⟩
def bo_HillsReader_read_204 (p1 : Nat) (k28 : Int → Int → Mm → Res) (v3 : Int) (s0 : Int) (mem : Mm) : Res := bo_HillsReader_read_270 p1 k28 s0 v3 mem
set_option maxHeartbeats 4000000 in
theorem rb_HillsReader_read_204 {E : EE} (p1 : Nat) (hk_p1 : ly_k p1 = (0, 15)) (k28 : Int → Int → Mm → Res) (H28 : ∀ (v2 : Int) (v3 : Int)  (mem : Mm), RO E mt_HillsReader_read (k28 v2 v3 mem) 28 [(0, rf 3), (2, vi v2), (3, vi v3)] [] mem) (v3 : Int) (s0 : Int)  (mem : Mm) : RO E mt_HillsReader_read (bo_HillsReader_read_204 p1 k28 v3 s0 mem) 204 [(0, rf 3), (3, vi v3)] [vi s0] mem := by
  unfold bo_HillsReader_read_204
  refine RO_istore_n dc_HillsReader_read_204 rfl (Nat.le_of_ble_eq_true rfl) ?_
  refine RO_goto (tgt := 270) dc_HillsReader_read_205 rfl ?_
  refine RO_sub ?_ (rb_HillsReader_read_270 p1 hk_p1 k28 H28 s0 v3 mem)
  exact ⟨rfl, rfl, rfl, trivial⟩
def bo_HillsReader_read_203 (p1 : Nat) (k28 : Int → Int → Mm → Res) (v3 : Int) (mem : Mm) : Res := bo_HillsReader_read_204 p1 k28 v3 0 mem
set_option maxHeartbeats 4000000 in
theorem rb_HillsReader_read_203 {E : EE} (p1 : Nat) (hk_p1 : ly_k p1 = (0, 15)) (k28 : Int → Int → Mm → Res) (H28 : ∀ (v2 : Int) (v3 : Int)  (mem : Mm), RO E mt_HillsReader_read (k28 v2 v3 mem) 28 [(0, rf 3), (2, vi v2), (3, vi v3)] [] mem) (v3 : Int)  (mem : Mm) : RO E mt_HillsReader_read (bo_HillsReader_read_203 p1 k28 v3 mem) 203 [(0, rf 3), (3, vi v3)] [] mem := by
  unfold bo_HillsReader_read_203
  refine RO_iconst dc_HillsReader_read_203 ?_
  refine RO_sub ?_ (rb_HillsReader_read_204 p1 hk_p1 k28 H28 v3 0 mem)
  exact ⟨rfl, rfl, trivial⟩
def bo_HillsReader_read_166 (p1 : Nat) (k28 : Int → Int → Mm → Res) (v3 : Int) (s0 : Int) (mem : Mm) : Res := bo_HillsReader_read_270 p1 k28 s0 v3 mem
set_option maxHeartbeats 4000000 in
theorem rb_HillsReader_read_166 {E : EE} (p1 : Nat) (hk_p1 : ly_k p1 = (0, 15)) (k28 : Int → Int → Mm → Res) (H28 : ∀ (v2 : Int) (v3 : Int)  (mem : Mm), RO E mt_HillsReader_read (k28 v2 v3 mem) 28 [(0, rf 3), (2, vi v2), (3, vi v3)] [] mem) (v3 : Int) (s0 : Int)  (mem : Mm) : RO E mt_HillsReader_read (bo_HillsReader_read_166 p1 k28 v3 s0 mem) 166 [(0, rf 3), (3, vi v3)] [vi s0] mem := by
  unfold bo_HillsReader_read_166
  refine RO_istore_n dc_HillsReader_read_166 rfl (Nat.le_of_ble_eq_true rfl) ?_
  refine RO_goto (tgt := 270) dc_HillsReader_read_167 rfl ?_
  refine RO_sub ?_ (rb_HillsReader_read_270 p1 hk_p1 k28 H28 s0 v3 mem)
  exact ⟨rfl, rfl, rfl, trivial⟩
def bo_HillsReader_read_165 (p1 : Nat) (k28 : Int → Int → Mm → Res) (v3 : Int) (mem : Mm) : Res := bo_HillsReader_read_166 p1 k28 v3 0 mem
set_option maxHeartbeats 4000000 in
theorem rb_HillsReader_read_165 {E : EE} (p1 : Nat) (hk_p1 : ly_k p1 = (0, 15)) (k28 : Int → Int → Mm → Res) (H28 : ∀ (v2 : Int) (v3 : Int)  (mem : Mm), RO E mt_HillsReader_read (k28 v2 v3 mem) 28 [(0, rf 3), (2, vi v2), (3, vi v3)] [] mem) (v3 : Int)  (mem : Mm) : RO E mt_HillsReader_read (bo_HillsReader_read_165 p1 k28 v3 mem) 165 [(0, rf 3), (3, vi v3)] [] mem := by
  unfold bo_HillsReader_read_165
  refine RO_iconst dc_HillsReader_read_165 ?_
  refine RO_sub ?_ (rb_HillsReader_read_166 p1 hk_p1 k28 H28 v3 0 mem)
  exact ⟨rfl, rfl, trivial⟩
def bo_HillsReader_read_128 (p1 : Nat) (k28 : Int → Int → Mm → Res) (v3 : Int) (s0 : Int) (mem : Mm) : Res := bo_HillsReader_read_270 p1 k28 s0 v3 mem
set_option maxHeartbeats 4000000 in
theorem rb_HillsReader_read_128 {E : EE} (p1 : Nat) (hk_p1 : ly_k p1 = (0, 15)) (k28 : Int → Int → Mm → Res) (H28 : ∀ (v2 : Int) (v3 : Int)  (mem : Mm), RO E mt_HillsReader_read (k28 v2 v3 mem) 28 [(0, rf 3), (2, vi v2), (3, vi v3)] [] mem) (v3 : Int) (s0 : Int)  (mem : Mm) : RO E mt_HillsReader_read (bo_HillsReader_read_128 p1 k28 v3 s0 mem) 128 [(0, rf 3), (3, vi v3)] [vi s0] mem := by
  unfold bo_HillsReader_read_128
  refine RO_istore_n dc_HillsReader_read_128 rfl (Nat.le_of_ble_eq_true rfl) ?_
  refine RO_goto (tgt := 270) dc_HillsReader_read_129 rfl ?_
  refine RO_sub ?_ (rb_HillsReader_read_270 p1 hk_p1 k28 H28 s0 v3 mem)
  exact ⟨rfl, rfl, rfl, trivial⟩
def bo_HillsReader_read_127 (p1 : Nat) (k28 : Int → Int → Mm → Res) (v3 : Int) (mem : Mm) : Res := bo_HillsReader_read_128 p1 k28 v3 0 mem
set_option maxHeartbeats 4000000 in
theorem rb_HillsReader_read_127 {E : EE} (p1 : Nat) (hk_p1 : ly_k p1 = (0, 15)) (k28 : Int → Int → Mm → Res) (H28 : ∀ (v2 : Int) (v3 : Int)  (mem : Mm), RO E mt_HillsReader_read (k28 v2 v3 mem) 28 [(0, rf 3), (2, vi v2), (3, vi v3)] [] mem) (v3 : Int)  (mem : Mm) : RO E mt_HillsReader_read (bo_HillsReader_read_127 p1 k28 v3 mem) 127 [(0, rf 3), (3, vi v3)] [] mem := by
  unfold bo_HillsReader_read_127
  refine RO_iconst dc_HillsReader_read_127 ?_
  refine RO_sub ?_ (rb_HillsReader_read_128 p1 hk_p1 k28 H28 v3 0 mem)
  exact ⟨rfl, rfl, trivial⟩
def bo_HillsReader_read_92 (p1 : Nat) (k28 : Int → Int → Mm → Res) (v3 : Int) (s0 : Int) (mem : Mm) : Res := bo_HillsReader_read_270 p1 k28 s0 v3 mem
set_option maxHeartbeats 4000000 in
theorem rb_HillsReader_read_92 {E : EE} (p1 : Nat) (hk_p1 : ly_k p1 = (0, 15)) (k28 : Int → Int → Mm → Res) (H28 : ∀ (v2 : Int) (v3 : Int)  (mem : Mm), RO E mt_HillsReader_read (k28 v2 v3 mem) 28 [(0, rf 3), (2, vi v2), (3, vi v3)] [] mem) (v3 : Int) (s0 : Int)  (mem : Mm) : RO E mt_HillsReader_read (bo_HillsReader_read_92 p1 k28 v3 s0 mem) 92 [(0, rf 3), (3, vi v3)] [vi s0] mem := by
  unfold bo_HillsReader_read_92
  refine RO_istore_n dc_HillsReader_read_92 rfl (Nat.le_of_ble_eq_true rfl) ?_
  refine RO_goto (tgt := 270) dc_HillsReader_read_93 rfl ?_
  refine RO_sub ?_ (rb_HillsReader_read_270 p1 hk_p1 k28 H28 s0 v3 mem)
  exact ⟨rfl, rfl, rfl, trivial⟩
def bo_HillsReader_read_91 (p1 : Nat) (k28 : Int → Int → Mm → Res) (v3 : Int) (mem : Mm) : Res := bo_HillsReader_read_92 p1 k28 v3 0 mem
set_option maxHeartbeats 4000000 in
theorem rb_HillsReader_read_91 {E : EE} (p1 : Nat) (hk_p1 : ly_k p1 = (0, 15)) (k28 : Int → Int → Mm → Res) (H28 : ∀ (v2 : Int) (v3 : Int)  (mem : Mm), RO E mt_HillsReader_read (k28 v2 v3 mem) 28 [(0, rf 3), (2, vi v2), (3, vi v3)] [] mem) (v3 : Int)  (mem : Mm) : RO E mt_HillsReader_read (bo_HillsReader_read_91 p1 k28 v3 mem) 91 [(0, rf 3), (3, vi v3)] [] mem := by
  unfold bo_HillsReader_read_91
  refine RO_iconst dc_HillsReader_read_91 ?_
  refine RO_sub ?_ (rb_HillsReader_read_92 p1 hk_p1 k28 H28 v3 0 mem)
  exact ⟨rfl, rfl, trivial⟩
def bo_HillsReader_read_28 (p1 : Nat) (k28 : Int → Int → Mm → Res) (v2 : Int) (v3 : Int) (mem : Mm) : Res := if v3 < 1000 then (if v2 = 0 then (bo_HillsReader_read_276 p1 mem) else (bd (fn_Tape_isEnd  mem) fun r1 m2 => if r1 = 0 then (if (m2 1 2) = (-2) then (if isK 0 (m2 3 1) = true then bd (fn_HillsReader_canBegin (m2 (m2 3 1).toNat 0) m2) fun r4 m5 => if r4 = 0 then (bo_HillsReader_read_91 p1 k28 v3 m5) else (bd (fn_HillsReader_readPlace  m5) fun r6 m7 => if r6 = 0 then (bo_HillsReader_read_91 p1 k28 v3 m7) else (bo_HillsReader_read_92 p1 k28 v3 1 m7)) else none) else (if (m2 1 2) = (-3) then (bd (fn_Tape_take (m2 1 2) m2) fun r8 m9 => if r8 = 0 then (bo_HillsReader_read_127 p1 k28 v3 m9) else (bd (fn_HillsReader_readPath  m9) fun r10 m11 => if r10 = 0 then (bo_HillsReader_read_127 p1 k28 v3 m11) else (bo_HillsReader_read_128 p1 k28 v3 1 m11))) else (if (m2 1 2) = (-4) then (if isK 0 (m2 3 1) = true then bd (fn_HillsReader_canBegin (m2 (m2 3 1).toNat 1) m2) fun r13 m14 => if r13 = 0 then (bo_HillsReader_read_165 p1 k28 v3 m14) else (bd (fn_HillsReader_readWalker  m14) fun r15 m16 => if r15 = 0 then (bo_HillsReader_read_165 p1 k28 v3 m16) else (bo_HillsReader_read_166 p1 k28 v3 1 m16)) else none) else (if (m2 1 2) = (-9) then (if isK 0 (m2 3 1) = true then bd (fn_HillsReader_canBegin (m2 (m2 3 1).toNat 4) m2) fun r18 m19 => if r18 = 0 then (bo_HillsReader_read_203 p1 k28 v3 m19) else (bd (fn_HillsReader_readWaits  m19) fun r20 m21 => if r20 = 0 then (bo_HillsReader_read_203 p1 k28 v3 m21) else (bo_HillsReader_read_204 p1 k28 v3 1 m21)) else none) else (if (m2 1 2) = (-12) then (if isK 0 (m2 3 1) = true then bd (fn_HillsReader_canBegin (m2 (m2 3 1).toNat 2) m2) fun r23 m24 => if r23 = 0 then (bo_HillsReader_read_241 p1 k28 v3 m24) else (bd (fn_HillsReader_readHour  m24) fun r25 m26 => if r25 = 0 then (bo_HillsReader_read_241 p1 k28 v3 m26) else (bo_HillsReader_read_242 p1 k28 v3 1 m26)) else none) else (if (m2 1 2) = (-15) then (bd (fn_HillsReader_readMissed  m2) fun r27 m28 => bo_HillsReader_read_269 p1 k28 v3 r27 m28) else (bd (fn_Tape_wrong 1 m2) fun r29 m30 => bo_HillsReader_read_269 p1 k28 v3 r29 m30))))))) else (bo_HillsReader_read_276 p1 m2))) else (bo_HillsReader_read_276 p1 mem)
set_option maxHeartbeats 4000000 in
theorem rb_HillsReader_read_28 {E : EE} (p1 : Nat) (hk_p1 : ly_k p1 = (0, 15)) (k28 : Int → Int → Mm → Res) (H28 : ∀ (v2 : Int) (v3 : Int)  (mem : Mm), RO E mt_HillsReader_read (k28 v2 v3 mem) 28 [(0, rf 3), (2, vi v2), (3, vi v3)] [] mem) (v2 : Int) (v3 : Int)  (mem : Mm) : RO E mt_HillsReader_read (bo_HillsReader_read_28 p1 k28 v2 v3 mem) 28 [(0, rf 3), (2, vi v2), (3, vi v3)] [] mem := by
  unfold bo_HillsReader_read_28
  refine RO_iload_n dc_HillsReader_read_28 rfl rfl ?_
  refine RO_sipush dc_HillsReader_read_29 ?_
  refine RO_icmp_ge (tgt := 276) dc_HillsReader_read_32 rfl ?_ ?_
  · refine RO_iload_n dc_HillsReader_read_35 rfl rfl ?_
    refine RO_if_eq (tgt := 276) dc_HillsReader_read_36 rfl ?_ ?_
    · refine RO_sub ?_ (rb_HillsReader_read_276 p1 hk_p1 mem)
      exact ⟨rfl, trivial⟩
    · refine RO_aload_n dc_HillsReader_read_39 rfl rfl ?_
      refine RO_getR (b := 1) gf_HillsReader_9 lk_3 rfl dc_HillsReader_read_40 ?_
      refine RO_callVi (As := []) (rest := []) mi_Tape_isEnd mv_Tape_isEnd ml_HillsReader_33 lk_1 (Nat.le_of_ble_eq_true rfl) rfl (Nat.le_of_ble_eq_true rfl) (fun _ => rfl) dc_HillsReader_read_43 (fun rq mq hq => pf_Tape_isEnd   mem hq) (fun r1 m2 => ?_)
      refine RO_if_ne (tgt := 276) dc_HillsReader_read_46 rfl ?_ ?_
      · refine RO_aload_n dc_HillsReader_read_49 rfl rfl ?_
        refine RO_getR (b := 1) gf_HillsReader_9 lk_3 rfl dc_HillsReader_read_50 ?_
        refine RO_getW gf_HillsReader_37 lk_1 dc_HillsReader_read_53 ?_
        refine RO_wstore dc_HillsReader_read_56 (Nat.le_of_ble_eq_true rfl) ?_
        refine RO_wload dc_HillsReader_read_58 rfl ?_
        refine RO_getsW 0 (by decide) (x := (-2)) (by decide) gs_HillsReader_41 dc_HillsReader_read_60 ?_
        refine RO_acmp_ne (tgt := 96) dc_HillsReader_read_63 rfl ?_ ?_
        · refine RO_aload_n dc_HillsReader_read_66 rfl rfl ?_
          refine RO_aload_n dc_HillsReader_read_67 rfl rfl ?_
          refine RO_chk (fun hz3 => ?_)
          refine RO_getM gf_HillsReader_15 lk_3 (isK_0 hz3) dc_HillsReader_read_68 ?_
          refine RO_getI gf_HillsReader_46 (kd_0 hz3) dc_HillsReader_read_71 ?_
          refine RO_callVi (As := [vi (m2 (m2 3 1).toNat 0)]) (rest := []) mi_HillsReader_canBegin mv_HillsReader_canBegin ml_HillsReader_50 lk_3 (Nat.le_of_ble_eq_true rfl) rfl (Nat.le_of_ble_eq_true rfl) (fun _ => rfl) dc_HillsReader_read_74 (fun rq mq hq => pf_HillsReader_canBegin (m2 (m2 3 1).toNat 0)  m2 hq) (fun r4 m5 => ?_)
          refine RO_if_eq (tgt := 91) dc_HillsReader_read_77 rfl ?_ ?_
          · refine RO_sub ?_ (rb_HillsReader_read_91 p1 hk_p1 k28 H28 v3 m5)
            exact ⟨rfl, rfl, trivial⟩
          · refine RO_aload_n dc_HillsReader_read_80 rfl rfl ?_
            refine RO_callVi (As := []) (rest := []) mi_HillsReader_readPlace mv_HillsReader_readPlace ml_HillsReader_54 lk_3 (Nat.le_of_ble_eq_true rfl) rfl (Nat.le_of_ble_eq_true rfl) (fun _ => rfl) dc_HillsReader_read_81 (fun rq mq hq => pf_HillsReader_readPlace   m5 hq) (fun r6 m7 => ?_)
            refine RO_if_eq (tgt := 91) dc_HillsReader_read_84 rfl ?_ ?_
            · refine RO_sub ?_ (rb_HillsReader_read_91 p1 hk_p1 k28 H28 v3 m7)
              exact ⟨rfl, rfl, trivial⟩
            · refine RO_iconst dc_HillsReader_read_87 ?_
              refine RO_goto (tgt := 92) dc_HillsReader_read_88 rfl ?_
              refine RO_sub ?_ (rb_HillsReader_read_92 p1 hk_p1 k28 H28 v3 1 m7)
              exact ⟨rfl, rfl, trivial⟩
        · refine RO_wload dc_HillsReader_read_96 rfl ?_
          refine RO_getsW 1 (by decide) (x := (-3)) (by decide) gs_HillsReader_57 dc_HillsReader_read_98 ?_
          refine RO_acmp_ne (tgt := 132) dc_HillsReader_read_101 rfl ?_ ?_
          · refine RO_aload_n dc_HillsReader_read_104 rfl rfl ?_
            refine RO_getR (b := 1) gf_HillsReader_9 lk_3 rfl dc_HillsReader_read_105 ?_
            refine RO_wload dc_HillsReader_read_108 rfl ?_
            refine RO_callVi (As := [vw (m2 1 2)]) (rest := []) mi_Tape_take mv_Tape_take ml_HillsReader_60 lk_1 (Nat.le_of_ble_eq_true rfl) rfl (Nat.le_of_ble_eq_true rfl) (fun _ => rfl) dc_HillsReader_read_110 (fun rq mq hq => pf_Tape_take (m2 1 2)  m2 hq) (fun r8 m9 => ?_)
            refine RO_if_eq (tgt := 127) dc_HillsReader_read_113 rfl ?_ ?_
            · refine RO_sub ?_ (rb_HillsReader_read_127 p1 hk_p1 k28 H28 v3 m9)
              exact ⟨rfl, rfl, trivial⟩
            · refine RO_aload_n dc_HillsReader_read_116 rfl rfl ?_
              refine RO_callVi (As := []) (rest := []) mi_HillsReader_readPath mv_HillsReader_readPath ml_HillsReader_64 lk_3 (Nat.le_of_ble_eq_true rfl) rfl (Nat.le_of_ble_eq_true rfl) (fun _ => rfl) dc_HillsReader_read_117 (fun rq mq hq => pf_HillsReader_readPath   m9 hq) (fun r10 m11 => ?_)
              refine RO_if_eq (tgt := 127) dc_HillsReader_read_120 rfl ?_ ?_
              · refine RO_sub ?_ (rb_HillsReader_read_127 p1 hk_p1 k28 H28 v3 m11)
                exact ⟨rfl, rfl, trivial⟩
              · refine RO_iconst dc_HillsReader_read_123 ?_
                refine RO_goto (tgt := 128) dc_HillsReader_read_124 rfl ?_
                refine RO_sub ?_ (rb_HillsReader_read_128 p1 hk_p1 k28 H28 v3 1 m11)
                exact ⟨rfl, rfl, trivial⟩
          · refine RO_wload dc_HillsReader_read_132 rfl ?_
            refine RO_getsW 2 (by decide) (x := (-4)) (by decide) gs_HillsReader_67 dc_HillsReader_read_134 ?_
            refine RO_acmp_ne (tgt := 170) dc_HillsReader_read_137 rfl ?_ ?_
            · refine RO_aload_n dc_HillsReader_read_140 rfl rfl ?_
              refine RO_aload_n dc_HillsReader_read_141 rfl rfl ?_
              refine RO_chk (fun hz12 => ?_)
              refine RO_getM gf_HillsReader_15 lk_3 (isK_0 hz12) dc_HillsReader_read_142 ?_
              refine RO_getI gf_HillsReader_70 (kd_0 hz12) dc_HillsReader_read_145 ?_
              refine RO_callVi (As := [vi (m2 (m2 3 1).toNat 1)]) (rest := []) mi_HillsReader_canBegin mv_HillsReader_canBegin ml_HillsReader_50 lk_3 (Nat.le_of_ble_eq_true rfl) rfl (Nat.le_of_ble_eq_true rfl) (fun _ => rfl) dc_HillsReader_read_148 (fun rq mq hq => pf_HillsReader_canBegin (m2 (m2 3 1).toNat 1)  m2 hq) (fun r13 m14 => ?_)
              refine RO_if_eq (tgt := 165) dc_HillsReader_read_151 rfl ?_ ?_
              · refine RO_sub ?_ (rb_HillsReader_read_165 p1 hk_p1 k28 H28 v3 m14)
                exact ⟨rfl, rfl, trivial⟩
              · refine RO_aload_n dc_HillsReader_read_154 rfl rfl ?_
                refine RO_callVi (As := []) (rest := []) mi_HillsReader_readWalker mv_HillsReader_readWalker ml_HillsReader_73 lk_3 (Nat.le_of_ble_eq_true rfl) rfl (Nat.le_of_ble_eq_true rfl) (fun _ => rfl) dc_HillsReader_read_155 (fun rq mq hq => pf_HillsReader_readWalker   m14 hq) (fun r15 m16 => ?_)
                refine RO_if_eq (tgt := 165) dc_HillsReader_read_158 rfl ?_ ?_
                · refine RO_sub ?_ (rb_HillsReader_read_165 p1 hk_p1 k28 H28 v3 m16)
                  exact ⟨rfl, rfl, trivial⟩
                · refine RO_iconst dc_HillsReader_read_161 ?_
                  refine RO_goto (tgt := 166) dc_HillsReader_read_162 rfl ?_
                  refine RO_sub ?_ (rb_HillsReader_read_166 p1 hk_p1 k28 H28 v3 1 m16)
                  exact ⟨rfl, rfl, trivial⟩
            · refine RO_wload dc_HillsReader_read_170 rfl ?_
              refine RO_getsW 7 (by decide) (x := (-9)) (by decide) gs_HillsReader_76 dc_HillsReader_read_172 ?_
              refine RO_acmp_ne (tgt := 208) dc_HillsReader_read_175 rfl ?_ ?_
              · refine RO_aload_n dc_HillsReader_read_178 rfl rfl ?_
                refine RO_aload_n dc_HillsReader_read_179 rfl rfl ?_
                refine RO_chk (fun hz17 => ?_)
                refine RO_getM gf_HillsReader_15 lk_3 (isK_0 hz17) dc_HillsReader_read_180 ?_
                refine RO_getI gf_HillsReader_79 (kd_0 hz17) dc_HillsReader_read_183 ?_
                refine RO_callVi (As := [vi (m2 (m2 3 1).toNat 4)]) (rest := []) mi_HillsReader_canBegin mv_HillsReader_canBegin ml_HillsReader_50 lk_3 (Nat.le_of_ble_eq_true rfl) rfl (Nat.le_of_ble_eq_true rfl) (fun _ => rfl) dc_HillsReader_read_186 (fun rq mq hq => pf_HillsReader_canBegin (m2 (m2 3 1).toNat 4)  m2 hq) (fun r18 m19 => ?_)
                refine RO_if_eq (tgt := 203) dc_HillsReader_read_189 rfl ?_ ?_
                · refine RO_sub ?_ (rb_HillsReader_read_203 p1 hk_p1 k28 H28 v3 m19)
                  exact ⟨rfl, rfl, trivial⟩
                · refine RO_aload_n dc_HillsReader_read_192 rfl rfl ?_
                  refine RO_callVi (As := []) (rest := []) mi_HillsReader_readWaits mv_HillsReader_readWaits ml_HillsReader_82 lk_3 (Nat.le_of_ble_eq_true rfl) rfl (Nat.le_of_ble_eq_true rfl) (fun _ => rfl) dc_HillsReader_read_193 (fun rq mq hq => pf_HillsReader_readWaits   m19 hq) (fun r20 m21 => ?_)
                  refine RO_if_eq (tgt := 203) dc_HillsReader_read_196 rfl ?_ ?_
                  · refine RO_sub ?_ (rb_HillsReader_read_203 p1 hk_p1 k28 H28 v3 m21)
                    exact ⟨rfl, rfl, trivial⟩
                  · refine RO_iconst dc_HillsReader_read_199 ?_
                    refine RO_goto (tgt := 204) dc_HillsReader_read_200 rfl ?_
                    refine RO_sub ?_ (rb_HillsReader_read_204 p1 hk_p1 k28 H28 v3 1 m21)
                    exact ⟨rfl, rfl, trivial⟩
              · refine RO_wload dc_HillsReader_read_208 rfl ?_
                refine RO_getsW 10 (by decide) (x := (-12)) (by decide) gs_HillsReader_85 dc_HillsReader_read_210 ?_
                refine RO_acmp_ne (tgt := 246) dc_HillsReader_read_213 rfl ?_ ?_
                · refine RO_aload_n dc_HillsReader_read_216 rfl rfl ?_
                  refine RO_aload_n dc_HillsReader_read_217 rfl rfl ?_
                  refine RO_chk (fun hz22 => ?_)
                  refine RO_getM gf_HillsReader_15 lk_3 (isK_0 hz22) dc_HillsReader_read_218 ?_
                  refine RO_getI gf_HillsReader_88 (kd_0 hz22) dc_HillsReader_read_221 ?_
                  refine RO_callVi (As := [vi (m2 (m2 3 1).toNat 2)]) (rest := []) mi_HillsReader_canBegin mv_HillsReader_canBegin ml_HillsReader_50 lk_3 (Nat.le_of_ble_eq_true rfl) rfl (Nat.le_of_ble_eq_true rfl) (fun _ => rfl) dc_HillsReader_read_224 (fun rq mq hq => pf_HillsReader_canBegin (m2 (m2 3 1).toNat 2)  m2 hq) (fun r23 m24 => ?_)
                  refine RO_if_eq (tgt := 241) dc_HillsReader_read_227 rfl ?_ ?_
                  · refine RO_sub ?_ (rb_HillsReader_read_241 p1 hk_p1 k28 H28 v3 m24)
                    exact ⟨rfl, rfl, trivial⟩
                  · refine RO_aload_n dc_HillsReader_read_230 rfl rfl ?_
                    refine RO_callVi (As := []) (rest := []) mi_HillsReader_readHour mv_HillsReader_readHour ml_HillsReader_91 lk_3 (Nat.le_of_ble_eq_true rfl) rfl (Nat.le_of_ble_eq_true rfl) (fun _ => rfl) dc_HillsReader_read_231 (fun rq mq hq => pf_HillsReader_readHour   m24 hq) (fun r25 m26 => ?_)
                    refine RO_if_eq (tgt := 241) dc_HillsReader_read_234 rfl ?_ ?_
                    · refine RO_sub ?_ (rb_HillsReader_read_241 p1 hk_p1 k28 H28 v3 m26)
                      exact ⟨rfl, rfl, trivial⟩
                    · refine RO_iconst dc_HillsReader_read_237 ?_
                      refine RO_goto (tgt := 242) dc_HillsReader_read_238 rfl ?_
                      refine RO_sub ?_ (rb_HillsReader_read_242 p1 hk_p1 k28 H28 v3 1 m26)
                      exact ⟨rfl, rfl, trivial⟩
                · refine RO_wload dc_HillsReader_read_246 rfl ?_
                  refine RO_getsW 13 (by decide) (x := (-15)) (by decide) gs_HillsReader_94 dc_HillsReader_read_248 ?_
                  refine RO_acmp_ne (tgt := 261) dc_HillsReader_read_251 rfl ?_ ?_
                  · refine RO_aload_n dc_HillsReader_read_254 rfl rfl ?_
                    refine RO_callVi (As := []) (rest := []) mi_HillsReader_readMissed mv_HillsReader_readMissed ml_HillsReader_97 lk_3 (Nat.le_of_ble_eq_true rfl) rfl (Nat.le_of_ble_eq_true rfl) (fun _ => rfl) dc_HillsReader_read_255 (fun rq mq hq => pf_HillsReader_readMissed   m2 hq) (fun r27 m28 => ?_)
                    refine RO_goto (tgt := 269) dc_HillsReader_read_258 rfl ?_
                    refine RO_sub ?_ (rb_HillsReader_read_269 p1 hk_p1 k28 H28 v3 r27 m28)
                    exact ⟨rfl, rfl, trivial⟩
                  · refine RO_aload_n dc_HillsReader_read_261 rfl rfl ?_
                    refine RO_getR (b := 1) gf_HillsReader_9 lk_3 rfl dc_HillsReader_read_262 ?_
                    refine RO_iconst dc_HillsReader_read_265 ?_
                    refine RO_callVi (As := [vi 1]) (rest := []) mi_Tape_wrong mv_Tape_wrong ml_HillsReader_100 lk_1 (Nat.le_of_ble_eq_true rfl) rfl (Nat.le_of_ble_eq_true rfl) (fun _ => rfl) dc_HillsReader_read_266 (fun rq mq hq => pf_Tape_wrong 1  m2 hq) (fun r29 m30 => ?_)
                    refine RO_sub ?_ (rb_HillsReader_read_269 p1 hk_p1 k28 H28 v3 r29 m30)
                    exact ⟨rfl, rfl, trivial⟩
      · refine RO_sub ?_ (rb_HillsReader_read_276 p1 hk_p1 m2)
        exact ⟨rfl, trivial⟩
  · refine RO_sub ?_ (rb_HillsReader_read_276 p1 hk_p1 mem)
    exact ⟨rfl, trivial⟩
def lp_HillsReader_read_28 (p1 : Nat)  : Nat → Int → Int → Mm → Res
  | 0 => fun _ _ _ => none
  | n + 1 => bo_HillsReader_read_28 p1  (lp_HillsReader_read_28 p1  n)
theorem rp_HillsReader_read_28 {E : EE} (p1 : Nat) (hk_p1 : ly_k p1 = (0, 15))   : ∀ (n : Nat) (v2 : Int) (v3 : Int)  (mem : Mm), RO E mt_HillsReader_read (lp_HillsReader_read_28 p1  n v2 v3 mem) 28 [(0, rf 3), (2, vi v2), (3, vi v3)] [] mem := by
  intro n
  induction n with
  | zero => intro v2 v3  mem; exact RO_none
  | succ n ih => intro v2 v3  mem; exact rb_HillsReader_read_28 p1 hk_p1  (lp_HillsReader_read_28 p1  n)  ih v2 v3  mem
def fn_HillsReader_read (p1 : Nat) (mem : Mm) : Res := bn (mst mem 3 1 (((p1 : Nat) : Int))) fun m1 => if isK 0 (m1 3 1) = true then bd (fn_Hills_begin (m1 3 1).toNat m1) fun r3 m4 => bn (mst m4 3 2 0) fun m5 => bd (fn_Tape_open  m5) fun r6 m7 => lp_HillsReader_read_28 p1 FU 1 0 m7 else none
set_option maxHeartbeats 4000000 in
theorem pf_HillsReader_read {E : EE} (p1 : Nat) (hk_p1 : ly_k p1 = (0, 15)) (mem : Mm) {r : Int} {mem9 : Mm} (h : fn_HillsReader_read p1 mem = some (r, mem9)) : MetX E 48 yn_HillsReader_read cd_HillsReader_read 5 (some .int) [rf 3, rf p1] mem r mem9 := by
  refine RO_met (y := yn_HillsReader_read) (by decide +kernel) (Nat.le_of_ble_eq_true rfl) ?_ h
  show RO E mt_HillsReader_read (fn_HillsReader_read p1 mem) 0 [(0, rf 3), (1, rf p1)] [] mem
  unfold fn_HillsReader_read
  refine RO_aload_n dc_HillsReader_read_0 rfl rfl ?_
  refine RO_aload_n dc_HillsReader_read_1 rfl rfl ?_
  refine RO_putM gp_HillsReader_15 lk_3 dc_HillsReader_read_2 ?_
  refine RO_bnM (fun m1 => ?_)
  refine RO_aload_n dc_HillsReader_read_5 rfl rfl ?_
  refine RO_chk (fun hz2 => ?_)
  refine RO_getM gf_HillsReader_15 lk_3 (isK_0 hz2) dc_HillsReader_read_6 ?_
  refine RO_callNv (As := []) (rest := []) mi_Hills_begin mv_Hills_begin mn_HillsReader_19 (kd_0 hz2) (Nat.le_of_ble_eq_true rfl) rfl (Nat.le_of_ble_eq_true rfl) dc_HillsReader_read_9 (fun rq mq hq => pf_Hills_begin (m1 3 1).toNat (kd_0 hz2) m1 hq) (fun r3 m4 => ?_)
  refine RO_aload_n dc_HillsReader_read_12 rfl rfl ?_
  refine RO_iconst dc_HillsReader_read_13 ?_
  refine RO_putZ gp_HillsReader_24 lk_3 (Or.inl rfl) dc_HillsReader_read_14 ?_
  refine RO_bnM (fun m5 => ?_)
  refine RO_aload_n dc_HillsReader_read_17 rfl rfl ?_
  refine RO_getR (b := 1) gf_HillsReader_9 lk_3 rfl dc_HillsReader_read_18 ?_
  refine RO_callVv (As := []) (rest := []) mi_Tape_open mv_Tape_open ml_HillsReader_28 lk_1 (Nat.le_of_ble_eq_true rfl) rfl (Nat.le_of_ble_eq_true rfl) dc_HillsReader_read_21 (fun rq mq hq => pf_Tape_open   m5 hq) (fun r6 m7 => ?_)
  refine RO_iconst dc_HillsReader_read_24 ?_
  refine RO_istore_n dc_HillsReader_read_25 rfl (Nat.le_of_ble_eq_true rfl) ?_
  refine RO_iconst dc_HillsReader_read_26 ?_
  refine RO_istore_n dc_HillsReader_read_27 rfl (Nat.le_of_ble_eq_true rfl) ?_
  refine RO_sub ?_ (rp_HillsReader_read_28 p1 hk_p1 FU 1 0 m7)
  exact ⟨rfl, rfl, rfl, trivial⟩
