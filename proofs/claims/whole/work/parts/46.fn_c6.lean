def bo_Clock_sets_171 (p1 : Int) (p2 : Int)  (v3 : Int) (mem : Mm) : Res := if p2 = 0 then (some (v3, mem)) else (some ((-1), mem))
set_option maxHeartbeats 4000000 in
theorem rb_Clock_sets_171 {E : EE} (p1 : Int) (p2 : Int)    (v3 : Int)  (mem : Mm) : RO E mt_Clock_sets (bo_Clock_sets_171 p1 p2  v3 mem) 171 [(2, vi p2), (3, vi v3)] [] mem := by
  unfold bo_Clock_sets_171
  refine RO_iload_n dc_Clock_sets_171 rfl rfl ?_
  refine RO_if_ne (tgt := 179) dc_Clock_sets_172 rfl ?_ ?_
  · refine RO_iload_n dc_Clock_sets_175 rfl rfl ?_
    refine RO_goto (tgt := 180) dc_Clock_sets_176 rfl ?_
    exact RO_iret rfl dc_Clock_sets_180
  · refine RO_iconst dc_Clock_sets_179 ?_
    exact RO_iret rfl dc_Clock_sets_180
def bo_Clock_sets_163 (p1 : Int) (p2 : Int)  (v3 : Int) (v4 : Int) (v5 : Int) (v6 : Int) (mem : Mm) : Res := if p2 = 0 then (bo_Clock_sets_171 p1 p2 v3 mem) else (if v3 = 0 then (bo_Clock_sets_171 p1 p2 v3 mem) else (if p2 = 3 then (some (v6, mem)) else (if p2 = 1 then (some (v4, mem)) else (some (v5, mem)))))
set_option maxHeartbeats 4000000 in
theorem rb_Clock_sets_163 {E : EE} (p1 : Int) (p2 : Int)    (v3 : Int) (v4 : Int) (v5 : Int) (v6 : Int)  (mem : Mm) : RO E mt_Clock_sets (bo_Clock_sets_163 p1 p2  v3 v4 v5 v6 mem) 163 [(2, vi p2), (3, vi v3), (4, vi v4), (5, vi v5), (6, vi v6)] [] mem := by
  unfold bo_Clock_sets_163
  refine RO_iload_n dc_Clock_sets_163 rfl rfl ?_
  refine RO_if_eq (tgt := 171) dc_Clock_sets_164 rfl ?_ ?_
  · refine RO_sub ?_ (rb_Clock_sets_171 p1 p2 v3 mem)
    exact ⟨rfl, rfl, trivial⟩
  · refine RO_iload_n dc_Clock_sets_167 rfl rfl ?_
    refine RO_if_ne (tgt := 181) dc_Clock_sets_168 rfl ?_ ?_
    · refine RO_sub ?_ (rb_Clock_sets_171 p1 p2 v3 mem)
      exact ⟨rfl, rfl, trivial⟩
    · refine RO_iload_n dc_Clock_sets_181 rfl rfl ?_
      refine RO_iconst dc_Clock_sets_182 ?_
      refine RO_icmp_ne (tgt := 189) dc_Clock_sets_183 rfl ?_ ?_
      · refine RO_iload dc_Clock_sets_186 rfl ?_
        exact RO_iret rfl dc_Clock_sets_188
      · refine RO_iload_n dc_Clock_sets_189 rfl rfl ?_
        refine RO_iconst dc_Clock_sets_190 ?_
        refine RO_icmp_ne (tgt := 199) dc_Clock_sets_191 rfl ?_ ?_
        · refine RO_iload dc_Clock_sets_194 rfl ?_
          refine RO_goto (tgt := 201) dc_Clock_sets_196 rfl ?_
          exact RO_iret rfl dc_Clock_sets_201
        · refine RO_iload dc_Clock_sets_199 rfl ?_
          exact RO_iret rfl dc_Clock_sets_201
def bo_Clock_sets_157 (p1 : Int) (p2 : Int) (k46 : Int → Int → Int → Int → Int → Mm → Res) (v3 : Int) (v4 : Int) (v5 : Int) (v6 : Int) (v7 : Int) (mem : Mm) : Res := k46 v3 v4 v5 v6 (w32 (v7 + 1)) mem
set_option maxHeartbeats 4000000 in
theorem rb_Clock_sets_157 {E : EE} (p1 : Int) (p2 : Int)  (k46 : Int → Int → Int → Int → Int → Mm → Res) (H46 : ∀ (v3 : Int) (v4 : Int) (v5 : Int) (v6 : Int) (v7 : Int)  (mem : Mm), RO E mt_Clock_sets (k46 v3 v4 v5 v6 v7 mem) 46 [(0, rf 0), (1, vi p1), (2, vi p2), (3, vi v3), (4, vi v4), (5, vi v5), (6, vi v6), (7, vi v7)] [] mem) (v3 : Int) (v4 : Int) (v5 : Int) (v6 : Int) (v7 : Int)  (mem : Mm) : RO E mt_Clock_sets (bo_Clock_sets_157 p1 p2 k46 v3 v4 v5 v6 v7 mem) 157 [(0, rf 0), (1, vi p1), (2, vi p2), (3, vi v3), (4, vi v4), (5, vi v5), (6, vi v6), (7, vi v7)] [] mem := by
  unfold bo_Clock_sets_157
  refine RO_iinc dc_Clock_sets_157 rfl (Nat.le_of_ble_eq_true rfl) ?_
  refine RO_goto (tgt := 46) dc_Clock_sets_160 rfl ?_
  refine RO_sub ?_ (H46 v3 v4 v5 v6 (w32 (v7 + 1)) mem)
  exact ⟨rfl, rfl, rfl, rfl, rfl, rfl, rfl, rfl, trivial⟩
def bo_Clock_sets_153 (p1 : Int) (p2 : Int) (k46 : Int → Int → Int → Int → Int → Mm → Res) (v3 : Int) (v4 : Int) (v5 : Int) (v7 : Int) (mem : Mm) : Res := bo_Clock_sets_157 p1 p2 k46 v3 v4 v5 v7 v7 mem
set_option maxHeartbeats 4000000 in
theorem rb_Clock_sets_153 {E : EE} (p1 : Int) (p2 : Int)  (k46 : Int → Int → Int → Int → Int → Mm → Res) (H46 : ∀ (v3 : Int) (v4 : Int) (v5 : Int) (v6 : Int) (v7 : Int)  (mem : Mm), RO E mt_Clock_sets (k46 v3 v4 v5 v6 v7 mem) 46 [(0, rf 0), (1, vi p1), (2, vi p2), (3, vi v3), (4, vi v4), (5, vi v5), (6, vi v6), (7, vi v7)] [] mem) (v3 : Int) (v4 : Int) (v5 : Int) (v7 : Int)  (mem : Mm) : RO E mt_Clock_sets (bo_Clock_sets_153 p1 p2 k46 v3 v4 v5 v7 mem) 153 [(0, rf 0), (1, vi p1), (2, vi p2), (3, vi v3), (4, vi v4), (5, vi v5), (7, vi v7)] [] mem := by
  unfold bo_Clock_sets_153
  refine RO_iload dc_Clock_sets_153 rfl ?_
  refine RO_istore dc_Clock_sets_155 (Nat.le_of_ble_eq_true rfl) ?_
  refine RO_sub ?_ (rb_Clock_sets_157 p1 p2 k46 H46 v3 v4 v5 v7 v7 mem)
  exact ⟨rfl, rfl, rfl, rfl, rfl, rfl, rfl, rfl, trivial⟩
def bo_Clock_sets_46 (p1 : Int) (p2 : Int) (k46 : Int → Int → Int → Int → Int → Mm → Res) (v3 : Int) (v4 : Int) (v5 : Int) (v6 : Int) (v7 : Int) (mem : Mm) : Res := if isK 0 (mem 0 2) = true then if v7 < (ishl 1 (mem (mem 0 2).toNat 1)) then (bd (fn_State_copy 95 83 mem) fun r2 m3 => bd (fn_State_delay 95 v7 p1 m3) fun r4 m5 => if isK 0 (m5 0 2) = true then bd (fn_Walk_go (m5 0 2).toNat 95 m5) fun r7 m8 => if isK 0 (m8 0 2) = true then bd (fn_Standing_isAsTold 82 (m8 0 2).toNat m8) fun r10 m11 => if r10 = 0 then (bo_Clock_sets_157 p1 p2 k46 v3 v4 v5 v6 v7 m11) else (bn (iand v4 v7) fun x12 => bn (ior v5 v7) fun x13 => if v6 = (-1) then (bo_Clock_sets_153 p1 p2 k46 (w32 (v3 + 1)) x12 x13 v7 m11) else (bd (fn_Integer_bitCount v7 m11) fun r14 m15 => bd (fn_Integer_bitCount v6 m15) fun r16 m17 => if r14 < r16 then (bo_Clock_sets_153 p1 p2 k46 (w32 (v3 + 1)) x12 x13 v7 m17) else (bo_Clock_sets_157 p1 p2 k46 (w32 (v3 + 1)) x12 x13 v6 v7 m17))) else none else none) else (bo_Clock_sets_163 p1 p2 v3 v4 v5 v6 mem) else none
set_option maxHeartbeats 4000000 in
theorem rb_Clock_sets_46 {E : EE} (p1 : Int) (p2 : Int)  (k46 : Int → Int → Int → Int → Int → Mm → Res) (H46 : ∀ (v3 : Int) (v4 : Int) (v5 : Int) (v6 : Int) (v7 : Int)  (mem : Mm), RO E mt_Clock_sets (k46 v3 v4 v5 v6 v7 mem) 46 [(0, rf 0), (1, vi p1), (2, vi p2), (3, vi v3), (4, vi v4), (5, vi v5), (6, vi v6), (7, vi v7)] [] mem) (v3 : Int) (v4 : Int) (v5 : Int) (v6 : Int) (v7 : Int)  (mem : Mm) : RO E mt_Clock_sets (bo_Clock_sets_46 p1 p2 k46 v3 v4 v5 v6 v7 mem) 46 [(0, rf 0), (1, vi p1), (2, vi p2), (3, vi v3), (4, vi v4), (5, vi v5), (6, vi v6), (7, vi v7)] [] mem := by
  unfold bo_Clock_sets_46
  refine RO_iload dc_Clock_sets_46 rfl ?_
  refine RO_iconst dc_Clock_sets_48 ?_
  refine RO_aload_n dc_Clock_sets_49 rfl rfl ?_
  refine RO_chk (fun hz1 => ?_)
  refine RO_getM gf_Clock_28 lk_0 (isK_0 hz1) dc_Clock_sets_50 ?_
  refine RO_getI gf_Clock_282 (kd_0 hz1) dc_Clock_sets_53 ?_
  refine RO_ishl dc_Clock_sets_56 ?_
  refine RO_icmp_ge (tgt := 163) dc_Clock_sets_57 rfl ?_ ?_
  · refine RO_aload_n dc_Clock_sets_60 rfl rfl ?_
    refine RO_getR (b := 95) gf_Clock_60 lk_0 rfl dc_Clock_sets_61 ?_
    refine RO_aload_n dc_Clock_sets_64 rfl rfl ?_
    refine RO_getR (b := 82) gf_Clock_45 lk_0 rfl dc_Clock_sets_65 ?_
    refine RO_getR (b := 83) gf_Clock_143 lk_82 rfl dc_Clock_sets_68 ?_
    refine RO_callVv (As := [rf 83]) (rest := []) mi_State_copy mv_State_copy ml_Clock_222 lk_95 (Nat.le_of_ble_eq_true rfl) rfl (Nat.le_of_ble_eq_true rfl) dc_Clock_sets_71 (fun rq mq hq => pf_State_copy 95 83 lk_95 lk_83 mem hq) (fun r2 m3 => ?_)
    refine RO_aload_n dc_Clock_sets_74 rfl rfl ?_
    refine RO_getR (b := 95) gf_Clock_60 lk_0 rfl dc_Clock_sets_75 ?_
    refine RO_iload dc_Clock_sets_78 rfl ?_
    refine RO_iload_n dc_Clock_sets_80 rfl rfl ?_
    refine RO_callVv (As := [vi v7, vi p1]) (rest := []) mi_State_delay mv_State_delay ml_Clock_295 lk_95 (Nat.le_of_ble_eq_true rfl) rfl (Nat.le_of_ble_eq_true rfl) dc_Clock_sets_81 (fun rq mq hq => pf_State_delay 95 v7 p1 lk_95 m3 hq) (fun r4 m5 => ?_)
    refine RO_aload_n dc_Clock_sets_84 rfl rfl ?_
    refine RO_getR (b := 98) gf_Clock_67 lk_0 rfl dc_Clock_sets_85 ?_
    refine RO_aload_n dc_Clock_sets_88 rfl rfl ?_
    refine RO_chk (fun hz6 => ?_)
    refine RO_getM gf_Clock_28 lk_0 (isK_0 hz6) dc_Clock_sets_89 ?_
    refine RO_aload_n dc_Clock_sets_92 rfl rfl ?_
    refine RO_getR (b := 95) gf_Clock_60 lk_0 rfl dc_Clock_sets_93 ?_
    refine RO_callVv (As := [rf (m5 0 2).toNat, rf 95]) (rest := []) mi_Walk_go mv_Walk_go ml_Clock_161 lk_98 (Nat.le_of_ble_eq_true rfl) rfl (Nat.le_of_ble_eq_true rfl) dc_Clock_sets_96 (fun rq mq hq => pf_Walk_go (m5 0 2).toNat 95 (kd_0 hz6) lk_95 m5 hq) (fun r7 m8 => ?_)
    refine RO_aload_n dc_Clock_sets_99 rfl rfl ?_
    refine RO_getR (b := 82) gf_Clock_45 lk_0 rfl dc_Clock_sets_100 ?_
    refine RO_aload_n dc_Clock_sets_103 rfl rfl ?_
    refine RO_chk (fun hz9 => ?_)
    refine RO_getM gf_Clock_28 lk_0 (isK_0 hz9) dc_Clock_sets_104 ?_
    refine RO_aload_n dc_Clock_sets_107 rfl rfl ?_
    refine RO_getR (b := 98) gf_Clock_67 lk_0 rfl dc_Clock_sets_108 ?_
    refine RO_callVi (As := [rf (m8 0 2).toNat, rf 98]) (rest := []) mi_Standing_isAsTold mv_Standing_isAsTold ml_Clock_299 lk_82 (Nat.le_of_ble_eq_true rfl) rfl (Nat.le_of_ble_eq_true rfl) (fun _ => rfl) dc_Clock_sets_111 (fun rq mq hq => pf_Standing_isAsTold 82 (m8 0 2).toNat lk_82 (kd_0 hz9) m8 hq) (fun r10 m11 => ?_)
    refine RO_if_eq (tgt := 157) dc_Clock_sets_114 rfl ?_ ?_
    · refine RO_sub ?_ (rb_Clock_sets_157 p1 p2 k46 H46 v3 v4 v5 v6 v7 m11)
      exact ⟨rfl, rfl, rfl, rfl, rfl, rfl, rfl, rfl, trivial⟩
    · refine RO_iinc dc_Clock_sets_117 rfl (Nat.le_of_ble_eq_true rfl) ?_
      refine RO_iload dc_Clock_sets_120 rfl ?_
      refine RO_iload dc_Clock_sets_122 rfl ?_
      refine RO_iand dc_Clock_sets_124 ?_
      refine RO_bnT (fun x12 => ?_)
      refine RO_istore dc_Clock_sets_125 (Nat.le_of_ble_eq_true rfl) ?_
      refine RO_iload dc_Clock_sets_127 rfl ?_
      refine RO_iload dc_Clock_sets_129 rfl ?_
      refine RO_ior dc_Clock_sets_131 ?_
      refine RO_bnT (fun x13 => ?_)
      refine RO_istore dc_Clock_sets_132 (Nat.le_of_ble_eq_true rfl) ?_
      refine RO_iload dc_Clock_sets_134 rfl ?_
      refine RO_iconst dc_Clock_sets_136 ?_
      refine RO_icmp_eq (tgt := 153) dc_Clock_sets_137 rfl ?_ ?_
      · refine RO_sub ?_ (rb_Clock_sets_153 p1 p2 k46 H46 (w32 (v3 + 1)) x12 x13 v7 m11)
        exact ⟨rfl, rfl, rfl, rfl, rfl, rfl, rfl, trivial⟩
      · refine RO_iload dc_Clock_sets_140 rfl ?_
        refine RO_callSi (As := [vi v7]) (rest := []) mi_Integer_bitCount ms_Integer_bitCount ml_Clock_303 (Nat.le_of_ble_eq_true rfl) rfl (Nat.le_of_ble_eq_true rfl) (fun _ => rfl) dc_Clock_sets_142 (fun rq mq hq => pf_Integer_bitCount v7  m11 hq) (fun r14 m15 => ?_)
        refine RO_iload dc_Clock_sets_145 rfl ?_
        refine RO_callSi (As := [vi v6]) (rest := [vi r14]) mi_Integer_bitCount ms_Integer_bitCount ml_Clock_303 (Nat.le_of_ble_eq_true rfl) rfl (Nat.le_of_ble_eq_true rfl) (fun _ => rfl) dc_Clock_sets_147 (fun rq mq hq => pf_Integer_bitCount v6  m15 hq) (fun r16 m17 => ?_)
        refine RO_icmp_ge (tgt := 157) dc_Clock_sets_150 rfl ?_ ?_
        · refine RO_sub ?_ (rb_Clock_sets_153 p1 p2 k46 H46 (w32 (v3 + 1)) x12 x13 v7 m17)
          exact ⟨rfl, rfl, rfl, rfl, rfl, rfl, rfl, trivial⟩
        · refine RO_sub ?_ (rb_Clock_sets_157 p1 p2 k46 H46 (w32 (v3 + 1)) x12 x13 v6 v7 m17)
          exact ⟨rfl, rfl, rfl, rfl, rfl, rfl, rfl, rfl, trivial⟩
  · refine RO_sub ?_ (rb_Clock_sets_163 p1 p2 v3 v4 v5 v6 mem)
    exact ⟨rfl, rfl, rfl, rfl, rfl, trivial⟩
def lp_Clock_sets_46 (p1 : Int) (p2 : Int)  : Nat → Int → Int → Int → Int → Int → Mm → Res
  | 0 => fun _ _ _ _ _ _ => none
  | n + 1 => bo_Clock_sets_46 p1 p2  (lp_Clock_sets_46 p1 p2  n)
theorem rp_Clock_sets_46 {E : EE} (p1 : Int) (p2 : Int)    : ∀ (n : Nat) (v3 : Int) (v4 : Int) (v5 : Int) (v6 : Int) (v7 : Int)  (mem : Mm), RO E mt_Clock_sets (lp_Clock_sets_46 p1 p2  n v3 v4 v5 v6 v7 mem) 46 [(0, rf 0), (1, vi p1), (2, vi p2), (3, vi v3), (4, vi v4), (5, vi v5), (6, vi v6), (7, vi v7)] [] mem := by
  intro n
  induction n with
  | zero => intro v3 v4 v5 v6 v7  mem; exact RO_none
  | succ n ih => intro v3 v4 v5 v6 v7  mem; exact rb_Clock_sets_46 p1 p2   (lp_Clock_sets_46 p1 p2  n)  ih v3 v4 v5 v6 v7  mem
def fn_Clock_sets (p1 : Int) (p2 : Int) (mem : Mm) : Res := if p1 < 1 then (some ((-1), mem)) else (if 60 < p1 then (some ((-1), mem)) else (if p2 < 0 then (some ((-1), mem)) else (if 3 < p2 then (some ((-1), mem)) else (if isK 0 (mem 0 2) = true then bn (w32 ((ishl 1 (mem (mem 0 2).toNat 1)) - 1)) fun x2 => lp_Clock_sets_46 p1 p2 FU 0 x2 0 (-1) 0 mem else none))))
set_option maxHeartbeats 4000000 in
theorem pf_Clock_sets {E : EE} (p1 : Int) (p2 : Int)  (mem : Mm) {r : Int} {mem9 : Mm} (h : fn_Clock_sets p1 p2 mem = some (r, mem9)) : MetX E 5 yn_Clock_sets cd_Clock_sets 8 (some .int) [rf 0, vi p1, vi p2] mem r mem9 := by
  refine RO_met (y := yn_Clock_sets) (by decide +kernel) (Nat.le_of_ble_eq_true rfl) ?_ h
  show RO E mt_Clock_sets (fn_Clock_sets p1 p2 mem) 0 [(0, rf 0), (1, vi p1), (2, vi p2)] [] mem
  unfold fn_Clock_sets
  refine RO_iload_n dc_Clock_sets_0 rfl rfl ?_
  refine RO_iconst dc_Clock_sets_1 ?_
  refine RO_icmp_lt (tgt := 20) dc_Clock_sets_2 rfl ?_ ?_
  · refine RO_iconst dc_Clock_sets_20 ?_
    exact RO_iret rfl dc_Clock_sets_21
  · refine RO_iload_n dc_Clock_sets_5 rfl rfl ?_
    refine RO_bipush dc_Clock_sets_6 ?_
    refine RO_icmp_gt (tgt := 20) dc_Clock_sets_8 rfl ?_ ?_
    · refine RO_iconst dc_Clock_sets_20 ?_
      exact RO_iret rfl dc_Clock_sets_21
    · refine RO_iload_n dc_Clock_sets_11 rfl rfl ?_
      refine RO_if_lt (tgt := 20) dc_Clock_sets_12 rfl ?_ ?_
      · refine RO_iconst dc_Clock_sets_20 ?_
        exact RO_iret rfl dc_Clock_sets_21
      · refine RO_iload_n dc_Clock_sets_15 rfl rfl ?_
        refine RO_iconst dc_Clock_sets_16 ?_
        refine RO_icmp_le (tgt := 22) dc_Clock_sets_17 rfl ?_ ?_
        · refine RO_iconst dc_Clock_sets_20 ?_
          exact RO_iret rfl dc_Clock_sets_21
        · refine RO_iconst dc_Clock_sets_22 ?_
          refine RO_istore_n dc_Clock_sets_23 rfl (Nat.le_of_ble_eq_true rfl) ?_
          refine RO_iconst dc_Clock_sets_24 ?_
          refine RO_aload_n dc_Clock_sets_25 rfl rfl ?_
          refine RO_chk (fun hz1 => ?_)
          refine RO_getM gf_Clock_28 lk_0 (isK_0 hz1) dc_Clock_sets_26 ?_
          refine RO_getI gf_Clock_282 (kd_0 hz1) dc_Clock_sets_29 ?_
          refine RO_ishl dc_Clock_sets_32 ?_
          refine RO_iconst dc_Clock_sets_33 ?_
          refine RO_isub dc_Clock_sets_34 ?_
          refine RO_bnT (fun x2 => ?_)
          refine RO_istore dc_Clock_sets_35 (Nat.le_of_ble_eq_true rfl) ?_
          refine RO_iconst dc_Clock_sets_37 ?_
          refine RO_istore dc_Clock_sets_38 (Nat.le_of_ble_eq_true rfl) ?_
          refine RO_iconst dc_Clock_sets_40 ?_
          refine RO_istore dc_Clock_sets_41 (Nat.le_of_ble_eq_true rfl) ?_
          refine RO_iconst dc_Clock_sets_43 ?_
          refine RO_istore dc_Clock_sets_44 (Nat.le_of_ble_eq_true rfl) ?_
          refine RO_sub ?_ (rp_Clock_sets_46 p1 p2 FU 0 x2 0 (-1) 0 mem)
          exact ⟨rfl, rfl, rfl, rfl, rfl, rfl, rfl, rfl, trivial⟩
def fn_Clock_lookRound  (mem : Mm) : Res := if isK 0 (mem 0 2) = true then bd (fn_Walk_go (mem 0 2).toNat 83 mem) fun r2 m3 => if isK 0 (m3 0 2) = true then bd (fn_Sight_take (m3 (m3 0 2).toNat 1) m3) fun r5 m6 => some (0, m6) else none else none
set_option maxHeartbeats 4000000 in
theorem pf_Clock_lookRound {E : EE}   (mem : Mm) {r : Int} {mem9 : Mm} (h : fn_Clock_lookRound  mem = some (r, mem9)) : MetX E 5 yn_Clock_lookRound cd_Clock_lookRound 1 none [rf 0] mem r mem9 := by
  refine RO_met (y := yn_Clock_lookRound) (by decide +kernel) (Nat.le_of_ble_eq_true rfl) ?_ h
  show RO E mt_Clock_lookRound (fn_Clock_lookRound  mem) 0 [(0, rf 0)] [] mem
  unfold fn_Clock_lookRound
  refine RO_aload_n dc_Clock_lookRound_0 rfl rfl ?_
  refine RO_getR (b := 98) gf_Clock_67 lk_0 rfl dc_Clock_lookRound_1 ?_
  refine RO_aload_n dc_Clock_lookRound_4 rfl rfl ?_
  refine RO_chk (fun hz1 => ?_)
  refine RO_getM gf_Clock_28 lk_0 (isK_0 hz1) dc_Clock_lookRound_5 ?_
  refine RO_aload_n dc_Clock_lookRound_8 rfl rfl ?_
  refine RO_getR (b := 82) gf_Clock_45 lk_0 rfl dc_Clock_lookRound_9 ?_
  refine RO_getR (b := 83) gf_Clock_143 lk_82 rfl dc_Clock_lookRound_12 ?_
  refine RO_callVv (As := [rf (mem 0 2).toNat, rf 83]) (rest := []) mi_Walk_go mv_Walk_go ml_Clock_161 lk_98 (Nat.le_of_ble_eq_true rfl) rfl (Nat.le_of_ble_eq_true rfl) dc_Clock_lookRound_15 (fun rq mq hq => pf_Walk_go (mem 0 2).toNat 83 (kd_0 hz1) lk_83 mem hq) (fun r2 m3 => ?_)
  refine RO_aload_n dc_Clock_lookRound_18 rfl rfl ?_
  refine RO_getR (b := 104) gf_Clock_74 lk_0 rfl dc_Clock_lookRound_19 ?_
  refine RO_aload_n dc_Clock_lookRound_22 rfl rfl ?_
  refine RO_getR (b := 98) gf_Clock_67 lk_0 rfl dc_Clock_lookRound_23 ?_
  refine RO_aload_n dc_Clock_lookRound_26 rfl rfl ?_
  refine RO_chk (fun hz4 => ?_)
  refine RO_getM gf_Clock_28 lk_0 (isK_0 hz4) dc_Clock_lookRound_27 ?_
  refine RO_getI gf_Clock_282 (kd_0 hz4) dc_Clock_lookRound_30 ?_
  refine RO_callVv (As := [rf 98, vi (m3 (m3 0 2).toNat 1)]) (rest := []) mi_Sight_take mv_Sight_take ml_Clock_346 lk_104 (Nat.le_of_ble_eq_true rfl) rfl (Nat.le_of_ble_eq_true rfl) dc_Clock_lookRound_33 (fun rq mq hq => pf_Sight_take (m3 (m3 0 2).toNat 1)  m3 hq) (fun r5 m6 => ?_)
  exact RO_vret rfl dc_Clock_lookRound_36
def bo_Tape_step_47    (mem : Mm) : Res := bn (mst mem 1 8 (mem 1 7)) fun m1 => bn (mst m1 1 2 (-1)) fun m2 => if (m2 1 7) < (m2 1 0) then (if 0 ≤ m2 1 7 ∧ m2 1 7 < 1000 then bd (fn_Tape_isLetter (m2 2 (m2 1 7).toNat) m2) fun r4 m5 => if r4 = 0 then (if 0 ≤ m5 1 7 ∧ m5 1 7 < 1000 then bd (fn_Tape_isDigit (m5 2 (m5 1 7).toNat) m5) fun r7 m8 => if r7 = 0 then (bn (mst m8 1 8 (w32 ((m8 1 7) + 1))) fun m9 => if 0 ≤ m9 1 7 ∧ m9 1 7 < 1000 then bd (fn_String_indexOf (m9 2 (m9 1 7).toNat) m9) fun r11 m12 => if r11 < 0 then (bn (mst m12 1 6 0) fun m13 => some (0, m13)) else (bn (mst m12 1 6 4) fun m14 => some (0, m14)) else none) else (bd (fn_Tape_stepOverNumber  m8) fun r15 m16 => some (0, m16)) else none) else (bd (fn_Tape_stepOverWord  m5) fun r17 m18 => some (0, m18)) else none) else (bn (mst m2 1 6 1) fun m19 => some (0, m19))
set_option maxHeartbeats 4000000 in
theorem rb_Tape_step_47 {E : EE}       (mem : Mm) : RO E mt_Tape_step (bo_Tape_step_47    mem) 47 [(0, rf 1)] [] mem := by
  unfold bo_Tape_step_47
  refine RO_aload_n dc_Tape_step_47 rfl rfl ?_
  refine RO_aload_n dc_Tape_step_48 rfl rfl ?_
  refine RO_getI gf_Tape_34 lk_1 dc_Tape_step_49 ?_
  refine RO_putI gp_Tape_28 lk_1 dc_Tape_step_52 ?_
  refine RO_bnM (fun m1 => ?_)
  refine RO_aload_n dc_Tape_step_55 rfl rfl ?_
  refine RO_null dc_Tape_step_56 ?_
  refine RO_putW gp_Tape_37 lk_1 dc_Tape_step_57 ?_
  refine RO_bnM (fun m2 => ?_)
  refine RO_aload_n dc_Tape_step_60 rfl rfl ?_
  refine RO_getI gf_Tape_34 lk_1 dc_Tape_step_61 ?_
  refine RO_aload_n dc_Tape_step_64 rfl rfl ?_
  refine RO_getI gf_Tape_21 lk_1 dc_Tape_step_65 ?_
  refine RO_icmp_lt (tgt := 79) dc_Tape_step_68 rfl ?_ ?_
  · refine RO_aload_n dc_Tape_step_79 rfl rfl ?_
    refine RO_getR (b := 2) gf_Tape_9 lk_1 rfl dc_Tape_step_80 ?_
    refine RO_aload_n dc_Tape_step_83 rfl rfl ?_
    refine RO_getI gf_Tape_34 lk_1 dc_Tape_step_84 ?_
    refine RO_chk (fun hi3 => ?_)
    refine RO_ca lk_2 hi3 dc_Tape_step_87 ?_
    refine RO_callSi (As := [vi (m2 2 (m2 1 7).toNat)]) (rest := []) mi_Tape_isLetter ms_Tape_isLetter ml_Tape_44 (Nat.le_of_ble_eq_true rfl) rfl (Nat.le_of_ble_eq_true rfl) (fun _ => rfl) dc_Tape_step_88 (fun rq mq hq => pf_Tape_isLetter (m2 2 (m2 1 7).toNat)  m2 hq) (fun r4 m5 => ?_)
    refine RO_if_eq (tgt := 101) dc_Tape_step_91 rfl ?_ ?_
    · refine RO_aload_n dc_Tape_step_101 rfl rfl ?_
      refine RO_getR (b := 2) gf_Tape_9 lk_1 rfl dc_Tape_step_102 ?_
      refine RO_aload_n dc_Tape_step_105 rfl rfl ?_
      refine RO_getI gf_Tape_34 lk_1 dc_Tape_step_106 ?_
      refine RO_chk (fun hi6 => ?_)
      refine RO_ca lk_2 hi6 dc_Tape_step_109 ?_
      refine RO_callSi (As := [vi (m5 2 (m5 1 7).toNat)]) (rest := []) mi_Tape_isDigit ms_Tape_isDigit ml_Tape_50 (Nat.le_of_ble_eq_true rfl) rfl (Nat.le_of_ble_eq_true rfl) (fun _ => rfl) dc_Tape_step_110 (fun rq mq hq => pf_Tape_isDigit (m5 2 (m5 1 7).toNat)  m5 hq) (fun r7 m8 => ?_)
      refine RO_if_eq (tgt := 123) dc_Tape_step_113 rfl ?_ ?_
      · refine RO_aload_n dc_Tape_step_123 rfl rfl ?_
        refine RO_aload_n dc_Tape_step_124 rfl rfl ?_
        refine RO_getI gf_Tape_34 lk_1 dc_Tape_step_125 ?_
        refine RO_iconst dc_Tape_step_128 ?_
        refine RO_iadd dc_Tape_step_129 ?_
        refine RO_putI gp_Tape_28 lk_1 dc_Tape_step_130 ?_
        refine RO_bnM (fun m9 => ?_)
        refine RO_aload_n dc_Tape_step_133 rfl rfl ?_
        refine RO_ldcS rfl dc_Tape_step_134 ?_
        refine RO_aload_n dc_Tape_step_136 rfl rfl ?_
        refine RO_getR (b := 2) gf_Tape_9 lk_1 rfl dc_Tape_step_137 ?_
        refine RO_aload_n dc_Tape_step_140 rfl rfl ?_
        refine RO_getI gf_Tape_34 lk_1 dc_Tape_step_141 ?_
        refine RO_chk (fun hi10 => ?_)
        refine RO_ca lk_2 hi10 dc_Tape_step_144 ?_
        refine RO_callK (As := [vi (m9 2 (m9 1 7).toNat)]) (rest := [rf 1]) mi_String_indexOf mk_String_indexOf ml_Tape_58 (Nat.le_of_ble_eq_true rfl) rfl (Nat.le_of_ble_eq_true rfl) (fun _ => rfl) dc_Tape_step_145 (fun rq mq hq => pf_String_indexOf (m9 2 (m9 1 7).toNat)  m9 hq) (fun r11 m12 => ?_)
        refine RO_if_lt (tgt := 155) dc_Tape_step_148 rfl ?_ ?_
        · refine RO_iconst dc_Tape_step_155 ?_
          refine RO_putI gp_Tape_41 lk_1 dc_Tape_step_156 ?_
          refine RO_bnM (fun m13 => ?_)
          exact RO_vret rfl dc_Tape_step_159
        · refine RO_iconst dc_Tape_step_151 ?_
          refine RO_goto (tgt := 156) dc_Tape_step_152 rfl ?_
          refine RO_putI gp_Tape_41 lk_1 dc_Tape_step_156 ?_
          refine RO_bnM (fun m14 => ?_)
          exact RO_vret rfl dc_Tape_step_159
      · refine RO_aload_n dc_Tape_step_116 rfl rfl ?_
        refine RO_callVv (As := []) (rest := []) mi_Tape_stepOverNumber mv_Tape_stepOverNumber ml_Tape_53 lk_1 (Nat.le_of_ble_eq_true rfl) rfl (Nat.le_of_ble_eq_true rfl) dc_Tape_step_117 (fun rq mq hq => pf_Tape_stepOverNumber   m8 hq) (fun r15 m16 => ?_)
        refine RO_goto (tgt := 159) dc_Tape_step_120 rfl ?_
        exact RO_vret rfl dc_Tape_step_159
    · refine RO_aload_n dc_Tape_step_94 rfl rfl ?_
      refine RO_callVv (As := []) (rest := []) mi_Tape_stepOverWord mv_Tape_stepOverWord ml_Tape_47 lk_1 (Nat.le_of_ble_eq_true rfl) rfl (Nat.le_of_ble_eq_true rfl) dc_Tape_step_95 (fun rq mq hq => pf_Tape_stepOverWord   m5 hq) (fun r17 m18 => ?_)
      refine RO_goto (tgt := 159) dc_Tape_step_98 rfl ?_
      exact RO_vret rfl dc_Tape_step_159
  · refine RO_aload_n dc_Tape_step_71 rfl rfl ?_
    refine RO_iconst dc_Tape_step_72 ?_
    refine RO_putI gp_Tape_41 lk_1 dc_Tape_step_73 ?_
    refine RO_bnM (fun m19 => ?_)
    refine RO_goto (tgt := 159) dc_Tape_step_76 rfl ?_
    exact RO_vret rfl dc_Tape_step_159
def bo_Tape_step_8  (k8 : Mm → Res)  (mem : Mm) : Res := if (mem 1 7) < (mem 1 0) then (if 0 ≤ mem 1 7 ∧ mem 1 7 < 1000 then bd (fn_Tape_isBlank (mem 2 (mem 1 7).toNat) mem) fun r2 m3 => if r2 = 0 then (bo_Tape_step_47 m3) else (bn (mst m3 1 7 (w32 ((m3 1 7) + 1))) fun m4 => k8 m4) else none) else (bo_Tape_step_47 mem)
set_option maxHeartbeats 4000000 in
theorem rb_Tape_step_8 {E : EE}   (k8 : Mm → Res) (H8 : ∀   (mem : Mm), RO E mt_Tape_step (k8  mem) 8 [(0, rf 1)] [] mem)   (mem : Mm) : RO E mt_Tape_step (bo_Tape_step_8  k8  mem) 8 [(0, rf 1)] [] mem := by
  unfold bo_Tape_step_8
  refine RO_aload_n dc_Tape_step_8 rfl rfl ?_
  refine RO_getI gf_Tape_34 lk_1 dc_Tape_step_9 ?_
  refine RO_aload_n dc_Tape_step_12 rfl rfl ?_
  refine RO_getI gf_Tape_21 lk_1 dc_Tape_step_13 ?_
  refine RO_icmp_ge (tgt := 47) dc_Tape_step_16 rfl ?_ ?_
  · refine RO_aload_n dc_Tape_step_19 rfl rfl ?_
    refine RO_getR (b := 2) gf_Tape_9 lk_1 rfl dc_Tape_step_20 ?_
    refine RO_aload_n dc_Tape_step_23 rfl rfl ?_
    refine RO_getI gf_Tape_34 lk_1 dc_Tape_step_24 ?_
    refine RO_chk (fun hi1 => ?_)
    refine RO_ca lk_2 hi1 dc_Tape_step_27 ?_
    refine RO_callSi (As := [vi (mem 2 (mem 1 7).toNat)]) (rest := []) mi_Tape_isBlank ms_Tape_isBlank ml_Tape_17 (Nat.le_of_ble_eq_true rfl) rfl (Nat.le_of_ble_eq_true rfl) (fun _ => rfl) dc_Tape_step_28 (fun rq mq hq => pf_Tape_isBlank (mem 2 (mem 1 7).toNat)  mem hq) (fun r2 m3 => ?_)
    refine RO_if_eq (tgt := 47) dc_Tape_step_31 rfl ?_ ?_
    · refine RO_sub ?_ (rb_Tape_step_47 m3)
      exact ⟨rfl, trivial⟩
    · refine RO_aload_n dc_Tape_step_34 rfl rfl ?_
      refine RO_dup dc_Tape_step_35 (nt2 _) ?_
      refine RO_getI gf_Tape_34 lk_1 dc_Tape_step_36 ?_
      refine RO_iconst dc_Tape_step_39 ?_
      refine RO_iadd dc_Tape_step_40 ?_
      refine RO_putI gp_Tape_34 lk_1 dc_Tape_step_41 ?_
      refine RO_bnM (fun m4 => ?_)
      refine RO_goto (tgt := 8) dc_Tape_step_44 rfl ?_
      refine RO_sub ?_ (H8 m4)
      exact ⟨rfl, trivial⟩
  · refine RO_sub ?_ (rb_Tape_step_47 mem)
    exact ⟨rfl, trivial⟩
def lp_Tape_step_8   : Nat → Mm → Res
  | 0 => fun _ => none
  | n + 1 => bo_Tape_step_8   (lp_Tape_step_8   n)
theorem rp_Tape_step_8 {E : EE}     : ∀ (n : Nat)   (mem : Mm), RO E mt_Tape_step (lp_Tape_step_8   n  mem) 8 [(0, rf 1)] [] mem := by
  intro n
  induction n with
  | zero => intro   mem; exact RO_none
  | succ n ih => intro   mem; exact rb_Tape_step_8    (lp_Tape_step_8   n)  ih   mem
def fn_Tape_step  (mem : Mm) : Res := bn (mst mem 1 7 (mem 1 8)) fun m1 => lp_Tape_step_8 FU m1
set_option maxHeartbeats 4000000 in
theorem pf_Tape_step {E : EE}   (mem : Mm) {r : Int} {mem9 : Mm} (h : fn_Tape_step  mem = some (r, mem9)) : MetX E 5 yn_Tape_step cd_Tape_step 1 none [rf 1] mem r mem9 := by
  refine RO_met (y := yn_Tape_step) (by decide +kernel) (Nat.le_of_ble_eq_true rfl) ?_ h
  show RO E mt_Tape_step (fn_Tape_step  mem) 0 [(0, rf 1)] [] mem
  unfold fn_Tape_step
  refine RO_aload_n dc_Tape_step_0 rfl rfl ?_
  refine RO_aload_n dc_Tape_step_1 rfl rfl ?_
  refine RO_getI gf_Tape_28 lk_1 dc_Tape_step_2 ?_
  refine RO_putI gp_Tape_34 lk_1 dc_Tape_step_5 ?_
  refine RO_bnM (fun m1 => ?_)
  refine RO_sub ?_ (rp_Tape_step_8 FU m1)
  exact ⟨rfl, trivial⟩
def bo_Walk_costs_4  (k4 : Int → Int → Mm → Res) (v1 : Int) (v2 : Int) (mem : Mm) : Res := if isK 0 (mem 98 0) = true then if v2 < (mem (mem 98 0).toNat 2) then (bd (fn_Walk_cost v2 mem) fun r2 m3 => bn (w32 (v1 + r2)) fun x4 => k4 x4 (w32 (v2 + 1)) m3) else (some (v1, mem)) else none
set_option maxHeartbeats 4000000 in
theorem rb_Walk_costs_4 {E : EE}   (k4 : Int → Int → Mm → Res) (H4 : ∀ (v1 : Int) (v2 : Int)  (mem : Mm), RO E mt_Walk_costs (k4 v1 v2 mem) 4 [(0, rf 98), (1, vi v1), (2, vi v2)] [] mem) (v1 : Int) (v2 : Int)  (mem : Mm) : RO E mt_Walk_costs (bo_Walk_costs_4  k4 v1 v2 mem) 4 [(0, rf 98), (1, vi v1), (2, vi v2)] [] mem := by
  unfold bo_Walk_costs_4
  refine RO_iload_n dc_Walk_costs_4 rfl rfl ?_
  refine RO_aload_n dc_Walk_costs_5 rfl rfl ?_
  refine RO_chk (fun hz1 => ?_)
  refine RO_getM gf_Walk_27 lk_98 (isK_0 hz1) dc_Walk_costs_6 ?_
  refine RO_getI gf_Walk_170 (kd_0 hz1) dc_Walk_costs_9 ?_
  refine RO_icmp_ge (tgt := 29) dc_Walk_costs_12 rfl ?_ ?_
  · refine RO_iload_n dc_Walk_costs_15 rfl rfl ?_
    refine RO_aload_n dc_Walk_costs_16 rfl rfl ?_
    refine RO_iload_n dc_Walk_costs_17 rfl rfl ?_
    refine RO_callVi (As := [vi v2]) (rest := [vi v1]) mi_Walk_cost mv_Walk_cost ml_Walk_173 lk_98 (Nat.le_of_ble_eq_true rfl) rfl (Nat.le_of_ble_eq_true rfl) (fun _ => rfl) dc_Walk_costs_18 (fun rq mq hq => pf_Walk_cost v2  mem hq) (fun r2 m3 => ?_)
    refine RO_iadd dc_Walk_costs_21 ?_
    refine RO_bnT (fun x4 => ?_)
    refine RO_istore_n dc_Walk_costs_22 rfl (Nat.le_of_ble_eq_true rfl) ?_
    refine RO_iinc dc_Walk_costs_23 rfl (Nat.le_of_ble_eq_true rfl) ?_
    refine RO_goto (tgt := 4) dc_Walk_costs_26 rfl ?_
    refine RO_sub ?_ (H4 x4 (w32 (v2 + 1)) m3)
    exact ⟨rfl, rfl, rfl, trivial⟩
  · refine RO_iload_n dc_Walk_costs_29 rfl rfl ?_
    exact RO_iret rfl dc_Walk_costs_30
def lp_Walk_costs_4   : Nat → Int → Int → Mm → Res
  | 0 => fun _ _ _ => none
  | n + 1 => bo_Walk_costs_4   (lp_Walk_costs_4   n)
theorem rp_Walk_costs_4 {E : EE}     : ∀ (n : Nat) (v1 : Int) (v2 : Int)  (mem : Mm), RO E mt_Walk_costs (lp_Walk_costs_4   n v1 v2 mem) 4 [(0, rf 98), (1, vi v1), (2, vi v2)] [] mem := by
  intro n
  induction n with
  | zero => intro v1 v2  mem; exact RO_none
  | succ n ih => intro v1 v2  mem; exact rb_Walk_costs_4    (lp_Walk_costs_4   n)  ih v1 v2  mem
def fn_Walk_costs  (mem : Mm) : Res := lp_Walk_costs_4 FU 0 0 mem
set_option maxHeartbeats 4000000 in
theorem pf_Walk_costs {E : EE}   (mem : Mm) {r : Int} {mem9 : Mm} (h : fn_Walk_costs  mem = some (r, mem9)) : MetX E 5 yn_Walk_costs cd_Walk_costs 3 (some .int) [rf 98] mem r mem9 := by
  refine RO_met (y := yn_Walk_costs) (by decide +kernel) (Nat.le_of_ble_eq_true rfl) ?_ h
  show RO E mt_Walk_costs (fn_Walk_costs  mem) 0 [(0, rf 98)] [] mem
  unfold fn_Walk_costs
  refine RO_iconst dc_Walk_costs_0 ?_
  refine RO_istore_n dc_Walk_costs_1 rfl (Nat.le_of_ble_eq_true rfl) ?_
  refine RO_iconst dc_Walk_costs_2 ?_
  refine RO_istore_n dc_Walk_costs_3 rfl (Nat.le_of_ble_eq_true rfl) ?_
  refine RO_sub ?_ (rp_Walk_costs_4 FU 0 0 mem)
  exact ⟨rfl, rfl, rfl, trivial⟩
def fn_Clock_day  (mem : Mm) : Res := bd (fn_Clock_remember  mem) fun r1 m2 => if isK 0 (m2 0 2) = true then bd (fn_Walk_go (m2 0 2).toNat 83 m2) fun r4 m5 => bd (fn_Walk_costs  m5) fun r6 m7 => bd (fn_State_pass 83 r6 m7) fun r8 m9 => some (r6, m9) else none
set_option maxHeartbeats 4000000 in
theorem pf_Clock_day {E : EE}   (mem : Mm) {r : Int} {mem9 : Mm} (h : fn_Clock_day  mem = some (r, mem9)) : MetX E 6 yn_Clock_day cd_Clock_day 2 (some .int) [rf 0] mem r mem9 := by
  refine RO_met (y := yn_Clock_day) (by decide +kernel) (Nat.le_of_ble_eq_true rfl) ?_ h
  show RO E mt_Clock_day (fn_Clock_day  mem) 0 [(0, rf 0)] [] mem
  unfold fn_Clock_day
  refine RO_aload_n dc_Clock_day_0 rfl rfl ?_
  refine RO_callVv (As := []) (rest := []) mi_Clock_remember mv_Clock_remember ml_Clock_198 lk_0 (Nat.le_of_ble_eq_true rfl) rfl (Nat.le_of_ble_eq_true rfl) dc_Clock_day_1 (fun rq mq hq => pf_Clock_remember   mem hq) (fun r1 m2 => ?_)
  refine RO_aload_n dc_Clock_day_4 rfl rfl ?_
  refine RO_getR (b := 98) gf_Clock_67 lk_0 rfl dc_Clock_day_5 ?_
  refine RO_aload_n dc_Clock_day_8 rfl rfl ?_
  refine RO_chk (fun hz3 => ?_)
  refine RO_getM gf_Clock_28 lk_0 (isK_0 hz3) dc_Clock_day_9 ?_
  refine RO_aload_n dc_Clock_day_12 rfl rfl ?_
  refine RO_getR (b := 82) gf_Clock_45 lk_0 rfl dc_Clock_day_13 ?_
  refine RO_getR (b := 83) gf_Clock_143 lk_82 rfl dc_Clock_day_16 ?_
  refine RO_callVv (As := [rf (m2 0 2).toNat, rf 83]) (rest := []) mi_Walk_go mv_Walk_go ml_Clock_161 lk_98 (Nat.le_of_ble_eq_true rfl) rfl (Nat.le_of_ble_eq_true rfl) dc_Clock_day_19 (fun rq mq hq => pf_Walk_go (m2 0 2).toNat 83 (kd_0 hz3) lk_83 m2 hq) (fun r4 m5 => ?_)
  refine RO_aload_n dc_Clock_day_22 rfl rfl ?_
  refine RO_getR (b := 98) gf_Clock_67 lk_0 rfl dc_Clock_day_23 ?_
  refine RO_callVi (As := []) (rest := []) mi_Walk_costs mv_Walk_costs ml_Clock_212 lk_98 (Nat.le_of_ble_eq_true rfl) rfl (Nat.le_of_ble_eq_true rfl) (fun _ => rfl) dc_Clock_day_26 (fun rq mq hq => pf_Walk_costs   m5 hq) (fun r6 m7 => ?_)
  refine RO_istore_n dc_Clock_day_29 rfl (Nat.le_of_ble_eq_true rfl) ?_
  refine RO_aload_n dc_Clock_day_30 rfl rfl ?_
  refine RO_getR (b := 82) gf_Clock_45 lk_0 rfl dc_Clock_day_31 ?_
  refine RO_getR (b := 83) gf_Clock_143 lk_82 rfl dc_Clock_day_34 ?_
  refine RO_iload_n dc_Clock_day_37 rfl rfl ?_
  refine RO_callVv (As := [vi r6]) (rest := []) mi_State_pass mv_State_pass ml_Clock_216 lk_83 (Nat.le_of_ble_eq_true rfl) rfl (Nat.le_of_ble_eq_true rfl) dc_Clock_day_38 (fun rq mq hq => pf_State_pass 83 r6 lk_83 m7 hq) (fun r8 m9 => ?_)
  refine RO_iload_n dc_Clock_day_41 rfl rfl ?_
  exact RO_iret rfl dc_Clock_day_42
def bo_Clock_judged_162 (p1 : Int)  (v3 : Int) (v4 : Int) (mem : Mm) : Res := if p1 = 2 then (some (mem 95 1, mem)) else (if p1 = 0 then (some (v3, mem)) else (some (v4, mem)))
set_option maxHeartbeats 4000000 in
theorem rb_Clock_judged_162 {E : EE} (p1 : Int)    (v3 : Int) (v4 : Int)  (mem : Mm) : RO E mt_Clock_judged (bo_Clock_judged_162 p1  v3 v4 mem) 162 [(0, rf 0), (1, vi p1), (3, vi v3), (4, vi v4)] [] mem := by
  unfold bo_Clock_judged_162
  refine RO_iload_n dc_Clock_judged_162 rfl rfl ?_
  refine RO_iconst dc_Clock_judged_163 ?_
  refine RO_icmp_ne (tgt := 175) dc_Clock_judged_164 rfl ?_ ?_
  · refine RO_aload_n dc_Clock_judged_167 rfl rfl ?_
    refine RO_getR (b := 95) gf_Clock_60 lk_0 rfl dc_Clock_judged_168 ?_
    refine RO_getI gf_Clock_243 lk_95 dc_Clock_judged_171 ?_
    exact RO_iret rfl dc_Clock_judged_174
  · refine RO_iload_n dc_Clock_judged_175 rfl rfl ?_
    refine RO_if_ne (tgt := 183) dc_Clock_judged_176 rfl ?_ ?_
    · refine RO_iload_n dc_Clock_judged_179 rfl rfl ?_
      refine RO_goto (tgt := 185) dc_Clock_judged_180 rfl ?_
      exact RO_iret rfl dc_Clock_judged_185
    · refine RO_iload dc_Clock_judged_183 rfl ?_
      exact RO_iret rfl dc_Clock_judged_185
def bo_Clock_judged_156 (p1 : Int) (k39 : Int → Int → Int → Mm → Res) (v3 : Int) (v4 : Int) (v5 : Int) (mem : Mm) : Res := k39 v3 v4 (w32 (v5 + 1)) mem
set_option maxHeartbeats 4000000 in
theorem rb_Clock_judged_156 {E : EE} (p1 : Int)  (k39 : Int → Int → Int → Mm → Res) (H39 : ∀ (v3 : Int) (v4 : Int) (v5 : Int)  (mem : Mm), RO E mt_Clock_judged (k39 v3 v4 v5 mem) 39 [(0, rf 0), (1, vi p1), (2, rf 86), (3, vi v3), (4, vi v4), (5, vi v5)] [] mem) (v3 : Int) (v4 : Int) (v5 : Int)  (mem : Mm) : RO E mt_Clock_judged (bo_Clock_judged_156 p1 k39 v3 v4 v5 mem) 156 [(0, rf 0), (1, vi p1), (2, rf 86), (3, vi v3), (4, vi v4), (5, vi v5)] [] mem := by
  unfold bo_Clock_judged_156
  refine RO_iinc dc_Clock_judged_156 rfl (Nat.le_of_ble_eq_true rfl) ?_
  refine RO_goto (tgt := 39) dc_Clock_judged_159 rfl ?_
  refine RO_sub ?_ (H39 v3 v4 (w32 (v5 + 1)) mem)
  exact ⟨rfl, rfl, rfl, rfl, rfl, rfl, trivial⟩
def bo_Clock_judged_127 (p1 : Int) (k39 : Int → Int → Int → Mm → Res) (v3 : Int) (v5 : Int) (s0 : Int) (mem : Mm) : Res := bd (fn_Walk_costs  mem) fun r1 m2 => bd (fn_State_pass 95 r1 m2) fun r3 m4 => bo_Clock_judged_156 p1 k39 v3 s0 v5 m4
set_option maxHeartbeats 4000000 in
theorem rb_Clock_judged_127 {E : EE} (p1 : Int)  (k39 : Int → Int → Int → Mm → Res) (H39 : ∀ (v3 : Int) (v4 : Int) (v5 : Int)  (mem : Mm), RO E mt_Clock_judged (k39 v3 v4 v5 mem) 39 [(0, rf 0), (1, vi p1), (2, rf 86), (3, vi v3), (4, vi v4), (5, vi v5)] [] mem) (v3 : Int) (v5 : Int) (s0 : Int)  (mem : Mm) : RO E mt_Clock_judged (bo_Clock_judged_127 p1 k39 v3 v5 s0 mem) 127 [(0, rf 0), (1, vi p1), (2, rf 86), (3, vi v3), (5, vi v5)] [vi s0] mem := by
  unfold bo_Clock_judged_127
  refine RO_istore dc_Clock_judged_127 (Nat.le_of_ble_eq_true rfl) ?_
  refine RO_aload_n dc_Clock_judged_129 rfl rfl ?_
  refine RO_getR (b := 95) gf_Clock_60 lk_0 rfl dc_Clock_judged_130 ?_
  refine RO_aload_n dc_Clock_judged_133 rfl rfl ?_
  refine RO_getR (b := 98) gf_Clock_67 lk_0 rfl dc_Clock_judged_134 ?_
  refine RO_callVi (As := []) (rest := [rf 95]) mi_Walk_costs mv_Walk_costs ml_Clock_212 lk_98 (Nat.le_of_ble_eq_true rfl) rfl (Nat.le_of_ble_eq_true rfl) (fun _ => rfl) dc_Clock_judged_137 (fun rq mq hq => pf_Walk_costs   mem hq) (fun r1 m2 => ?_)
  refine RO_callVv (As := [vi r1]) (rest := []) mi_State_pass mv_State_pass ml_Clock_216 lk_95 (Nat.le_of_ble_eq_true rfl) rfl (Nat.le_of_ble_eq_true rfl) dc_Clock_judged_140 (fun rq mq hq => pf_State_pass 95 r1 lk_95 m2 hq) (fun r3 m4 => ?_)
  refine RO_goto (tgt := 156) dc_Clock_judged_143 rfl ?_
  refine RO_sub ?_ (rb_Clock_judged_156 p1 k39 H39 v3 s0 v5 m4)
  exact ⟨rfl, rfl, rfl, rfl, rfl, rfl, trivial⟩
def bo_Clock_judged_125 (p1 : Int) (k39 : Int → Int → Int → Mm → Res) (v3 : Int) (v4 : Int) (v5 : Int) (mem : Mm) : Res := bo_Clock_judged_127 p1 k39 v3 v5 v4 mem
set_option maxHeartbeats 4000000 in
theorem rb_Clock_judged_125 {E : EE} (p1 : Int)  (k39 : Int → Int → Int → Mm → Res) (H39 : ∀ (v3 : Int) (v4 : Int) (v5 : Int)  (mem : Mm), RO E mt_Clock_judged (k39 v3 v4 v5 mem) 39 [(0, rf 0), (1, vi p1), (2, rf 86), (3, vi v3), (4, vi v4), (5, vi v5)] [] mem) (v3 : Int) (v4 : Int) (v5 : Int)  (mem : Mm) : RO E mt_Clock_judged (bo_Clock_judged_125 p1 k39 v3 v4 v5 mem) 125 [(0, rf 0), (1, vi p1), (2, rf 86), (3, vi v3), (4, vi v4), (5, vi v5)] [] mem := by
  unfold bo_Clock_judged_125
  refine RO_iload dc_Clock_judged_125 rfl ?_
  refine RO_sub ?_ (rb_Clock_judged_127 p1 k39 H39 v3 v5 v4 mem)
  exact ⟨rfl, rfl, rfl, rfl, rfl, trivial⟩
def bo_Clock_judged_76 (p1 : Int) (k39 : Int → Int → Int → Mm → Res) (v4 : Int) (v5 : Int) (s0 : Int) (mem : Mm) : Res := bo_Clock_judged_156 p1 k39 s0 v4 v5 mem
set_option maxHeartbeats 4000000 in
theorem rb_Clock_judged_76 {E : EE} (p1 : Int)  (k39 : Int → Int → Int → Mm → Res) (H39 : ∀ (v3 : Int) (v4 : Int) (v5 : Int)  (mem : Mm), RO E mt_Clock_judged (k39 v3 v4 v5 mem) 39 [(0, rf 0), (1, vi p1), (2, rf 86), (3, vi v3), (4, vi v4), (5, vi v5)] [] mem) (v4 : Int) (v5 : Int) (s0 : Int)  (mem : Mm) : RO E mt_Clock_judged (bo_Clock_judged_76 p1 k39 v4 v5 s0 mem) 76 [(0, rf 0), (1, vi p1), (2, rf 86), (4, vi v4), (5, vi v5)] [vi s0] mem := by
  unfold bo_Clock_judged_76
  refine RO_istore_n dc_Clock_judged_76 rfl (Nat.le_of_ble_eq_true rfl) ?_
  refine RO_goto (tgt := 156) dc_Clock_judged_77 rfl ?_
  refine RO_sub ?_ (rb_Clock_judged_156 p1 k39 H39 s0 v4 v5 mem)
  exact ⟨rfl, rfl, rfl, rfl, rfl, rfl, trivial⟩
def bo_Clock_judged_39 (p1 : Int) (k39 : Int → Int → Int → Mm → Res) (v3 : Int) (v4 : Int) (v5 : Int) (mem : Mm) : Res := if v5 < (mem 86 0) then (if isK 0 (mem 0 2) = true then bd (fn_Lines_can 86 v5 (mem 0 2).toNat 95 mem) fun r2 m3 => if r2 = 0 then (if v3 = (-1) then (bo_Clock_judged_76 p1 k39 v4 v5 v5 m3) else (bo_Clock_judged_76 p1 k39 v4 v5 v3 m3)) else (bd (fn_Lines_isDay 86 v5 m3) fun r4 m5 => if r4 = 0 then (bd (fn_Lines_happen 86 v5 95 m5) fun r6 m7 => bo_Clock_judged_156 p1 k39 v3 v4 v5 m7) else (if isK 0 (m5 0 2) = true then bd (fn_Walk_go (m5 0 2).toNat 95 m5) fun r9 m10 => if v4 = (-1) then (bd (fn_Walk_missing  m10) fun r11 m12 => if 0 < r11 then (bo_Clock_judged_127 p1 k39 v3 v5 v5 m12) else (bo_Clock_judged_125 p1 k39 v3 v4 v5 m12)) else (bo_Clock_judged_125 p1 k39 v3 v4 v5 m10) else none)) else none) else (bo_Clock_judged_162 p1 v3 v4 mem)
set_option maxHeartbeats 4000000 in
theorem rb_Clock_judged_39 {E : EE} (p1 : Int)  (k39 : Int → Int → Int → Mm → Res) (H39 : ∀ (v3 : Int) (v4 : Int) (v5 : Int)  (mem : Mm), RO E mt_Clock_judged (k39 v3 v4 v5 mem) 39 [(0, rf 0), (1, vi p1), (2, rf 86), (3, vi v3), (4, vi v4), (5, vi v5)] [] mem) (v3 : Int) (v4 : Int) (v5 : Int)  (mem : Mm) : RO E mt_Clock_judged (bo_Clock_judged_39 p1 k39 v3 v4 v5 mem) 39 [(0, rf 0), (1, vi p1), (2, rf 86), (3, vi v3), (4, vi v4), (5, vi v5)] [] mem := by
  unfold bo_Clock_judged_39
  refine RO_iload dc_Clock_judged_39 rfl ?_
  refine RO_aload_n dc_Clock_judged_41 rfl rfl ?_
  refine RO_getI gf_Clock_226 lk_86 dc_Clock_judged_42 ?_
  refine RO_icmp_ge (tgt := 162) dc_Clock_judged_45 rfl ?_ ?_
  · refine RO_aload_n dc_Clock_judged_48 rfl rfl ?_
    refine RO_iload dc_Clock_judged_49 rfl ?_
    refine RO_aload_n dc_Clock_judged_51 rfl rfl ?_
    refine RO_chk (fun hz1 => ?_)
    refine RO_getM gf_Clock_28 lk_0 (isK_0 hz1) dc_Clock_judged_52 ?_
    refine RO_aload_n dc_Clock_judged_55 rfl rfl ?_
    refine RO_getR (b := 95) gf_Clock_60 lk_0 rfl dc_Clock_judged_56 ?_
    refine RO_callVi (As := [vi v5, rf (mem 0 2).toNat, rf 95]) (rest := []) mi_Lines_can mv_Lines_can ml_Clock_229 lk_86 (Nat.le_of_ble_eq_true rfl) rfl (Nat.le_of_ble_eq_true rfl) (fun _ => rfl) dc_Clock_judged_59 (fun rq mq hq => pf_Lines_can 86 v5 (mem 0 2).toNat 95 lk_86 (kd_0 hz1) lk_95 mem hq) (fun r2 m3 => ?_)
    refine RO_if_ne (tgt := 80) dc_Clock_judged_62 rfl ?_ ?_
    · refine RO_iload_n dc_Clock_judged_65 rfl rfl ?_
      refine RO_iconst dc_Clock_judged_66 ?_
      refine RO_icmp_ne (tgt := 75) dc_Clock_judged_67 rfl ?_ ?_
      · refine RO_iload dc_Clock_judged_70 rfl ?_
        refine RO_goto (tgt := 76) dc_Clock_judged_72 rfl ?_
        refine RO_sub ?_ (rb_Clock_judged_76 p1 k39 H39 v4 v5 v5 m3)
        exact ⟨rfl, rfl, rfl, rfl, rfl, trivial⟩
      · refine RO_iload_n dc_Clock_judged_75 rfl rfl ?_
        refine RO_sub ?_ (rb_Clock_judged_76 p1 k39 H39 v4 v5 v3 m3)
        exact ⟨rfl, rfl, rfl, rfl, rfl, trivial⟩
    · refine RO_aload_n dc_Clock_judged_80 rfl rfl ?_
      refine RO_iload dc_Clock_judged_81 rfl ?_
      refine RO_callVi (As := [vi v5]) (rest := []) mi_Lines_isDay mv_Lines_isDay ml_Clock_233 lk_86 (Nat.le_of_ble_eq_true rfl) rfl (Nat.le_of_ble_eq_true rfl) (fun _ => rfl) dc_Clock_judged_83 (fun rq mq hq => pf_Lines_isDay 86 v5 lk_86 m3 hq) (fun r4 m5 => ?_)
      refine RO_if_eq (tgt := 146) dc_Clock_judged_86 rfl ?_ ?_
      · refine RO_aload_n dc_Clock_judged_146 rfl rfl ?_
        refine RO_iload dc_Clock_judged_147 rfl ?_
        refine RO_aload_n dc_Clock_judged_149 rfl rfl ?_
        refine RO_getR (b := 95) gf_Clock_60 lk_0 rfl dc_Clock_judged_150 ?_
        refine RO_callVv (As := [vi v5, rf 95]) (rest := []) mi_Lines_happen mv_Lines_happen ml_Clock_239 lk_86 (Nat.le_of_ble_eq_true rfl) rfl (Nat.le_of_ble_eq_true rfl) dc_Clock_judged_153 (fun rq mq hq => pf_Lines_happen 86 v5 95 lk_86 lk_95 m5 hq) (fun r6 m7 => ?_)
        refine RO_sub ?_ (rb_Clock_judged_156 p1 k39 H39 v3 v4 v5 m7)
        exact ⟨rfl, rfl, rfl, rfl, rfl, rfl, trivial⟩
      · refine RO_aload_n dc_Clock_judged_89 rfl rfl ?_
        refine RO_getR (b := 98) gf_Clock_67 lk_0 rfl dc_Clock_judged_90 ?_
        refine RO_aload_n dc_Clock_judged_93 rfl rfl ?_
        refine RO_chk (fun hz8 => ?_)
        refine RO_getM gf_Clock_28 lk_0 (isK_0 hz8) dc_Clock_judged_94 ?_
        refine RO_aload_n dc_Clock_judged_97 rfl rfl ?_
        refine RO_getR (b := 95) gf_Clock_60 lk_0 rfl dc_Clock_judged_98 ?_
        refine RO_callVv (As := [rf (m5 0 2).toNat, rf 95]) (rest := []) mi_Walk_go mv_Walk_go ml_Clock_161 lk_98 (Nat.le_of_ble_eq_true rfl) rfl (Nat.le_of_ble_eq_true rfl) dc_Clock_judged_101 (fun rq mq hq => pf_Walk_go (m5 0 2).toNat 95 (kd_0 hz8) lk_95 m5 hq) (fun r9 m10 => ?_)
        refine RO_iload dc_Clock_judged_104 rfl ?_
        refine RO_iconst dc_Clock_judged_106 ?_
        refine RO_icmp_ne (tgt := 125) dc_Clock_judged_107 rfl ?_ ?_
        · refine RO_aload_n dc_Clock_judged_110 rfl rfl ?_
          refine RO_getR (b := 98) gf_Clock_67 lk_0 rfl dc_Clock_judged_111 ?_
          refine RO_callVi (As := []) (rest := []) mi_Walk_missing mv_Walk_missing ml_Clock_236 lk_98 (Nat.le_of_ble_eq_true rfl) rfl (Nat.le_of_ble_eq_true rfl) (fun _ => rfl) dc_Clock_judged_114 (fun rq mq hq => pf_Walk_missing   m10 hq) (fun r11 m12 => ?_)
          refine RO_if_le (tgt := 125) dc_Clock_judged_117 rfl ?_ ?_
          · refine RO_iload dc_Clock_judged_120 rfl ?_
            refine RO_goto (tgt := 127) dc_Clock_judged_122 rfl ?_
            refine RO_sub ?_ (rb_Clock_judged_127 p1 k39 H39 v3 v5 v5 m12)
            exact ⟨rfl, rfl, rfl, rfl, rfl, trivial⟩
          · refine RO_sub ?_ (rb_Clock_judged_125 p1 k39 H39 v3 v4 v5 m12)
            exact ⟨rfl, rfl, rfl, rfl, rfl, rfl, trivial⟩
        · refine RO_sub ?_ (rb_Clock_judged_125 p1 k39 H39 v3 v4 v5 m10)
          exact ⟨rfl, rfl, rfl, rfl, rfl, rfl, trivial⟩
  · refine RO_sub ?_ (rb_Clock_judged_162 p1 v3 v4 mem)
    exact ⟨rfl, rfl, rfl, rfl, trivial⟩
def lp_Clock_judged_39 (p1 : Int)  : Nat → Int → Int → Int → Mm → Res
  | 0 => fun _ _ _ _ => none
  | n + 1 => bo_Clock_judged_39 p1  (lp_Clock_judged_39 p1  n)
theorem rp_Clock_judged_39 {E : EE} (p1 : Int)    : ∀ (n : Nat) (v3 : Int) (v4 : Int) (v5 : Int)  (mem : Mm), RO E mt_Clock_judged (lp_Clock_judged_39 p1  n v3 v4 v5 mem) 39 [(0, rf 0), (1, vi p1), (2, rf 86), (3, vi v3), (4, vi v4), (5, vi v5)] [] mem := by
  intro n
  induction n with
  | zero => intro v3 v4 v5  mem; exact RO_none
  | succ n ih => intro v3 v4 v5  mem; exact rb_Clock_judged_39 p1   (lp_Clock_judged_39 p1  n)  ih v3 v4 v5  mem
def fn_Clock_judged (p1 : Int) (mem : Mm) : Res := if p1 < 0 then (some ((-2), mem)) else (if 2 < p1 then (some ((-2), mem)) else (if isK 0 (mem 0 2) = true then bd (fn_State_begin 95 (mem 0 2).toNat mem) fun r2 m3 => lp_Clock_judged_39 p1 FU (-1) (-1) 0 m3 else none))
set_option maxHeartbeats 4000000 in
theorem pf_Clock_judged {E : EE} (p1 : Int)  (mem : Mm) {r : Int} {mem9 : Mm} (h : fn_Clock_judged p1 mem = some (r, mem9)) : MetX E 6 yn_Clock_judged cd_Clock_judged 6 (some .int) [rf 0, vi p1] mem r mem9 := by
  refine RO_met (y := yn_Clock_judged) (by decide +kernel) (Nat.le_of_ble_eq_true rfl) ?_ h
  show RO E mt_Clock_judged (fn_Clock_judged p1 mem) 0 [(0, rf 0), (1, vi p1)] [] mem
  unfold fn_Clock_judged
  refine RO_iload_n dc_Clock_judged_0 rfl rfl ?_
  refine RO_if_lt (tgt := 9) dc_Clock_judged_1 rfl ?_ ?_
  · refine RO_bipush dc_Clock_judged_9 ?_
    exact RO_iret rfl dc_Clock_judged_11
  · refine RO_iload_n dc_Clock_judged_4 rfl rfl ?_
    refine RO_iconst dc_Clock_judged_5 ?_
    refine RO_icmp_le (tgt := 12) dc_Clock_judged_6 rfl ?_ ?_
    · refine RO_bipush dc_Clock_judged_9 ?_
      exact RO_iret rfl dc_Clock_judged_11
    · refine RO_aload_n dc_Clock_judged_12 rfl rfl ?_
      refine RO_getR (b := 82) gf_Clock_45 lk_0 rfl dc_Clock_judged_13 ?_
      refine RO_getR (b := 86) gf_Clock_117 lk_82 rfl dc_Clock_judged_16 ?_
      refine RO_astore_n dc_Clock_judged_19 rfl (Nat.le_of_ble_eq_true rfl) ?_
      refine RO_iconst dc_Clock_judged_20 ?_
      refine RO_istore_n dc_Clock_judged_21 rfl (Nat.le_of_ble_eq_true rfl) ?_
      refine RO_iconst dc_Clock_judged_22 ?_
      refine RO_istore dc_Clock_judged_23 (Nat.le_of_ble_eq_true rfl) ?_
      refine RO_aload_n dc_Clock_judged_25 rfl rfl ?_
      refine RO_getR (b := 95) gf_Clock_60 lk_0 rfl dc_Clock_judged_26 ?_
      refine RO_aload_n dc_Clock_judged_29 rfl rfl ?_
      refine RO_chk (fun hz1 => ?_)
      refine RO_getM gf_Clock_28 lk_0 (isK_0 hz1) dc_Clock_judged_30 ?_
      refine RO_callVv (As := [rf (mem 0 2).toNat]) (rest := []) mi_State_begin mv_State_begin ml_Clock_225 lk_95 (Nat.le_of_ble_eq_true rfl) rfl (Nat.le_of_ble_eq_true rfl) dc_Clock_judged_33 (fun rq mq hq => pf_State_begin 95 (mem 0 2).toNat lk_95 (kd_0 hz1) mem hq) (fun r2 m3 => ?_)
      refine RO_iconst dc_Clock_judged_36 ?_
      refine RO_istore dc_Clock_judged_37 (Nat.le_of_ble_eq_true rfl) ?_
      refine RO_sub ?_ (rp_Clock_judged_39 p1 FU (-1) (-1) 0 m3)
      exact ⟨rfl, rfl, rfl, rfl, rfl, rfl, trivial⟩
def bo_Clock_times_74 (p1 : Int)  (v2 : Int) (v3 : Int) (v4 : Int) (mem : Mm) : Res := if p1 = 0 then (some (v2, mem)) else (if p1 = 1 then (some (v3, mem)) else (some (v4, mem)))
set_option maxHeartbeats 4000000 in
theorem rb_Clock_times_74 {E : EE} (p1 : Int)    (v2 : Int) (v3 : Int) (v4 : Int)  (mem : Mm) : RO E mt_Clock_times (bo_Clock_times_74 p1  v2 v3 v4 mem) 74 [(1, vi p1), (2, vi v2), (3, vi v3), (4, vi v4)] [] mem := by
  unfold bo_Clock_times_74
  refine RO_iload_n dc_Clock_times_74 rfl rfl ?_
  refine RO_if_ne (tgt := 80) dc_Clock_times_75 rfl ?_ ?_
  · refine RO_iload_n dc_Clock_times_78 rfl rfl ?_
    exact RO_iret rfl dc_Clock_times_79
  · refine RO_iload_n dc_Clock_times_80 rfl rfl ?_
    refine RO_iconst dc_Clock_times_81 ?_
    refine RO_icmp_ne (tgt := 89) dc_Clock_times_82 rfl ?_ ?_
    · refine RO_iload_n dc_Clock_times_85 rfl rfl ?_
      refine RO_goto (tgt := 91) dc_Clock_times_86 rfl ?_
      exact RO_iret rfl dc_Clock_times_91
    · refine RO_iload dc_Clock_times_89 rfl ?_
      exact RO_iret rfl dc_Clock_times_91
def bo_Clock_times_68 (p1 : Int) (k25 : Int → Int → Int → Int → Mm → Res) (v2 : Int) (v3 : Int) (v4 : Int) (v5 : Int) (mem : Mm) : Res := k25 v2 v3 v4 (w32 (v5 + 1)) mem
set_option maxHeartbeats 4000000 in
theorem rb_Clock_times_68 {E : EE} (p1 : Int)  (k25 : Int → Int → Int → Int → Mm → Res) (H25 : ∀ (v2 : Int) (v3 : Int) (v4 : Int) (v5 : Int)  (mem : Mm), RO E mt_Clock_times (k25 v2 v3 v4 v5 mem) 25 [(0, rf 0), (1, vi p1), (2, vi v2), (3, vi v3), (4, vi v4), (5, vi v5)] [] mem) (v2 : Int) (v3 : Int) (v4 : Int) (v5 : Int)  (mem : Mm) : RO E mt_Clock_times (bo_Clock_times_68 p1 k25 v2 v3 v4 v5 mem) 68 [(0, rf 0), (1, vi p1), (2, vi v2), (3, vi v3), (4, vi v4), (5, vi v5)] [] mem := by
  unfold bo_Clock_times_68
  refine RO_iinc dc_Clock_times_68 rfl (Nat.le_of_ble_eq_true rfl) ?_
  refine RO_goto (tgt := 25) dc_Clock_times_71 rfl ?_
  refine RO_sub ?_ (H25 v2 v3 v4 (w32 (v5 + 1)) mem)
  exact ⟨rfl, rfl, rfl, rfl, rfl, rfl, trivial⟩
def bo_Clock_times_63 (p1 : Int) (k25 : Int → Int → Int → Int → Mm → Res) (v2 : Int) (v5 : Int) (s0 : Int) (mem : Mm) : Res := bo_Clock_times_68 p1 k25 v2 s0 v5 v5 mem
set_option maxHeartbeats 4000000 in
theorem rb_Clock_times_63 {E : EE} (p1 : Int)  (k25 : Int → Int → Int → Int → Mm → Res) (H25 : ∀ (v2 : Int) (v3 : Int) (v4 : Int) (v5 : Int)  (mem : Mm), RO E mt_Clock_times (k25 v2 v3 v4 v5 mem) 25 [(0, rf 0), (1, vi p1), (2, vi v2), (3, vi v3), (4, vi v4), (5, vi v5)] [] mem) (v2 : Int) (v5 : Int) (s0 : Int)  (mem : Mm) : RO E mt_Clock_times (bo_Clock_times_63 p1 k25 v2 v5 s0 mem) 63 [(0, rf 0), (1, vi p1), (2, vi v2), (5, vi v5)] [vi s0] mem := by
  unfold bo_Clock_times_63
  refine RO_istore_n dc_Clock_times_63 rfl (Nat.le_of_ble_eq_true rfl) ?_
  refine RO_iload dc_Clock_times_64 rfl ?_
  refine RO_istore dc_Clock_times_66 (Nat.le_of_ble_eq_true rfl) ?_
  refine RO_sub ?_ (rb_Clock_times_68 p1 k25 H25 v2 s0 v5 v5 mem)
  exact ⟨rfl, rfl, rfl, rfl, rfl, rfl, trivial⟩
def bo_Clock_times_25 (p1 : Int) (k25 : Int → Int → Int → Int → Mm → Res) (v2 : Int) (v3 : Int) (v4 : Int) (v5 : Int) (mem : Mm) : Res := if v5 < 240 then (bd (fn_Standing_canBe 82 v5 mem) fun r1 m2 => if r1 = 0 then (bo_Clock_times_68 p1 k25 v2 v3 v4 v5 m2) else (if v3 = (-1) then (bo_Clock_times_63 p1 k25 (w32 (v2 + 1)) v5 v5 m2) else (bo_Clock_times_63 p1 k25 (w32 (v2 + 1)) v5 v3 m2))) else (bo_Clock_times_74 p1 v2 v3 v4 mem)
set_option maxHeartbeats 4000000 in
theorem rb_Clock_times_25 {E : EE} (p1 : Int)  (k25 : Int → Int → Int → Int → Mm → Res) (H25 : ∀ (v2 : Int) (v3 : Int) (v4 : Int) (v5 : Int)  (mem : Mm), RO E mt_Clock_times (k25 v2 v3 v4 v5 mem) 25 [(0, rf 0), (1, vi p1), (2, vi v2), (3, vi v3), (4, vi v4), (5, vi v5)] [] mem) (v2 : Int) (v3 : Int) (v4 : Int) (v5 : Int)  (mem : Mm) : RO E mt_Clock_times (bo_Clock_times_25 p1 k25 v2 v3 v4 v5 mem) 25 [(0, rf 0), (1, vi p1), (2, vi v2), (3, vi v3), (4, vi v4), (5, vi v5)] [] mem := by
  unfold bo_Clock_times_25
  refine RO_iload dc_Clock_times_25 rfl ?_
  refine RO_sipush dc_Clock_times_27 ?_
  refine RO_icmp_ge (tgt := 74) dc_Clock_times_30 rfl ?_ ?_
  · refine RO_aload_n dc_Clock_times_33 rfl rfl ?_
    refine RO_getR (b := 82) gf_Clock_45 lk_0 rfl dc_Clock_times_34 ?_
    refine RO_aload_n dc_Clock_times_37 rfl rfl ?_
    refine RO_getR (b := 104) gf_Clock_74 lk_0 rfl dc_Clock_times_38 ?_
    refine RO_iload dc_Clock_times_41 rfl ?_
    refine RO_callVi (As := [rf 104, vi v5]) (rest := []) mi_Standing_canBe mv_Standing_canBe ml_Clock_253 lk_82 (Nat.le_of_ble_eq_true rfl) rfl (Nat.le_of_ble_eq_true rfl) (fun _ => rfl) dc_Clock_times_43 (fun rq mq hq => pf_Standing_canBe 82 v5 lk_82 mem hq) (fun r1 m2 => ?_)
    refine RO_if_eq (tgt := 68) dc_Clock_times_46 rfl ?_ ?_
    · refine RO_sub ?_ (rb_Clock_times_68 p1 k25 H25 v2 v3 v4 v5 m2)
      exact ⟨rfl, rfl, rfl, rfl, rfl, rfl, trivial⟩
    · refine RO_iinc dc_Clock_times_49 rfl (Nat.le_of_ble_eq_true rfl) ?_
      refine RO_iload_n dc_Clock_times_52 rfl rfl ?_
      refine RO_iconst dc_Clock_times_53 ?_
      refine RO_icmp_ne (tgt := 62) dc_Clock_times_54 rfl ?_ ?_
      · refine RO_iload dc_Clock_times_57 rfl ?_
        refine RO_goto (tgt := 63) dc_Clock_times_59 rfl ?_
        refine RO_sub ?_ (rb_Clock_times_63 p1 k25 H25 (w32 (v2 + 1)) v5 v5 m2)
        exact ⟨rfl, rfl, rfl, rfl, trivial⟩
      · refine RO_iload_n dc_Clock_times_62 rfl rfl ?_
        refine RO_sub ?_ (rb_Clock_times_63 p1 k25 H25 (w32 (v2 + 1)) v5 v3 m2)
        exact ⟨rfl, rfl, rfl, rfl, trivial⟩
  · refine RO_sub ?_ (rb_Clock_times_74 p1 v2 v3 v4 mem)
    exact ⟨rfl, rfl, rfl, rfl, trivial⟩
def lp_Clock_times_25 (p1 : Int)  : Nat → Int → Int → Int → Int → Mm → Res
  | 0 => fun _ _ _ _ _ => none
  | n + 1 => bo_Clock_times_25 p1  (lp_Clock_times_25 p1  n)
theorem rp_Clock_times_25 {E : EE} (p1 : Int)    : ∀ (n : Nat) (v2 : Int) (v3 : Int) (v4 : Int) (v5 : Int)  (mem : Mm), RO E mt_Clock_times (lp_Clock_times_25 p1  n v2 v3 v4 v5 mem) 25 [(0, rf 0), (1, vi p1), (2, vi v2), (3, vi v3), (4, vi v4), (5, vi v5)] [] mem := by
  intro n
  induction n with
  | zero => intro v2 v3 v4 v5  mem; exact RO_none
  | succ n ih => intro v2 v3 v4 v5  mem; exact rb_Clock_times_25 p1   (lp_Clock_times_25 p1  n)  ih v2 v3 v4 v5  mem
def fn_Clock_times (p1 : Int) (mem : Mm) : Res := if p1 < 0 then (some ((-1), mem)) else (if 2 < p1 then (some ((-1), mem)) else (bd (fn_Clock_lookRound  mem) fun r1 m2 => lp_Clock_times_25 p1 FU 0 (-1) (-1) 0 m2))
set_option maxHeartbeats 4000000 in
theorem pf_Clock_times {E : EE} (p1 : Int)  (mem : Mm) {r : Int} {mem9 : Mm} (h : fn_Clock_times p1 mem = some (r, mem9)) : MetX E 6 yn_Clock_times cd_Clock_times 6 (some .int) [rf 0, vi p1] mem r mem9 := by
  refine RO_met (y := yn_Clock_times) (by decide +kernel) (Nat.le_of_ble_eq_true rfl) ?_ h
  show RO E mt_Clock_times (fn_Clock_times p1 mem) 0 [(0, rf 0), (1, vi p1)] [] mem
  unfold fn_Clock_times
  refine RO_iload_n dc_Clock_times_0 rfl rfl ?_
  refine RO_if_lt (tgt := 9) dc_Clock_times_1 rfl ?_ ?_
  · refine RO_iconst dc_Clock_times_9 ?_
    exact RO_iret rfl dc_Clock_times_10
  · refine RO_iload_n dc_Clock_times_4 rfl rfl ?_
    refine RO_iconst dc_Clock_times_5 ?_
    refine RO_icmp_le (tgt := 11) dc_Clock_times_6 rfl ?_ ?_
    · refine RO_iconst dc_Clock_times_9 ?_
      exact RO_iret rfl dc_Clock_times_10
    · refine RO_aload_n dc_Clock_times_11 rfl rfl ?_
      refine RO_callVv (As := []) (rest := []) mi_Clock_lookRound mv_Clock_lookRound ml_Clock_250 lk_0 (Nat.le_of_ble_eq_true rfl) rfl (Nat.le_of_ble_eq_true rfl) dc_Clock_times_12 (fun rq mq hq => pf_Clock_lookRound   mem hq) (fun r1 m2 => ?_)
      refine RO_iconst dc_Clock_times_15 ?_
      refine RO_istore_n dc_Clock_times_16 rfl (Nat.le_of_ble_eq_true rfl) ?_
      refine RO_iconst dc_Clock_times_17 ?_
      refine RO_istore_n dc_Clock_times_18 rfl (Nat.le_of_ble_eq_true rfl) ?_
      refine RO_iconst dc_Clock_times_19 ?_
      refine RO_istore dc_Clock_times_20 (Nat.le_of_ble_eq_true rfl) ?_
      refine RO_iconst dc_Clock_times_22 ?_
      refine RO_istore dc_Clock_times_23 (Nat.le_of_ble_eq_true rfl) ?_
      refine RO_sub ?_ (rp_Clock_times_25 p1 FU 0 (-1) (-1) 0 m2)
      exact ⟨rfl, rfl, rfl, rfl, rfl, rfl, trivial⟩
def bo_Clock_look_72  (k43 : Int → Int → Int → Mm → Res) (v1 : Int) (v2 : Int) (v3 : Int) (mem : Mm) : Res := k43 v1 v2 (w32 (v3 + 1)) mem
set_option maxHeartbeats 4000000 in
theorem rb_Clock_look_72 {E : EE}   (k43 : Int → Int → Int → Mm → Res) (H43 : ∀ (v1 : Int) (v2 : Int) (v3 : Int)  (mem : Mm), RO E mt_Clock_look (k43 v1 v2 v3 mem) 43 [(0, rf 0), (1, vi v1), (2, vi v2), (3, vi v3)] [] mem) (v1 : Int) (v2 : Int) (v3 : Int)  (mem : Mm) : RO E mt_Clock_look (bo_Clock_look_72  k43 v1 v2 v3 mem) 72 [(0, rf 0), (1, vi v1), (2, vi v2), (3, vi v3)] [] mem := by
  unfold bo_Clock_look_72
  refine RO_iinc dc_Clock_look_72 rfl (Nat.le_of_ble_eq_true rfl) ?_
  refine RO_goto (tgt := 43) dc_Clock_look_75 rfl ?_
  refine RO_sub ?_ (H43 v1 v2 (w32 (v3 + 1)) mem)
  exact ⟨rfl, rfl, rfl, rfl, trivial⟩
def bo_Clock_look_43  (k43 : Int → Int → Int → Mm → Res) (v1 : Int) (v2 : Int) (v3 : Int) (mem : Mm) : Res := if isK 0 (mem 0 2) = true then if v3 < (mem (mem 0 2).toNat 0) then (bd (fn_Clock_mostAlike v3 mem) fun r2 m3 => if r2 < v2 then (bo_Clock_look_72 k43 v3 r2 v3 m3) else (bo_Clock_look_72 k43 v1 v2 v3 m3)) else (some (v1, mem)) else none
set_option maxHeartbeats 4000000 in
theorem rb_Clock_look_43 {E : EE}   (k43 : Int → Int → Int → Mm → Res) (H43 : ∀ (v1 : Int) (v2 : Int) (v3 : Int)  (mem : Mm), RO E mt_Clock_look (k43 v1 v2 v3 mem) 43 [(0, rf 0), (1, vi v1), (2, vi v2), (3, vi v3)] [] mem) (v1 : Int) (v2 : Int) (v3 : Int)  (mem : Mm) : RO E mt_Clock_look (bo_Clock_look_43  k43 v1 v2 v3 mem) 43 [(0, rf 0), (1, vi v1), (2, vi v2), (3, vi v3)] [] mem := by
  unfold bo_Clock_look_43
  refine RO_iload_n dc_Clock_look_43 rfl rfl ?_
  refine RO_aload_n dc_Clock_look_44 rfl rfl ?_
  refine RO_chk (fun hz1 => ?_)
  refine RO_getM gf_Clock_28 lk_0 (isK_0 hz1) dc_Clock_look_45 ?_
  refine RO_getI gf_Clock_257 (kd_0 hz1) dc_Clock_look_48 ?_
  refine RO_icmp_ge (tgt := 78) dc_Clock_look_51 rfl ?_ ?_
  · refine RO_aload_n dc_Clock_look_54 rfl rfl ?_
    refine RO_iload_n dc_Clock_look_55 rfl rfl ?_
    refine RO_callVi (As := [vi v3]) (rest := []) mi_Clock_mostAlike mv_Clock_mostAlike ml_Clock_260 lk_0 (Nat.le_of_ble_eq_true rfl) rfl (Nat.le_of_ble_eq_true rfl) (fun _ => rfl) dc_Clock_look_56 (fun rq mq hq => pf_Clock_mostAlike v3  mem hq) (fun r2 m3 => ?_)
    refine RO_istore dc_Clock_look_59 (Nat.le_of_ble_eq_true rfl) ?_
    refine RO_iload dc_Clock_look_61 rfl ?_
    refine RO_iload_n dc_Clock_look_63 rfl rfl ?_
    refine RO_icmp_ge (tgt := 72) dc_Clock_look_64 rfl ?_ ?_
    · refine RO_iload dc_Clock_look_67 rfl ?_
      refine RO_istore_n dc_Clock_look_69 rfl (Nat.le_of_ble_eq_true rfl) ?_
      refine RO_iload_n dc_Clock_look_70 rfl rfl ?_
      refine RO_istore_n dc_Clock_look_71 rfl (Nat.le_of_ble_eq_true rfl) ?_
      refine RO_sub ?_ (rb_Clock_look_72 k43 H43 v3 r2 v3 m3)
      exact ⟨rfl, rfl, rfl, rfl, trivial⟩
    · refine RO_sub ?_ (rb_Clock_look_72 k43 H43 v1 v2 v3 m3)
      exact ⟨rfl, rfl, rfl, rfl, trivial⟩
  · refine RO_iload_n dc_Clock_look_78 rfl rfl ?_
    exact RO_iret rfl dc_Clock_look_79
def lp_Clock_look_43   : Nat → Int → Int → Int → Mm → Res
  | 0 => fun _ _ _ _ => none
  | n + 1 => bo_Clock_look_43   (lp_Clock_look_43   n)
theorem rp_Clock_look_43 {E : EE}     : ∀ (n : Nat) (v1 : Int) (v2 : Int) (v3 : Int)  (mem : Mm), RO E mt_Clock_look (lp_Clock_look_43   n v1 v2 v3 mem) 43 [(0, rf 0), (1, vi v1), (2, vi v2), (3, vi v3)] [] mem := by
  intro n
  induction n with
  | zero => intro v1 v2 v3  mem; exact RO_none
  | succ n ih => intro v1 v2 v3  mem; exact rb_Clock_look_43    (lp_Clock_look_43   n)  ih v1 v2 v3  mem
def bo_Clock_look_41   (v1 : Int) (v2 : Int) (mem : Mm) : Res := lp_Clock_look_43 FU v1 v2 0 mem
set_option maxHeartbeats 4000000 in
theorem rb_Clock_look_41 {E : EE}     (v1 : Int) (v2 : Int)  (mem : Mm) : RO E mt_Clock_look (bo_Clock_look_41   v1 v2 mem) 41 [(0, rf 0), (1, vi v1), (2, vi v2)] [] mem := by
  unfold bo_Clock_look_41
  refine RO_iconst dc_Clock_look_41 ?_
  refine RO_istore_n dc_Clock_look_42 rfl (Nat.le_of_ble_eq_true rfl) ?_
  refine RO_sub ?_ (rp_Clock_look_43 FU v1 v2 0 mem)
  exact ⟨rfl, rfl, rfl, rfl, trivial⟩
def bo_Clock_look_35  (k10 : Int → Int → Int → Mm → Res) (v1 : Int) (v2 : Int) (v3 : Int) (mem : Mm) : Res := k10 v1 v2 (w32 (v3 + 1)) mem
set_option maxHeartbeats 4000000 in
theorem rb_Clock_look_35 {E : EE}   (k10 : Int → Int → Int → Mm → Res) (H10 : ∀ (v1 : Int) (v2 : Int) (v3 : Int)  (mem : Mm), RO E mt_Clock_look (k10 v1 v2 v3 mem) 10 [(0, rf 0), (1, vi v1), (2, vi v2), (3, vi v3)] [] mem) (v1 : Int) (v2 : Int) (v3 : Int)  (mem : Mm) : RO E mt_Clock_look (bo_Clock_look_35  k10 v1 v2 v3 mem) 35 [(0, rf 0), (1, vi v1), (2, vi v2), (3, vi v3)] [] mem := by
  unfold bo_Clock_look_35
  refine RO_iinc dc_Clock_look_35 rfl (Nat.le_of_ble_eq_true rfl) ?_
  refine RO_goto (tgt := 10) dc_Clock_look_38 rfl ?_
  refine RO_sub ?_ (H10 v1 v2 (w32 (v3 + 1)) mem)
  exact ⟨rfl, rfl, rfl, rfl, trivial⟩
def bo_Clock_look_10  (k10 : Int → Int → Int → Mm → Res) (v1 : Int) (v2 : Int) (v3 : Int) (mem : Mm) : Res := if v3 < 240 then (bd (fn_Standing_canBe 82 v3 mem) fun r1 m2 => if r1 = 0 then (bo_Clock_look_35 k10 v1 v2 v3 m2) else (bo_Clock_look_35 k10 v1 (w32 (v2 + 1)) v3 m2)) else (bo_Clock_look_41 v1 v2 mem)
set_option maxHeartbeats 4000000 in
theorem rb_Clock_look_10 {E : EE}   (k10 : Int → Int → Int → Mm → Res) (H10 : ∀ (v1 : Int) (v2 : Int) (v3 : Int)  (mem : Mm), RO E mt_Clock_look (k10 v1 v2 v3 mem) 10 [(0, rf 0), (1, vi v1), (2, vi v2), (3, vi v3)] [] mem) (v1 : Int) (v2 : Int) (v3 : Int)  (mem : Mm) : RO E mt_Clock_look (bo_Clock_look_10  k10 v1 v2 v3 mem) 10 [(0, rf 0), (1, vi v1), (2, vi v2), (3, vi v3)] [] mem := by
  unfold bo_Clock_look_10
  refine RO_iload_n dc_Clock_look_10 rfl rfl ?_
  refine RO_sipush dc_Clock_look_11 ?_
  refine RO_icmp_ge (tgt := 41) dc_Clock_look_14 rfl ?_ ?_
  · refine RO_aload_n dc_Clock_look_17 rfl rfl ?_
    refine RO_getR (b := 82) gf_Clock_45 lk_0 rfl dc_Clock_look_18 ?_
    refine RO_aload_n dc_Clock_look_21 rfl rfl ?_
    refine RO_getR (b := 104) gf_Clock_74 lk_0 rfl dc_Clock_look_22 ?_
    refine RO_iload_n dc_Clock_look_25 rfl rfl ?_
    refine RO_callVi (As := [rf 104, vi v3]) (rest := []) mi_Standing_canBe mv_Standing_canBe ml_Clock_253 lk_82 (Nat.le_of_ble_eq_true rfl) rfl (Nat.le_of_ble_eq_true rfl) (fun _ => rfl) dc_Clock_look_26 (fun rq mq hq => pf_Standing_canBe 82 v3 lk_82 mem hq) (fun r1 m2 => ?_)
    refine RO_if_eq (tgt := 35) dc_Clock_look_29 rfl ?_ ?_
    · refine RO_sub ?_ (rb_Clock_look_35 k10 H10 v1 v2 v3 m2)
      exact ⟨rfl, rfl, rfl, rfl, trivial⟩
    · refine RO_iinc dc_Clock_look_32 rfl (Nat.le_of_ble_eq_true rfl) ?_
      refine RO_sub ?_ (rb_Clock_look_35 k10 H10 v1 (w32 (v2 + 1)) v3 m2)
      exact ⟨rfl, rfl, rfl, rfl, trivial⟩
  · refine RO_sub ?_ (rb_Clock_look_41 v1 v2 mem)
    exact ⟨rfl, rfl, rfl, trivial⟩
def lp_Clock_look_10   : Nat → Int → Int → Int → Mm → Res
  | 0 => fun _ _ _ _ => none
  | n + 1 => bo_Clock_look_10   (lp_Clock_look_10   n)
theorem rp_Clock_look_10 {E : EE}     : ∀ (n : Nat) (v1 : Int) (v2 : Int) (v3 : Int)  (mem : Mm), RO E mt_Clock_look (lp_Clock_look_10   n v1 v2 v3 mem) 10 [(0, rf 0), (1, vi v1), (2, vi v2), (3, vi v3)] [] mem := by
  intro n
  induction n with
  | zero => intro v1 v2 v3  mem; exact RO_none
  | succ n ih => intro v1 v2 v3  mem; exact rb_Clock_look_10    (lp_Clock_look_10   n)  ih v1 v2 v3  mem
def fn_Clock_look  (mem : Mm) : Res := bd (fn_Clock_lookRound  mem) fun r1 m2 => lp_Clock_look_10 FU (-1) 0 0 m2
set_option maxHeartbeats 4000000 in
theorem pf_Clock_look {E : EE}   (mem : Mm) {r : Int} {mem9 : Mm} (h : fn_Clock_look  mem = some (r, mem9)) : MetX E 6 yn_Clock_look cd_Clock_look 5 (some .int) [rf 0] mem r mem9 := by
  refine RO_met (y := yn_Clock_look) (by decide +kernel) (Nat.le_of_ble_eq_true rfl) ?_ h
  show RO E mt_Clock_look (fn_Clock_look  mem) 0 [(0, rf 0)] [] mem
  unfold fn_Clock_look
  refine RO_aload_n dc_Clock_look_0 rfl rfl ?_
  refine RO_callVv (As := []) (rest := []) mi_Clock_lookRound mv_Clock_lookRound ml_Clock_250 lk_0 (Nat.le_of_ble_eq_true rfl) rfl (Nat.le_of_ble_eq_true rfl) dc_Clock_look_1 (fun rq mq hq => pf_Clock_lookRound   mem hq) (fun r1 m2 => ?_)
  refine RO_iconst dc_Clock_look_4 ?_
  refine RO_istore_n dc_Clock_look_5 rfl (Nat.le_of_ble_eq_true rfl) ?_
  refine RO_iconst dc_Clock_look_6 ?_
  refine RO_istore_n dc_Clock_look_7 rfl (Nat.le_of_ble_eq_true rfl) ?_
  refine RO_iconst dc_Clock_look_8 ?_
  refine RO_istore_n dc_Clock_look_9 rfl (Nat.le_of_ble_eq_true rfl) ?_
  refine RO_sub ?_ (rp_Clock_look_10 FU (-1) 0 0 m2)
  exact ⟨rfl, rfl, rfl, rfl, trivial⟩
def fn_Clock_soonest (p1 : Int) (p2 : Int) (p3 : Int) (mem : Mm) : Res := bd (fn_Clock_isPlace p1 mem) fun r1 m2 => if r1 = 0 then (some ((-1), m2)) else (bd (fn_Clock_isMinute p2 m2) fun r3 m4 => if r3 = 0 then (some ((-1), m4)) else (if p3 < 0 then (some ((-1), m4)) else (if isK 0 (m4 0 2) = true then if p3 < (ishl 1 (m4 (m4 0 2).toNat 1)) then (bd (fn_Clock_lookRound  m4) fun r6 m7 => if isK 0 (m7 0 2) = true then bd (fn_Sight_firstToHaveMet (m7 0 2).toNat (m7 83 3) p1 p2 p3 m7) fun r9 m10 => some (r9, m10) else none) else (some ((-1), m4)) else none)))
set_option maxHeartbeats 4000000 in
theorem pf_Clock_soonest {E : EE} (p1 : Int) (p2 : Int) (p3 : Int)  (mem : Mm) {r : Int} {mem9 : Mm} (h : fn_Clock_soonest p1 p2 p3 mem = some (r, mem9)) : MetX E 6 yn_Clock_soonest cd_Clock_soonest 4 (some .int) [rf 0, vi p1, vi p2, vi p3] mem r mem9 := by
  refine RO_met (y := yn_Clock_soonest) (by decide +kernel) (Nat.le_of_ble_eq_true rfl) ?_ h
  show RO E mt_Clock_soonest (fn_Clock_soonest p1 p2 p3 mem) 0 [(0, rf 0), (1, vi p1), (2, vi p2), (3, vi p3)] [] mem
  unfold fn_Clock_soonest
  refine RO_aload_n dc_Clock_soonest_0 rfl rfl ?_
  refine RO_iload_n dc_Clock_soonest_1 rfl rfl ?_
  refine RO_callVi (As := [vi p1]) (rest := []) mi_Clock_isPlace mv_Clock_isPlace ml_Clock_124 lk_0 (Nat.le_of_ble_eq_true rfl) rfl (Nat.le_of_ble_eq_true rfl) (fun _ => rfl) dc_Clock_soonest_2 (fun rq mq hq => pf_Clock_isPlace p1  mem hq) (fun r1 m2 => ?_)
  refine RO_if_eq (tgt := 33) dc_Clock_soonest_5 rfl ?_ ?_
  · refine RO_iconst dc_Clock_soonest_33 ?_
    exact RO_iret rfl dc_Clock_soonest_34
  · refine RO_aload_n dc_Clock_soonest_8 rfl rfl ?_
    refine RO_iload_n dc_Clock_soonest_9 rfl rfl ?_
    refine RO_callVi (As := [vi p2]) (rest := []) mi_Clock_isMinute mv_Clock_isMinute ml_Clock_158 lk_0 (Nat.le_of_ble_eq_true rfl) rfl (Nat.le_of_ble_eq_true rfl) (fun _ => rfl) dc_Clock_soonest_10 (fun rq mq hq => pf_Clock_isMinute p2  m2 hq) (fun r3 m4 => ?_)
    refine RO_if_eq (tgt := 33) dc_Clock_soonest_13 rfl ?_ ?_
    · refine RO_iconst dc_Clock_soonest_33 ?_
      exact RO_iret rfl dc_Clock_soonest_34
    · refine RO_iload_n dc_Clock_soonest_16 rfl rfl ?_
      refine RO_if_lt (tgt := 33) dc_Clock_soonest_17 rfl ?_ ?_
      · refine RO_iconst dc_Clock_soonest_33 ?_
        exact RO_iret rfl dc_Clock_soonest_34
      · refine RO_iload_n dc_Clock_soonest_20 rfl rfl ?_
        refine RO_iconst dc_Clock_soonest_21 ?_
        refine RO_aload_n dc_Clock_soonest_22 rfl rfl ?_
        refine RO_chk (fun hz5 => ?_)
        refine RO_getM gf_Clock_28 lk_0 (isK_0 hz5) dc_Clock_soonest_23 ?_
        refine RO_getI gf_Clock_282 (kd_0 hz5) dc_Clock_soonest_26 ?_
        refine RO_ishl dc_Clock_soonest_29 ?_
        refine RO_icmp_lt (tgt := 35) dc_Clock_soonest_30 rfl ?_ ?_
        · refine RO_aload_n dc_Clock_soonest_35 rfl rfl ?_
          refine RO_callVv (As := []) (rest := []) mi_Clock_lookRound mv_Clock_lookRound ml_Clock_250 lk_0 (Nat.le_of_ble_eq_true rfl) rfl (Nat.le_of_ble_eq_true rfl) dc_Clock_soonest_36 (fun rq mq hq => pf_Clock_lookRound   m4 hq) (fun r6 m7 => ?_)
          refine RO_aload_n dc_Clock_soonest_39 rfl rfl ?_
          refine RO_getR (b := 104) gf_Clock_74 lk_0 rfl dc_Clock_soonest_40 ?_
          refine RO_aload_n dc_Clock_soonest_43 rfl rfl ?_
          refine RO_chk (fun hz8 => ?_)
          refine RO_getM gf_Clock_28 lk_0 (isK_0 hz8) dc_Clock_soonest_44 ?_
          refine RO_aload_n dc_Clock_soonest_47 rfl rfl ?_
          refine RO_getR (b := 82) gf_Clock_45 lk_0 rfl dc_Clock_soonest_48 ?_
          refine RO_getR (b := 83) gf_Clock_143 lk_82 rfl dc_Clock_soonest_51 ?_
          refine RO_getZ gf_Clock_209 lk_83 dc_Clock_soonest_54 ?_
          refine RO_iload_n dc_Clock_soonest_57 rfl rfl ?_
          refine RO_iload_n dc_Clock_soonest_58 rfl rfl ?_
          refine RO_iload_n dc_Clock_soonest_59 rfl rfl ?_
          refine RO_callVi (As := [rf (m7 0 2).toNat, vi (m7 83 3), vi p1, vi p2, vi p3]) (rest := []) mi_Sight_firstToHaveMet mv_Sight_firstToHaveMet ml_Clock_285 lk_104 (Nat.le_of_ble_eq_true rfl) rfl (Nat.le_of_ble_eq_true rfl) (fun _ => rfl) dc_Clock_soonest_60 (fun rq mq hq => pf_Sight_firstToHaveMet (m7 0 2).toNat (m7 83 3) p1 p2 p3 (kd_0 hz8) m7 hq) (fun r9 m10 => ?_)
          exact RO_iret rfl dc_Clock_soonest_63
        · refine RO_iconst dc_Clock_soonest_33 ?_
          exact RO_iret rfl dc_Clock_soonest_34
def bo_Clock_lonely_78 (p1 : Int)  (v2 : Int) (v3 : Int) (mem : Mm) : Res := if p1 = 0 then (if 0 < v2 then (some (v2, mem)) else (some (v3, mem))) else (some (v3, mem))
set_option maxHeartbeats 4000000 in
theorem rb_Clock_lonely_78 {E : EE} (p1 : Int)    (v2 : Int) (v3 : Int)  (mem : Mm) : RO E mt_Clock_lonely (bo_Clock_lonely_78 p1  v2 v3 mem) 78 [(1, vi p1), (2, vi v2), (3, vi v3)] [] mem := by
  unfold bo_Clock_lonely_78
  refine RO_iload_n dc_Clock_lonely_78 rfl rfl ?_
  refine RO_if_ne (tgt := 90) dc_Clock_lonely_79 rfl ?_ ?_
  · refine RO_iload_n dc_Clock_lonely_82 rfl rfl ?_
    refine RO_if_le (tgt := 90) dc_Clock_lonely_83 rfl ?_ ?_
    · refine RO_iload_n dc_Clock_lonely_86 rfl rfl ?_
      refine RO_goto (tgt := 91) dc_Clock_lonely_87 rfl ?_
      exact RO_iret rfl dc_Clock_lonely_91
    · refine RO_iload_n dc_Clock_lonely_90 rfl rfl ?_
      exact RO_iret rfl dc_Clock_lonely_91
  · refine RO_iload_n dc_Clock_lonely_90 rfl rfl ?_
    exact RO_iret rfl dc_Clock_lonely_91
def bo_Clock_lonely_72 (p1 : Int) (k25 : Int → Int → Int → Int → Mm → Res) (v2 : Int) (v3 : Int) (v4 : Int) (v5 : Int) (mem : Mm) : Res := k25 v2 v3 v4 (w32 (v5 + 1)) mem
set_option maxHeartbeats 4000000 in
theorem rb_Clock_lonely_72 {E : EE} (p1 : Int)  (k25 : Int → Int → Int → Int → Mm → Res) (H25 : ∀ (v2 : Int) (v3 : Int) (v4 : Int) (v5 : Int)  (mem : Mm), RO E mt_Clock_lonely (k25 v2 v3 v4 v5 mem) 25 [(0, rf 0), (1, vi p1), (2, vi v2), (3, vi v3), (4, vi v4), (5, vi v5)] [] mem) (v2 : Int) (v3 : Int) (v4 : Int) (v5 : Int)  (mem : Mm) : RO E mt_Clock_lonely (bo_Clock_lonely_72 p1 k25 v2 v3 v4 v5 mem) 72 [(0, rf 0), (1, vi p1), (2, vi v2), (3, vi v3), (4, vi v4), (5, vi v5)] [] mem := by
  unfold bo_Clock_lonely_72
  refine RO_iinc dc_Clock_lonely_72 rfl (Nat.le_of_ble_eq_true rfl) ?_
  refine RO_goto (tgt := 25) dc_Clock_lonely_75 rfl ?_
  refine RO_sub ?_ (H25 v2 v3 v4 (w32 (v5 + 1)) mem)
  exact ⟨rfl, rfl, rfl, rfl, rfl, rfl, trivial⟩
def bo_Clock_lonely_53 (p1 : Int) (k25 : Int → Int → Int → Int → Mm → Res) (v2 : Int) (v3 : Int) (v5 : Int) (s0 : Int) (mem : Mm) : Res := if v2 < s0 then (bn (w32 ((w32 (v5 - s0)) + 1)) fun x1 => bo_Clock_lonely_72 p1 k25 s0 x1 s0 v5 mem) else (bo_Clock_lonely_72 p1 k25 v2 v3 s0 v5 mem)
set_option maxHeartbeats 4000000 in
theorem rb_Clock_lonely_53 {E : EE} (p1 : Int)  (k25 : Int → Int → Int → Int → Mm → Res) (H25 : ∀ (v2 : Int) (v3 : Int) (v4 : Int) (v5 : Int)  (mem : Mm), RO E mt_Clock_lonely (k25 v2 v3 v4 v5 mem) 25 [(0, rf 0), (1, vi p1), (2, vi v2), (3, vi v3), (4, vi v4), (5, vi v5)] [] mem) (v2 : Int) (v3 : Int) (v5 : Int) (s0 : Int)  (mem : Mm) : RO E mt_Clock_lonely (bo_Clock_lonely_53 p1 k25 v2 v3 v5 s0 mem) 53 [(0, rf 0), (1, vi p1), (2, vi v2), (3, vi v3), (5, vi v5)] [vi s0] mem := by
  unfold bo_Clock_lonely_53
  refine RO_istore dc_Clock_lonely_53 (Nat.le_of_ble_eq_true rfl) ?_
  refine RO_iload dc_Clock_lonely_55 rfl ?_
  refine RO_iload_n dc_Clock_lonely_57 rfl rfl ?_
  refine RO_icmp_le (tgt := 72) dc_Clock_lonely_58 rfl ?_ ?_
  · refine RO_iload dc_Clock_lonely_61 rfl ?_
    refine RO_istore_n dc_Clock_lonely_63 rfl (Nat.le_of_ble_eq_true rfl) ?_
    refine RO_iload dc_Clock_lonely_64 rfl ?_
    refine RO_iload dc_Clock_lonely_66 rfl ?_
    refine RO_isub dc_Clock_lonely_68 ?_
    refine RO_iconst dc_Clock_lonely_69 ?_
    refine RO_iadd dc_Clock_lonely_70 ?_
    refine RO_bnT (fun x1 => ?_)
    refine RO_istore_n dc_Clock_lonely_71 rfl (Nat.le_of_ble_eq_true rfl) ?_
    refine RO_sub ?_ (rb_Clock_lonely_72 p1 k25 H25 s0 x1 s0 v5 mem)
    exact ⟨rfl, rfl, rfl, rfl, rfl, rfl, trivial⟩
  · refine RO_sub ?_ (rb_Clock_lonely_72 p1 k25 H25 v2 v3 s0 v5 mem)
    exact ⟨rfl, rfl, rfl, rfl, rfl, rfl, trivial⟩
def bo_Clock_lonely_25 (p1 : Int) (k25 : Int → Int → Int → Int → Mm → Res) (v2 : Int) (v3 : Int) (v4 : Int) (v5 : Int) (mem : Mm) : Res := if v5 < 240 then (bd (fn_Sight_isMeeting v5 mem) fun r1 m2 => if r1 = 0 then (bo_Clock_lonely_53 p1 k25 v2 v3 v5 (w32 (v4 + 1)) m2) else (bo_Clock_lonely_53 p1 k25 v2 v3 v5 0 m2)) else (bo_Clock_lonely_78 p1 v2 v3 mem)
set_option maxHeartbeats 4000000 in
theorem rb_Clock_lonely_25 {E : EE} (p1 : Int)  (k25 : Int → Int → Int → Int → Mm → Res) (H25 : ∀ (v2 : Int) (v3 : Int) (v4 : Int) (v5 : Int)  (mem : Mm), RO E mt_Clock_lonely (k25 v2 v3 v4 v5 mem) 25 [(0, rf 0), (1, vi p1), (2, vi v2), (3, vi v3), (4, vi v4), (5, vi v5)] [] mem) (v2 : Int) (v3 : Int) (v4 : Int) (v5 : Int)  (mem : Mm) : RO E mt_Clock_lonely (bo_Clock_lonely_25 p1 k25 v2 v3 v4 v5 mem) 25 [(0, rf 0), (1, vi p1), (2, vi v2), (3, vi v3), (4, vi v4), (5, vi v5)] [] mem := by
  unfold bo_Clock_lonely_25
  refine RO_iload dc_Clock_lonely_25 rfl ?_
  refine RO_sipush dc_Clock_lonely_27 ?_
  refine RO_icmp_ge (tgt := 78) dc_Clock_lonely_30 rfl ?_ ?_
  · refine RO_aload_n dc_Clock_lonely_33 rfl rfl ?_
    refine RO_getR (b := 104) gf_Clock_74 lk_0 rfl dc_Clock_lonely_34 ?_
    refine RO_iload dc_Clock_lonely_37 rfl ?_
    refine RO_callVi (As := [vi v5]) (rest := []) mi_Sight_isMeeting mv_Sight_isMeeting ml_Clock_289 lk_104 (Nat.le_of_ble_eq_true rfl) rfl (Nat.le_of_ble_eq_true rfl) (fun _ => rfl) dc_Clock_lonely_39 (fun rq mq hq => pf_Sight_isMeeting v5  mem hq) (fun r1 m2 => ?_)
    refine RO_if_eq (tgt := 49) dc_Clock_lonely_42 rfl ?_ ?_
    · refine RO_iload dc_Clock_lonely_49 rfl ?_
      refine RO_iconst dc_Clock_lonely_51 ?_
      refine RO_iadd dc_Clock_lonely_52 ?_
      refine RO_sub ?_ (rb_Clock_lonely_53 p1 k25 H25 v2 v3 v5 (w32 (v4 + 1)) m2)
      exact ⟨rfl, rfl, rfl, rfl, rfl, trivial⟩
    · refine RO_iconst dc_Clock_lonely_45 ?_
      refine RO_goto (tgt := 53) dc_Clock_lonely_46 rfl ?_
      refine RO_sub ?_ (rb_Clock_lonely_53 p1 k25 H25 v2 v3 v5 0 m2)
      exact ⟨rfl, rfl, rfl, rfl, rfl, trivial⟩
  · refine RO_sub ?_ (rb_Clock_lonely_78 p1 v2 v3 mem)
    exact ⟨rfl, rfl, rfl, trivial⟩
def lp_Clock_lonely_25 (p1 : Int)  : Nat → Int → Int → Int → Int → Mm → Res
  | 0 => fun _ _ _ _ _ => none
  | n + 1 => bo_Clock_lonely_25 p1  (lp_Clock_lonely_25 p1  n)
theorem rp_Clock_lonely_25 {E : EE} (p1 : Int)    : ∀ (n : Nat) (v2 : Int) (v3 : Int) (v4 : Int) (v5 : Int)  (mem : Mm), RO E mt_Clock_lonely (lp_Clock_lonely_25 p1  n v2 v3 v4 v5 mem) 25 [(0, rf 0), (1, vi p1), (2, vi v2), (3, vi v3), (4, vi v4), (5, vi v5)] [] mem := by
  intro n
  induction n with
  | zero => intro v2 v3 v4 v5  mem; exact RO_none
  | succ n ih => intro v2 v3 v4 v5  mem; exact rb_Clock_lonely_25 p1   (lp_Clock_lonely_25 p1  n)  ih v2 v3 v4 v5  mem
def fn_Clock_lonely (p1 : Int) (mem : Mm) : Res := if p1 < 0 then (some ((-1), mem)) else (if 1 < p1 then (some ((-1), mem)) else (bd (fn_Clock_lookRound  mem) fun r1 m2 => lp_Clock_lonely_25 p1 FU 0 (-1) 0 0 m2))
set_option maxHeartbeats 4000000 in
theorem pf_Clock_lonely {E : EE} (p1 : Int)  (mem : Mm) {r : Int} {mem9 : Mm} (h : fn_Clock_lonely p1 mem = some (r, mem9)) : MetX E 6 yn_Clock_lonely cd_Clock_lonely 6 (some .int) [rf 0, vi p1] mem r mem9 := by
  refine RO_met (y := yn_Clock_lonely) (by decide +kernel) (Nat.le_of_ble_eq_true rfl) ?_ h
  show RO E mt_Clock_lonely (fn_Clock_lonely p1 mem) 0 [(0, rf 0), (1, vi p1)] [] mem
  unfold fn_Clock_lonely
  refine RO_iload_n dc_Clock_lonely_0 rfl rfl ?_
  refine RO_if_lt (tgt := 9) dc_Clock_lonely_1 rfl ?_ ?_
  · refine RO_iconst dc_Clock_lonely_9 ?_
    exact RO_iret rfl dc_Clock_lonely_10
  · refine RO_iload_n dc_Clock_lonely_4 rfl rfl ?_
    refine RO_iconst dc_Clock_lonely_5 ?_
    refine RO_icmp_le (tgt := 11) dc_Clock_lonely_6 rfl ?_ ?_
    · refine RO_iconst dc_Clock_lonely_9 ?_
      exact RO_iret rfl dc_Clock_lonely_10
    · refine RO_aload_n dc_Clock_lonely_11 rfl rfl ?_
      refine RO_callVv (As := []) (rest := []) mi_Clock_lookRound mv_Clock_lookRound ml_Clock_250 lk_0 (Nat.le_of_ble_eq_true rfl) rfl (Nat.le_of_ble_eq_true rfl) dc_Clock_lonely_12 (fun rq mq hq => pf_Clock_lookRound   mem hq) (fun r1 m2 => ?_)
      refine RO_iconst dc_Clock_lonely_15 ?_
      refine RO_istore_n dc_Clock_lonely_16 rfl (Nat.le_of_ble_eq_true rfl) ?_
      refine RO_iconst dc_Clock_lonely_17 ?_
      refine RO_istore_n dc_Clock_lonely_18 rfl (Nat.le_of_ble_eq_true rfl) ?_
      refine RO_iconst dc_Clock_lonely_19 ?_
      refine RO_istore dc_Clock_lonely_20 (Nat.le_of_ble_eq_true rfl) ?_
      refine RO_iconst dc_Clock_lonely_22 ?_
      refine RO_istore dc_Clock_lonely_23 (Nat.le_of_ble_eq_true rfl) ?_
      refine RO_sub ?_ (rp_Clock_lonely_25 p1 FU 0 (-1) 0 0 m2)
      exact ⟨rfl, rfl, rfl, rfl, rfl, rfl, trivial⟩
