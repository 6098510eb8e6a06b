def bo_Model_hills_47  (k47 : Int → Mm → Res) (v1 : Int) (mem : Mm) : Res := if v1 < 4 then (if 0 ≤ v1 ∧ v1 < 4 then bn (mst mem 249 v1.toNat 0) fun m2 => k47 (w32 (v1 + 1)) m2 else none) else (some (0, mem))
set_option maxHeartbeats 4000000 in
theorem rb_Model_hills_47 {E : EE}   (k47 : Int → Mm → Res) (H47 : ∀ (v1 : Int)  (mem : Mm), RO E mt_Model_hills (k47 v1 mem) 47 [(0, rf 203), (1, vi v1)] [] mem) (v1 : Int)  (mem : Mm) : RO E mt_Model_hills (bo_Model_hills_47  k47 v1 mem) 47 [(0, rf 203), (1, vi v1)] [] mem := by
  unfold bo_Model_hills_47
  refine RO_iload_n dc_Model_hills_47 rfl rfl ?_
  refine RO_iconst dc_Model_hills_48 ?_
  refine RO_icmp_ge (tgt := 65) dc_Model_hills_49 rfl ?_ ?_
  · refine RO_aload_n dc_Model_hills_52 rfl rfl ?_
    refine RO_getR (b := 249) gf_Model_147 lk_203 rfl dc_Model_hills_53 ?_
    refine RO_iload_n dc_Model_hills_56 rfl rfl ?_
    refine RO_iconst dc_Model_hills_57 ?_
    refine RO_chk (fun hi1 => ?_)
    refine RO_zs lk_249 hi1 (Or.inl rfl) dc_Model_hills_58 ?_
    refine RO_bnM (fun m2 => ?_)
    refine RO_iinc dc_Model_hills_59 rfl (Nat.le_of_ble_eq_true rfl) ?_
    refine RO_goto (tgt := 47) dc_Model_hills_62 rfl ?_
    refine RO_sub ?_ (H47 (w32 (v1 + 1)) m2)
    exact ⟨rfl, rfl, trivial⟩
  · refine RO_iconst dc_Model_hills_65 ?_
    exact RO_iret rfl dc_Model_hills_66
def lp_Model_hills_47   : Nat → Int → Mm → Res
  | 0 => fun _ _ => none
  | n + 1 => bo_Model_hills_47   (lp_Model_hills_47   n)
theorem rp_Model_hills_47 {E : EE}     : ∀ (n : Nat) (v1 : Int)  (mem : Mm), RO E mt_Model_hills (lp_Model_hills_47   n v1 mem) 47 [(0, rf 203), (1, vi v1)] [] mem := by
  intro n
  induction n with
  | zero => intro v1  mem; exact RO_none
  | succ n ih => intro v1  mem; exact rb_Model_hills_47    (lp_Model_hills_47   n)  ih v1  mem
def fn_Model_hills  (mem : Mm) : Res := bn (mst mem 203 0 0) fun m1 => bd (fn_Model_readsAll  m1) fun r2 m3 => if r2 = 0 then (some (m3 203 9, m3)) else (bd (fn_Model_lays  m3) fun r4 m5 => bd (fn_Model_fresh  m5) fun r6 m7 => bd (fn_Model_forgets  m7) fun r8 m9 => bd (fn_Model_laysWays  m9) fun r10 m11 => bn (mst m11 236 (0 : Int).toNat 0) fun m12 => bn (mst m12 203 58 0) fun m13 => lp_Model_hills_47 FU 0 m13)
set_option maxHeartbeats 4000000 in
theorem pf_Model_hills {E : EE}   (mem : Mm) {r : Int} {mem9 : Mm} (h : fn_Model_hills  mem = some (r, mem9)) : MetX E 7 yn_Model_hills cd_Model_hills 2 (some .int) [rf 203] mem r mem9 := by
  refine RO_met (y := yn_Model_hills) (by decide +kernel) (Nat.le_of_ble_eq_true rfl) ?_ h
  show RO E mt_Model_hills (fn_Model_hills  mem) 0 [(0, rf 203)] [] mem
  unfold fn_Model_hills
  refine RO_aload_n dc_Model_hills_0 rfl rfl ?_
  refine RO_iconst dc_Model_hills_1 ?_
  refine RO_putI gp_Model_183 lk_203 dc_Model_hills_2 ?_
  refine RO_bnM (fun m1 => ?_)
  refine RO_aload_n dc_Model_hills_5 rfl rfl ?_
  refine RO_callVi (As := []) (rest := []) mi_Model_readsAll mv_Model_readsAll ml_Model_405 lk_203 (Nat.le_of_ble_eq_true rfl) rfl (Nat.le_of_ble_eq_true rfl) (fun _ => rfl) dc_Model_hills_6 (fun rq mq hq => pf_Model_readsAll   m1 hq) (fun r2 m3 => ?_)
  refine RO_if_ne (tgt := 17) dc_Model_hills_9 rfl ?_ ?_
  · refine RO_aload_n dc_Model_hills_12 rfl rfl ?_
    refine RO_getI gf_Model_219 lk_203 dc_Model_hills_13 ?_
    exact RO_iret rfl dc_Model_hills_16
  · refine RO_aload_n dc_Model_hills_17 rfl rfl ?_
    refine RO_callVv (As := []) (rest := []) mi_Model_lays mv_Model_lays ml_Model_408 lk_203 (Nat.le_of_ble_eq_true rfl) rfl (Nat.le_of_ble_eq_true rfl) dc_Model_hills_18 (fun rq mq hq => pf_Model_lays   m3 hq) (fun r4 m5 => ?_)
    refine RO_aload_n dc_Model_hills_21 rfl rfl ?_
    refine RO_callVv (As := []) (rest := []) mi_Model_fresh mv_Model_fresh ml_Model_411 lk_203 (Nat.le_of_ble_eq_true rfl) rfl (Nat.le_of_ble_eq_true rfl) dc_Model_hills_22 (fun rq mq hq => pf_Model_fresh   m5 hq) (fun r6 m7 => ?_)
    refine RO_aload_n dc_Model_hills_25 rfl rfl ?_
    refine RO_callVv (As := []) (rest := []) mi_Model_forgets mv_Model_forgets ml_Model_180 lk_203 (Nat.le_of_ble_eq_true rfl) rfl (Nat.le_of_ble_eq_true rfl) dc_Model_hills_26 (fun rq mq hq => pf_Model_forgets   m7 hq) (fun r8 m9 => ?_)
    refine RO_aload_n dc_Model_hills_29 rfl rfl ?_
    refine RO_callVv (As := []) (rest := []) mi_Model_laysWays mv_Model_laysWays ml_Model_413 lk_203 (Nat.le_of_ble_eq_true rfl) rfl (Nat.le_of_ble_eq_true rfl) dc_Model_hills_30 (fun rq mq hq => pf_Model_laysWays   m9 hq) (fun r10 m11 => ?_)
    refine RO_aload_n dc_Model_hills_33 rfl rfl ?_
    refine RO_getR (b := 236) gf_Model_108 lk_203 rfl dc_Model_hills_34 ?_
    refine RO_iconst dc_Model_hills_37 ?_
    refine RO_iconst dc_Model_hills_38 ?_
    refine RO_is lk_236 ⟨by decide, by decide⟩ dc_Model_hills_39 ?_
    refine RO_bnM (fun m12 => ?_)
    refine RO_aload_n dc_Model_hills_40 rfl rfl ?_
    refine RO_iconst dc_Model_hills_41 ?_
    refine RO_putI gp_Model_416 lk_203 dc_Model_hills_42 ?_
    refine RO_bnM (fun m13 => ?_)
    refine RO_iconst dc_Model_hills_45 ?_
    refine RO_istore_n dc_Model_hills_46 rfl (Nat.le_of_ble_eq_true rfl) ?_
    refine RO_sub ?_ (rp_Model_hills_47 FU 0 m13)
    exact ⟨rfl, rfl, trivial⟩
def bo_Model_judged_99 (p1 : Int)  (v2 : Int) (v3 : Int) (mem : Mm) : Res := bn (mem 245 (1 : Int).toNat) fun x1 => bd (fn_Model_copies 16 246 0 16 245 0 mem) fun r2 m3 => if p1 = 0 then (some (v2, m3)) else (if p1 = 1 then (some (v3, m3)) else (some (x1, m3)))
set_option maxHeartbeats 4000000 in
theorem rb_Model_judged_99 {E : EE} (p1 : Int)    (v2 : Int) (v3 : Int)  (mem : Mm) : RO E mt_Model_judged (bo_Model_judged_99 p1  v2 v3 mem) 99 [(0, rf 203), (1, vi p1), (2, vi v2), (3, vi v3)] [] mem := by
  unfold bo_Model_judged_99
  refine RO_aload_n dc_Model_judged_99 rfl rfl ?_
  refine RO_getR (b := 245) gf_Model_135 lk_203 rfl dc_Model_judged_100 ?_
  refine RO_iconst dc_Model_judged_103 ?_
  refine RO_ia lk_245 ⟨by decide, by decide⟩ dc_Model_judged_104 ?_
  refine RO_bnT (fun x1 => ?_)
  refine RO_istore dc_Model_judged_105 (Nat.le_of_ble_eq_true rfl) ?_
  refine RO_aload_n dc_Model_judged_107 rfl rfl ?_
  refine RO_getR (b := 246) gf_Model_138 lk_203 rfl dc_Model_judged_108 ?_
  refine RO_iconst dc_Model_judged_111 ?_
  refine RO_aload_n dc_Model_judged_112 rfl rfl ?_
  refine RO_getR (b := 245) gf_Model_135 lk_203 rfl dc_Model_judged_113 ?_
  refine RO_iconst dc_Model_judged_116 ?_
  refine RO_callSv (As := [rf 246, vi 0, rf 245, vi 0]) (rest := []) mi_Model_copies ms_Model_copies ml_Model_482 (Nat.le_of_ble_eq_true rfl) rfl (Nat.le_of_ble_eq_true rfl) dc_Model_judged_117 (fun rq mq hq => pf_Model_copies 16 246 0 16 245 0 lk_246 lk_245 mem hq) (fun r2 m3 => ?_)
  refine RO_iload_n dc_Model_judged_120 rfl rfl ?_
  refine RO_if_ne (tgt := 128) dc_Model_judged_121 rfl ?_ ?_
  · refine RO_iload_n dc_Model_judged_124 rfl rfl ?_
    refine RO_goto (tgt := 139) dc_Model_judged_125 rfl ?_
    exact RO_iret rfl dc_Model_judged_139
  · refine RO_iload_n dc_Model_judged_128 rfl rfl ?_
    refine RO_iconst dc_Model_judged_129 ?_
    refine RO_icmp_ne (tgt := 137) dc_Model_judged_130 rfl ?_ ?_
    · refine RO_iload_n dc_Model_judged_133 rfl rfl ?_
      refine RO_goto (tgt := 139) dc_Model_judged_134 rfl ?_
      exact RO_iret rfl dc_Model_judged_139
    · refine RO_iload dc_Model_judged_137 rfl ?_
      exact RO_iret rfl dc_Model_judged_139
def bo_Model_judged_93 (p1 : Int) (k41 : Int → Int → Int → Mm → Res) (v2 : Int) (v3 : Int) (v4 : Int) (mem : Mm) : Res := k41 v2 v3 (w32 (v4 + 1)) mem
set_option maxHeartbeats 4000000 in
theorem rb_Model_judged_93 {E : EE} (p1 : Int)  (k41 : Int → Int → Int → Mm → Res) (H41 : ∀ (v2 : Int) (v3 : Int) (v4 : Int)  (mem : Mm), RO E mt_Model_judged (k41 v2 v3 v4 mem) 41 [(0, rf 203), (1, vi p1), (2, vi v2), (3, vi v3), (4, vi v4)] [] mem) (v2 : Int) (v3 : Int) (v4 : Int)  (mem : Mm) : RO E mt_Model_judged (bo_Model_judged_93 p1 k41 v2 v3 v4 mem) 93 [(0, rf 203), (1, vi p1), (2, vi v2), (3, vi v3), (4, vi v4)] [] mem := by
  unfold bo_Model_judged_93
  refine RO_iinc dc_Model_judged_93 rfl (Nat.le_of_ble_eq_true rfl) ?_
  refine RO_goto (tgt := 41) dc_Model_judged_96 rfl ?_
  refine RO_sub ?_ (H41 v2 v3 (w32 (v4 + 1)) mem)
  exact ⟨rfl, rfl, rfl, rfl, rfl, trivial⟩
def bo_Model_judged_68 (p1 : Int) (k41 : Int → Int → Int → Mm → Res) (v2 : Int) (v3 : Int) (v4 : Int) (mem : Mm) : Res := if 0 ≤ v4 ∧ v4 < 180 then if (mem 237 v4.toNat) = 4 then (if 0 < (mem 203 64) then (if v3 < 0 then (bo_Model_judged_93 p1 k41 v2 v4 v4 mem) else (bo_Model_judged_93 p1 k41 v2 v3 v4 mem)) else (bo_Model_judged_93 p1 k41 v2 v3 v4 mem)) else (bo_Model_judged_93 p1 k41 v2 v3 v4 mem) else none
set_option maxHeartbeats 4000000 in
theorem rb_Model_judged_68 {E : EE} (p1 : Int)  (k41 : Int → Int → Int → Mm → Res) (H41 : ∀ (v2 : Int) (v3 : Int) (v4 : Int)  (mem : Mm), RO E mt_Model_judged (k41 v2 v3 v4 mem) 41 [(0, rf 203), (1, vi p1), (2, vi v2), (3, vi v3), (4, vi v4)] [] mem) (v2 : Int) (v3 : Int) (v4 : Int)  (mem : Mm) : RO E mt_Model_judged (bo_Model_judged_68 p1 k41 v2 v3 v4 mem) 68 [(0, rf 203), (1, vi p1), (2, vi v2), (3, vi v3), (4, vi v4)] [] mem := by
  unfold bo_Model_judged_68
  refine RO_aload_n dc_Model_judged_68 rfl rfl ?_
  refine RO_getR (b := 237) gf_Model_111 lk_203 rfl dc_Model_judged_69 ?_
  refine RO_iload dc_Model_judged_72 rfl ?_
  refine RO_chk (fun hi1 => ?_)
  refine RO_ia lk_237 hi1 dc_Model_judged_74 ?_
  refine RO_iconst dc_Model_judged_75 ?_
  refine RO_icmp_ne (tgt := 93) dc_Model_judged_76 rfl ?_ ?_
  · refine RO_aload_n dc_Model_judged_79 rfl rfl ?_
    refine RO_getI gf_Model_498 lk_203 dc_Model_judged_80 ?_
    refine RO_if_le (tgt := 93) dc_Model_judged_83 rfl ?_ ?_
    · refine RO_iload_n dc_Model_judged_86 rfl rfl ?_
      refine RO_if_ge (tgt := 93) dc_Model_judged_87 rfl ?_ ?_
      · refine RO_iload dc_Model_judged_90 rfl ?_
        refine RO_istore_n dc_Model_judged_92 rfl (Nat.le_of_ble_eq_true rfl) ?_
        refine RO_sub ?_ (rb_Model_judged_93 p1 k41 H41 v2 v4 v4 mem)
        exact ⟨rfl, rfl, rfl, rfl, rfl, trivial⟩
      · refine RO_sub ?_ (rb_Model_judged_93 p1 k41 H41 v2 v3 v4 mem)
        exact ⟨rfl, rfl, rfl, rfl, rfl, trivial⟩
    · refine RO_sub ?_ (rb_Model_judged_93 p1 k41 H41 v2 v3 v4 mem)
      exact ⟨rfl, rfl, rfl, rfl, rfl, trivial⟩
  · refine RO_sub ?_ (rb_Model_judged_93 p1 k41 H41 v2 v3 v4 mem)
    exact ⟨rfl, rfl, rfl, rfl, rfl, trivial⟩
def bo_Model_judged_41 (p1 : Int) (k41 : Int → Int → Int → Mm → Res) (v2 : Int) (v3 : Int) (v4 : Int) (mem : Mm) : Res := if v4 < (mem 236 (0 : Int).toNat) then (bd (fn_Model_goes v4 mem) fun r1 m2 => if r1 = 0 then (if v2 < 0 then (bo_Model_judged_68 p1 k41 v4 v3 v4 m2) else (bo_Model_judged_68 p1 k41 v2 v3 v4 m2)) else (bo_Model_judged_68 p1 k41 v2 v3 v4 m2)) else (bo_Model_judged_99 p1 v2 v3 mem)
set_option maxHeartbeats 4000000 in
theorem rb_Model_judged_41 {E : EE} (p1 : Int)  (k41 : Int → Int → Int → Mm → Res) (H41 : ∀ (v2 : Int) (v3 : Int) (v4 : Int)  (mem : Mm), RO E mt_Model_judged (k41 v2 v3 v4 mem) 41 [(0, rf 203), (1, vi p1), (2, vi v2), (3, vi v3), (4, vi v4)] [] mem) (v2 : Int) (v3 : Int) (v4 : Int)  (mem : Mm) : RO E mt_Model_judged (bo_Model_judged_41 p1 k41 v2 v3 v4 mem) 41 [(0, rf 203), (1, vi p1), (2, vi v2), (3, vi v3), (4, vi v4)] [] mem := by
  unfold bo_Model_judged_41
  refine RO_iload dc_Model_judged_41 rfl ?_
  refine RO_aload_n dc_Model_judged_43 rfl rfl ?_
  refine RO_getR (b := 236) gf_Model_108 lk_203 rfl dc_Model_judged_44 ?_
  refine RO_iconst dc_Model_judged_47 ?_
  refine RO_ia lk_236 ⟨by decide, by decide⟩ dc_Model_judged_48 ?_
  refine RO_icmp_ge (tgt := 99) dc_Model_judged_49 rfl ?_ ?_
  · refine RO_aload_n dc_Model_judged_52 rfl rfl ?_
    refine RO_iload dc_Model_judged_53 rfl ?_
    refine RO_callVi (As := [vi v4]) (rest := []) mi_Model_goes mv_Model_goes ml_Model_504 lk_203 (Nat.le_of_ble_eq_true rfl) rfl (Nat.le_of_ble_eq_true rfl) (fun _ => rfl) dc_Model_judged_55 (fun rq mq hq => pf_Model_goes v4  mem hq) (fun r1 m2 => ?_)
    refine RO_if_ne (tgt := 68) dc_Model_judged_58 rfl ?_ ?_
    · refine RO_iload_n dc_Model_judged_61 rfl rfl ?_
      refine RO_if_ge (tgt := 68) dc_Model_judged_62 rfl ?_ ?_
      · refine RO_iload dc_Model_judged_65 rfl ?_
        refine RO_istore_n dc_Model_judged_67 rfl (Nat.le_of_ble_eq_true rfl) ?_
        refine RO_sub ?_ (rb_Model_judged_68 p1 k41 H41 v4 v3 v4 m2)
        exact ⟨rfl, rfl, rfl, rfl, rfl, trivial⟩
      · refine RO_sub ?_ (rb_Model_judged_68 p1 k41 H41 v2 v3 v4 m2)
        exact ⟨rfl, rfl, rfl, rfl, rfl, trivial⟩
    · refine RO_sub ?_ (rb_Model_judged_68 p1 k41 H41 v2 v3 v4 m2)
      exact ⟨rfl, rfl, rfl, rfl, rfl, trivial⟩
  · refine RO_sub ?_ (rb_Model_judged_99 p1 v2 v3 mem)
    exact ⟨rfl, rfl, rfl, rfl, trivial⟩
def lp_Model_judged_41 (p1 : Int)  : Nat → Int → Int → Int → Mm → Res
  | 0 => fun _ _ _ _ => none
  | n + 1 => bo_Model_judged_41 p1  (lp_Model_judged_41 p1  n)
theorem rp_Model_judged_41 {E : EE} (p1 : Int)    : ∀ (n : Nat) (v2 : Int) (v3 : Int) (v4 : Int)  (mem : Mm), RO E mt_Model_judged (lp_Model_judged_41 p1  n v2 v3 v4 mem) 41 [(0, rf 203), (1, vi p1), (2, vi v2), (3, vi v3), (4, vi v4)] [] mem := by
  intro n
  induction n with
  | zero => intro v2 v3 v4  mem; exact RO_none
  | succ n ih => intro v2 v3 v4  mem; exact rb_Model_judged_41 p1   (lp_Model_judged_41 p1  n)  ih v2 v3 v4  mem
def fn_Model_judged (p1 : Int) (mem : Mm) : Res := bn (mst mem 203 0 0) fun m1 => bd (fn_Model_within p1 0 2 m1) fun r2 m3 => if r2 = 0 then (some ((-2), m3)) else (bd (fn_Model_copies 16 245 0 16 246 0 m3) fun r4 m5 => bd (fn_Model_fresh  m5) fun r6 m7 => lp_Model_judged_41 p1 FU (-1) (-1) 0 m7)
set_option maxHeartbeats 4000000 in
theorem pf_Model_judged {E : EE} (p1 : Int)  (mem : Mm) {r : Int} {mem9 : Mm} (h : fn_Model_judged p1 mem = some (r, mem9)) : MetX E 7 yn_Model_judged cd_Model_judged 5 (some .int) [rf 203, vi p1] mem r mem9 := by
  refine RO_met (y := yn_Model_judged) (by decide +kernel) (Nat.le_of_ble_eq_true rfl) ?_ h
  show RO E mt_Model_judged (fn_Model_judged p1 mem) 0 [(0, rf 203), (1, vi p1)] [] mem
  unfold fn_Model_judged
  refine RO_aload_n dc_Model_judged_0 rfl rfl ?_
  refine RO_iconst dc_Model_judged_1 ?_
  refine RO_putI gp_Model_183 lk_203 dc_Model_judged_2 ?_
  refine RO_bnM (fun m1 => ?_)
  refine RO_iload_n dc_Model_judged_5 rfl rfl ?_
  refine RO_iconst dc_Model_judged_6 ?_
  refine RO_iconst dc_Model_judged_7 ?_
  refine RO_callSi (As := [vi p1, vi 0, vi 2]) (rest := []) mi_Model_within ms_Model_within ml_Model_318 (Nat.le_of_ble_eq_true rfl) rfl (Nat.le_of_ble_eq_true rfl) (fun _ => rfl) dc_Model_judged_8 (fun rq mq hq => pf_Model_within p1 0 2  m1 hq) (fun r2 m3 => ?_)
  refine RO_if_ne (tgt := 17) dc_Model_judged_11 rfl ?_ ?_
  · refine RO_bipush dc_Model_judged_14 ?_
    exact RO_iret rfl dc_Model_judged_16
  · refine RO_aload_n dc_Model_judged_17 rfl rfl ?_
    refine RO_getR (b := 245) gf_Model_135 lk_203 rfl dc_Model_judged_18 ?_
    refine RO_iconst dc_Model_judged_21 ?_
    refine RO_aload_n dc_Model_judged_22 rfl rfl ?_
    refine RO_getR (b := 246) gf_Model_138 lk_203 rfl dc_Model_judged_23 ?_
    refine RO_iconst dc_Model_judged_26 ?_
    refine RO_callSv (As := [rf 245, vi 0, rf 246, vi 0]) (rest := []) mi_Model_copies ms_Model_copies ml_Model_482 (Nat.le_of_ble_eq_true rfl) rfl (Nat.le_of_ble_eq_true rfl) dc_Model_judged_27 (fun rq mq hq => pf_Model_copies 16 245 0 16 246 0 lk_245 lk_246 m3 hq) (fun r4 m5 => ?_)
    refine RO_aload_n dc_Model_judged_30 rfl rfl ?_
    refine RO_callVv (As := []) (rest := []) mi_Model_fresh mv_Model_fresh ml_Model_411 lk_203 (Nat.le_of_ble_eq_true rfl) rfl (Nat.le_of_ble_eq_true rfl) dc_Model_judged_31 (fun rq mq hq => pf_Model_fresh   m5 hq) (fun r6 m7 => ?_)
    refine RO_iconst dc_Model_judged_34 ?_
    refine RO_istore_n dc_Model_judged_35 rfl (Nat.le_of_ble_eq_true rfl) ?_
    refine RO_iconst dc_Model_judged_36 ?_
    refine RO_istore_n dc_Model_judged_37 rfl (Nat.le_of_ble_eq_true rfl) ?_
    refine RO_iconst dc_Model_judged_38 ?_
    refine RO_istore dc_Model_judged_39 (Nat.le_of_ble_eq_true rfl) ?_
    refine RO_sub ?_ (rp_Model_judged_41 p1 FU (-1) (-1) 0 m7)
    exact ⟨rfl, rfl, rfl, rfl, rfl, trivial⟩
def bo_Model_stands_171 (kr0 : Int → Int → Int → Mm → Res) (p1 : Int) (p2 : Int) (p3 : Int) (k97 : Int → Mm → Res) (v4 : Int) (mem : Mm) : Res := k97 (w32 (v4 + 1)) mem
set_option maxHeartbeats 4000000 in
theorem rb_Model_stands_171 {E : EE} (kr0 : Int → Int → Int → Mm → Res) (p1 : Int) (p2 : Int) (p3 : Int) (d : Nat) (hd0 : 2 ≤ d) (Hkr0 : ∀ (p1 : Int) (p2 : Int) (p3 : Int)  (mem : Mm) (r : Int) (mem9 : Mm), kr0 p1 p2 p3 mem = some (r, mem9) → MetX E d yn_Model_stands cd_Model_stands 5 none [rf 203, vi p1, vi p2, vi p3] mem r mem9)   (k97 : Int → Mm → Res) (H97 : ∀ (v4 : Int)  (mem : Mm), RO E (mt_Model_stands (d + 1)) (k97 v4 mem) 97 [(0, rf 203), (1, vi p1), (2, vi p2), (3, vi p3), (4, vi v4)] [] mem) (v4 : Int)  (mem : Mm) : RO E (mt_Model_stands (d + 1)) (bo_Model_stands_171 kr0 p1 p2 p3 k97 v4 mem) 171 [(0, rf 203), (1, vi p1), (2, vi p2), (3, vi p3), (4, vi v4)] [] mem := by
  unfold bo_Model_stands_171
  refine RO_iinc dc_Model_stands_171 rfl (Nat.le_of_ble_eq_true rfl) ?_
  refine RO_goto (tgt := 97) dc_Model_stands_174 rfl ?_
  refine RO_sub ?_ (H97 (w32 (v4 + 1)) mem)
  exact ⟨rfl, rfl, rfl, rfl, rfl, trivial⟩
def bo_Model_stands_97 (kr0 : Int → Int → Int → Mm → Res) (p1 : Int) (p2 : Int) (p3 : Int) (k97 : Int → Mm → Res) (v4 : Int) (mem : Mm) : Res := if v4 < (mem 205 (1 : Int).toNat) then (if (iand (ishr p2 v4) 1) = 1 then (bo_Model_stands_171 kr0 p1 p2 p3 k97 v4 mem) else (bd (fn_Model_canStand p1 v4 mem) fun r1 m2 => if r1 = 0 then (bo_Model_stands_171 kr0 p1 p2 p3 k97 v4 m2) else (if 0 ≤ p1 ∧ p1 < 6 then bn (mst m2 256 p1.toNat v4) fun m4 => if 0 ≤ p1 ∧ p1 < 12 then bd (fn_Model_firstAt v4 (m4 219 p1.toNat) m4) fun r6 m7 => bd (fn_Model_offBy p1 r6 m7) fun r8 m9 => bd (kr0 (w32 (p1 + 1)) (ior p2 (ishl 1 v4)) (w32 (p3 + r8)) m9) fun r10 m11 => bo_Model_stands_171 kr0 p1 p2 p3 k97 v4 m11 else none else none))) else (some (0, mem))
set_option maxHeartbeats 4000000 in
theorem rb_Model_stands_97 {E : EE} (kr0 : Int → Int → Int → Mm → Res) (p1 : Int) (p2 : Int) (p3 : Int) (d : Nat) (hd0 : 2 ≤ d) (Hkr0 : ∀ (p1 : Int) (p2 : Int) (p3 : Int)  (mem : Mm) (r : Int) (mem9 : Mm), kr0 p1 p2 p3 mem = some (r, mem9) → MetX E d yn_Model_stands cd_Model_stands 5 none [rf 203, vi p1, vi p2, vi p3] mem r mem9)   (k97 : Int → Mm → Res) (H97 : ∀ (v4 : Int)  (mem : Mm), RO E (mt_Model_stands (d + 1)) (k97 v4 mem) 97 [(0, rf 203), (1, vi p1), (2, vi p2), (3, vi p3), (4, vi v4)] [] mem) (v4 : Int)  (mem : Mm) : RO E (mt_Model_stands (d + 1)) (bo_Model_stands_97 kr0 p1 p2 p3 k97 v4 mem) 97 [(0, rf 203), (1, vi p1), (2, vi p2), (3, vi p3), (4, vi v4)] [] mem := by
  unfold bo_Model_stands_97
  refine RO_iload dc_Model_stands_97 rfl ?_
  refine RO_aload_n dc_Model_stands_99 rfl rfl ?_
  refine RO_getR (b := 205) gf_Model_13 lk_203 rfl dc_Model_stands_100 ?_
  refine RO_iconst dc_Model_stands_103 ?_
  refine RO_ia lk_205 ⟨by decide, by decide⟩ dc_Model_stands_104 ?_
  refine RO_icmp_ge (tgt := 177) dc_Model_stands_105 rfl ?_ ?_
  · refine RO_iload_n dc_Model_stands_108 rfl rfl ?_
    refine RO_iload dc_Model_stands_109 rfl ?_
    refine RO_ishr dc_Model_stands_111 ?_
    refine RO_iconst dc_Model_stands_112 ?_
    refine RO_iand dc_Model_stands_113 ?_
    refine RO_iconst dc_Model_stands_114 ?_
    refine RO_icmp_eq (tgt := 171) dc_Model_stands_115 rfl ?_ ?_
    · refine RO_sub ?_ (rb_Model_stands_171 kr0 p1 p2 p3 d hd0 Hkr0 k97 H97 v4 mem)
      exact ⟨rfl, rfl, rfl, rfl, rfl, trivial⟩
    · refine RO_aload_n dc_Model_stands_118 rfl rfl ?_
      refine RO_iload_n dc_Model_stands_119 rfl rfl ?_
      refine RO_iload dc_Model_stands_120 rfl ?_
      refine RO_callVi (As := [vi p1, vi v4]) (rest := []) mi_Model_canStand mv_Model_canStand ml_Model_495 lk_203 (by show _ < d + 1; omega) rfl (Nat.le_of_ble_eq_true rfl) (fun _ => rfl) dc_Model_stands_122 (fun rq mq hq => pf_Model_canStand p1 v4  mem hq) (fun r1 m2 => ?_)
      refine RO_if_ne (tgt := 131) dc_Model_stands_125 rfl ?_ ?_
      · refine RO_goto (tgt := 171) dc_Model_stands_128 rfl ?_
        refine RO_sub ?_ (rb_Model_stands_171 kr0 p1 p2 p3 d hd0 Hkr0 k97 H97 v4 m2)
        exact ⟨rfl, rfl, rfl, rfl, rfl, trivial⟩
      · refine RO_aload_n dc_Model_stands_131 rfl rfl ?_
        refine RO_getR (b := 256) gf_Model_168 lk_203 rfl dc_Model_stands_132 ?_
        refine RO_iload_n dc_Model_stands_135 rfl rfl ?_
        refine RO_iload dc_Model_stands_136 rfl ?_
        refine RO_chk (fun hi3 => ?_)
        refine RO_is lk_256 hi3 dc_Model_stands_138 ?_
        refine RO_bnM (fun m4 => ?_)
        refine RO_aload_n dc_Model_stands_139 rfl rfl ?_
        refine RO_iload_n dc_Model_stands_140 rfl rfl ?_
        refine RO_iconst dc_Model_stands_141 ?_
        refine RO_iadd dc_Model_stands_142 ?_
        refine RO_iload_n dc_Model_stands_143 rfl rfl ?_
        refine RO_iconst dc_Model_stands_144 ?_
        refine RO_iload dc_Model_stands_145 rfl ?_
        refine RO_ishl dc_Model_stands_147 ?_
        refine RO_ior dc_Model_stands_148 ?_
        refine RO_iload_n dc_Model_stands_149 rfl rfl ?_
        refine RO_aload_n dc_Model_stands_150 rfl rfl ?_
        refine RO_iload_n dc_Model_stands_151 rfl rfl ?_
        refine RO_aload_n dc_Model_stands_152 rfl rfl ?_
        refine RO_iload dc_Model_stands_153 rfl ?_
        refine RO_aload_n dc_Model_stands_155 rfl rfl ?_
        refine RO_getR (b := 219) gf_Model_56 lk_203 rfl dc_Model_stands_156 ?_
        refine RO_iload_n dc_Model_stands_159 rfl rfl ?_
        refine RO_chk (fun hi5 => ?_)
        refine RO_ia lk_219 hi5 dc_Model_stands_160 ?_
        refine RO_callVi (As := [vi v4, vi (m4 219 p1.toNat)]) (rest := [vi p1, rf 203, vi p3, vi (ior p2 (ishl 1 v4)), vi (w32 (p1 + 1)), rf 203]) mi_Model_firstAt mv_Model_firstAt ml_Model_448 lk_203 (by show _ < d + 1; omega) rfl (Nat.le_of_ble_eq_true rfl) (fun _ => rfl) dc_Model_stands_161 (fun rq mq hq => pf_Model_firstAt v4 (m4 219 p1.toNat)  m4 hq) (fun r6 m7 => ?_)
        refine RO_callVi (As := [vi p1, vi r6]) (rest := [vi p3, vi (ior p2 (ishl 1 v4)), vi (w32 (p1 + 1)), rf 203]) mi_Model_offBy mv_Model_offBy ml_Model_457 lk_203 (by show _ < d + 1; omega) rfl (Nat.le_of_ble_eq_true rfl) (fun _ => rfl) dc_Model_stands_164 (fun rq mq hq => pf_Model_offBy p1 r6  m7 hq) (fun r8 m9 => ?_)
        refine RO_iadd dc_Model_stands_167 ?_
        refine RO_callVv (As := [vi (w32 (p1 + 1)), vi (ior p2 (ishl 1 v4)), vi (w32 (p3 + r8))]) (rest := []) mi_Model_stands mv_Model_stands ml_Model_525 lk_203 (by show _ < d + 1; omega) rfl (Nat.le_of_ble_eq_true rfl) dc_Model_stands_168 (fun rq mq hq => Hkr0 (w32 (p1 + 1)) (ior p2 (ishl 1 v4)) (w32 (p3 + r8))  m9 rq mq hq) (fun r10 m11 => ?_)
        refine RO_sub ?_ (rb_Model_stands_171 kr0 p1 p2 p3 d hd0 Hkr0 k97 H97 v4 m11)
        exact ⟨rfl, rfl, rfl, rfl, rfl, trivial⟩
  · exact RO_vret rfl dc_Model_stands_177
def lp_Model_stands_97 (kr0 : Int → Int → Int → Mm → Res) (p1 : Int) (p2 : Int) (p3 : Int)  : Nat → Int → Mm → Res
  | 0 => fun _ _ => none
  | n + 1 => bo_Model_stands_97 kr0 p1 p2 p3  (lp_Model_stands_97 kr0 p1 p2 p3  n)
theorem rp_Model_stands_97 {E : EE} (kr0 : Int → Int → Int → Mm → Res) (p1 : Int) (p2 : Int) (p3 : Int) (d : Nat) (hd0 : 2 ≤ d) (Hkr0 : ∀ (p1 : Int) (p2 : Int) (p3 : Int)  (mem : Mm) (r : Int) (mem9 : Mm), kr0 p1 p2 p3 mem = some (r, mem9) → MetX E d yn_Model_stands cd_Model_stands 5 none [rf 203, vi p1, vi p2, vi p3] mem r mem9)     : ∀ (n : Nat) (v4 : Int)  (mem : Mm), RO E (mt_Model_stands (d + 1)) (lp_Model_stands_97 kr0 p1 p2 p3  n v4 mem) 97 [(0, rf 203), (1, vi p1), (2, vi p2), (3, vi p3), (4, vi v4)] [] mem := by
  intro n
  induction n with
  | zero => intro v4  mem; exact RO_none
  | succ n ih => intro v4  mem; exact rb_Model_stands_97 kr0 p1 p2 p3 d hd0 Hkr0   (lp_Model_stands_97 kr0 p1 p2 p3  n)  ih v4  mem
def bo_Model_stands_34 (kr0 : Int → Int → Int → Mm → Res) (p1 : Int) (p2 : Int) (p3 : Int) (k34 : Int → Mm → Res) (v4 : Int) (mem : Mm) : Res := if v4 < p1 then (if 0 ≤ v4 ∧ v4 < 6 then if 0 ≤ v4 ∧ v4 < 6 then bn (mst mem 257 v4.toNat (mem 256 v4.toNat)) fun m3 => k34 (w32 (v4 + 1)) m3 else none else none) else (some (0, mem))
set_option maxHeartbeats 4000000 in
theorem rb_Model_stands_34 {E : EE} (kr0 : Int → Int → Int → Mm → Res) (p1 : Int) (p2 : Int) (p3 : Int) (d : Nat) (hd0 : 2 ≤ d) (Hkr0 : ∀ (p1 : Int) (p2 : Int) (p3 : Int)  (mem : Mm) (r : Int) (mem9 : Mm), kr0 p1 p2 p3 mem = some (r, mem9) → MetX E d yn_Model_stands cd_Model_stands 5 none [rf 203, vi p1, vi p2, vi p3] mem r mem9)   (k34 : Int → Mm → Res) (H34 : ∀ (v4 : Int)  (mem : Mm), RO E (mt_Model_stands (d + 1)) (k34 v4 mem) 34 [(0, rf 203), (1, vi p1), (4, vi v4)] [] mem) (v4 : Int)  (mem : Mm) : RO E (mt_Model_stands (d + 1)) (bo_Model_stands_34 kr0 p1 p2 p3 k34 v4 mem) 34 [(0, rf 203), (1, vi p1), (4, vi v4)] [] mem := by
  unfold bo_Model_stands_34
  refine RO_iload dc_Model_stands_34 rfl ?_
  refine RO_iload_n dc_Model_stands_36 rfl rfl ?_
  refine RO_icmp_ge (tgt := 60) dc_Model_stands_37 rfl ?_ ?_
  · refine RO_aload_n dc_Model_stands_40 rfl rfl ?_
    refine RO_getR (b := 257) gf_Model_171 lk_203 rfl dc_Model_stands_41 ?_
    refine RO_iload dc_Model_stands_44 rfl ?_
    refine RO_aload_n dc_Model_stands_46 rfl rfl ?_
    refine RO_getR (b := 256) gf_Model_168 lk_203 rfl dc_Model_stands_47 ?_
    refine RO_iload dc_Model_stands_50 rfl ?_
    refine RO_chk (fun hi1 => ?_)
    refine RO_ia lk_256 hi1 dc_Model_stands_52 ?_
    refine RO_chk (fun hi2 => ?_)
    refine RO_is lk_257 hi2 dc_Model_stands_53 ?_
    refine RO_bnM (fun m3 => ?_)
    refine RO_iinc dc_Model_stands_54 rfl (Nat.le_of_ble_eq_true rfl) ?_
    refine RO_goto (tgt := 34) dc_Model_stands_57 rfl ?_
    refine RO_sub ?_ (H34 (w32 (v4 + 1)) m3)
    exact ⟨rfl, rfl, rfl, trivial⟩
  · exact RO_vret rfl dc_Model_stands_60
def lp_Model_stands_34 (kr0 : Int → Int → Int → Mm → Res) (p1 : Int) (p2 : Int) (p3 : Int)  : Nat → Int → Mm → Res
  | 0 => fun _ _ => none
  | n + 1 => bo_Model_stands_34 kr0 p1 p2 p3  (lp_Model_stands_34 kr0 p1 p2 p3  n)
theorem rp_Model_stands_34 {E : EE} (kr0 : Int → Int → Int → Mm → Res) (p1 : Int) (p2 : Int) (p3 : Int) (d : Nat) (hd0 : 2 ≤ d) (Hkr0 : ∀ (p1 : Int) (p2 : Int) (p3 : Int)  (mem : Mm) (r : Int) (mem9 : Mm), kr0 p1 p2 p3 mem = some (r, mem9) → MetX E d yn_Model_stands cd_Model_stands 5 none [rf 203, vi p1, vi p2, vi p3] mem r mem9)     : ∀ (n : Nat) (v4 : Int)  (mem : Mm), RO E (mt_Model_stands (d + 1)) (lp_Model_stands_34 kr0 p1 p2 p3  n v4 mem) 34 [(0, rf 203), (1, vi p1), (4, vi v4)] [] mem := by
  intro n
  induction n with
  | zero => intro v4  mem; exact RO_none
  | succ n ih => intro v4  mem; exact rb_Model_stands_34 kr0 p1 p2 p3 d hd0 Hkr0   (lp_Model_stands_34 kr0 p1 p2 p3  n)  ih v4  mem
def bo_Model_stands_16 (kr0 : Int → Int → Int → Mm → Res) (p1 : Int) (p2 : Int) (p3 : Int)   (mem : Mm) : Res := if p1 = (mem 205 (2 : Int).toNat) then (bn (mst mem 203 68 p3) fun m1 => lp_Model_stands_34 kr0 p1 p2 p3 FU 0 m1) else (if 0 ≤ w32 (10 + p1) ∧ w32 (10 + p1) < 16 then bd (fn_Model_isAlive (mem 245 (w32 (10 + p1)).toNat) mem) fun r3 m4 => if r3 = 0 then (lp_Model_stands_97 kr0 p1 p2 p3 FU 0 m4) else (if 0 ≤ p1 ∧ p1 < 6 then bn (mst m4 256 p1.toNat (-1)) fun m6 => bd (kr0 (w32 (p1 + 1)) p2 p3 m6) fun r7 m8 => some (0, m8) else none) else none)
set_option maxHeartbeats 4000000 in
theorem rb_Model_stands_16 {E : EE} (kr0 : Int → Int → Int → Mm → Res) (p1 : Int) (p2 : Int) (p3 : Int) (d : Nat) (hd0 : 2 ≤ d) (Hkr0 : ∀ (p1 : Int) (p2 : Int) (p3 : Int)  (mem : Mm) (r : Int) (mem9 : Mm), kr0 p1 p2 p3 mem = some (r, mem9) → MetX E d yn_Model_stands cd_Model_stands 5 none [rf 203, vi p1, vi p2, vi p3] mem r mem9)       (mem : Mm) : RO E (mt_Model_stands (d + 1)) (bo_Model_stands_16 kr0 p1 p2 p3   mem) 16 [(0, rf 203), (1, vi p1), (2, vi p2), (3, vi p3)] [] mem := by
  unfold bo_Model_stands_16
  refine RO_iload_n dc_Model_stands_16 rfl rfl ?_
  refine RO_aload_n dc_Model_stands_17 rfl rfl ?_
  refine RO_getR (b := 205) gf_Model_13 lk_203 rfl dc_Model_stands_18 ?_
  refine RO_iconst dc_Model_stands_21 ?_
  refine RO_ia lk_205 ⟨by decide, by decide⟩ dc_Model_stands_22 ?_
  refine RO_icmp_ne (tgt := 61) dc_Model_stands_23 rfl ?_ ?_
  · refine RO_aload_n dc_Model_stands_26 rfl rfl ?_
    refine RO_iload_n dc_Model_stands_27 rfl rfl ?_
    refine RO_putI gp_Model_522 lk_203 dc_Model_stands_28 ?_
    refine RO_bnM (fun m1 => ?_)
    refine RO_iconst dc_Model_stands_31 ?_
    refine RO_istore dc_Model_stands_32 (Nat.le_of_ble_eq_true rfl) ?_
    refine RO_sub ?_ (rp_Model_stands_34 kr0 p1 p2 p3 d hd0 Hkr0 FU 0 m1)
    exact ⟨rfl, rfl, rfl, trivial⟩
  · refine RO_aload_n dc_Model_stands_61 rfl rfl ?_
    refine RO_aload_n dc_Model_stands_62 rfl rfl ?_
    refine RO_getR (b := 245) gf_Model_135 lk_203 rfl dc_Model_stands_63 ?_
    refine RO_bipush dc_Model_stands_66 ?_
    refine RO_iload_n dc_Model_stands_68 rfl rfl ?_
    refine RO_iadd dc_Model_stands_69 ?_
    refine RO_chk (fun hi2 => ?_)
    refine RO_ia lk_245 hi2 dc_Model_stands_70 ?_
    refine RO_callVi (As := [vi (mem 245 (w32 (10 + p1)).toNat)]) (rest := []) mi_Model_isAlive mv_Model_isAlive ml_Model_489 lk_203 (by show _ < d + 1; omega) rfl (Nat.le_of_ble_eq_true rfl) (fun _ => rfl) dc_Model_stands_71 (fun rq mq hq => pf_Model_isAlive (mem 245 (w32 (10 + p1)).toNat)  mem hq) (fun r3 m4 => ?_)
    refine RO_if_eq (tgt := 94) dc_Model_stands_74 rfl ?_ ?_
    · refine RO_iconst dc_Model_stands_94 ?_
      refine RO_istore dc_Model_stands_95 (Nat.le_of_ble_eq_true rfl) ?_
      refine RO_sub ?_ (rp_Model_stands_97 kr0 p1 p2 p3 d hd0 Hkr0 FU 0 m4)
      exact ⟨rfl, rfl, rfl, rfl, rfl, trivial⟩
    · refine RO_aload_n dc_Model_stands_77 rfl rfl ?_
      refine RO_getR (b := 256) gf_Model_168 lk_203 rfl dc_Model_stands_78 ?_
      refine RO_iload_n dc_Model_stands_81 rfl rfl ?_
      refine RO_iconst dc_Model_stands_82 ?_
      refine RO_chk (fun hi5 => ?_)
      refine RO_is lk_256 hi5 dc_Model_stands_83 ?_
      refine RO_bnM (fun m6 => ?_)
      refine RO_aload_n dc_Model_stands_84 rfl rfl ?_
      refine RO_iload_n dc_Model_stands_85 rfl rfl ?_
      refine RO_iconst dc_Model_stands_86 ?_
      refine RO_iadd dc_Model_stands_87 ?_
      refine RO_iload_n dc_Model_stands_88 rfl rfl ?_
      refine RO_iload_n dc_Model_stands_89 rfl rfl ?_
      refine RO_callVv (As := [vi (w32 (p1 + 1)), vi p2, vi p3]) (rest := []) mi_Model_stands mv_Model_stands ml_Model_525 lk_203 (by show _ < d + 1; omega) rfl (Nat.le_of_ble_eq_true rfl) dc_Model_stands_90 (fun rq mq hq => Hkr0 (w32 (p1 + 1)) p2 p3  m6 rq mq hq) (fun r7 m8 => ?_)
      exact RO_vret rfl dc_Model_stands_93
def bm_Model_stands (kr0 : Int → Int → Int → Mm → Res) (p1 : Int) (p2 : Int) (p3 : Int) (mem : Mm) : Res := if (mem 203 68) < 0 then (bo_Model_stands_16 kr0 p1 p2 p3 mem) else (if p3 < (mem 203 68) then (bo_Model_stands_16 kr0 p1 p2 p3 mem) else (some (0, mem)))
set_option maxHeartbeats 4000000 in
theorem pb_Model_stands {E : EE} (kr0 : Int → Int → Int → Mm → Res) (d : Nat) (hd0 : 2 ≤ d) (Hkr0 : ∀ (p1 : Int) (p2 : Int) (p3 : Int)  (mem : Mm) (r : Int) (mem9 : Mm), kr0 p1 p2 p3 mem = some (r, mem9) → MetX E d yn_Model_stands cd_Model_stands 5 none [rf 203, vi p1, vi p2, vi p3] mem r mem9)  (p1 : Int) (p2 : Int) (p3 : Int)  (mem : Mm) {r : Int} {mem9 : Mm} (h : bm_Model_stands kr0 p1 p2 p3 mem = some (r, mem9)) : MetX E (d + 1) yn_Model_stands cd_Model_stands 5 none [rf 203, vi p1, vi p2, vi p3] mem r mem9 := by
  refine RO_met (y := yn_Model_stands) (by decide +kernel) (Nat.le_of_ble_eq_true rfl) ?_ h
  show RO E (mt_Model_stands (d + 1)) (bm_Model_stands kr0 p1 p2 p3 mem) 0 [(0, rf 203), (1, vi p1), (2, vi p2), (3, vi p3)] [] mem
  unfold bm_Model_stands
  refine RO_aload_n dc_Model_stands_0 rfl rfl ?_
  refine RO_getI gf_Model_522 lk_203 dc_Model_stands_1 ?_
  refine RO_if_lt (tgt := 16) dc_Model_stands_4 rfl ?_ ?_
  · refine RO_sub ?_ (rb_Model_stands_16 kr0 p1 p2 p3 d hd0 Hkr0 mem)
    exact ⟨rfl, rfl, rfl, rfl, trivial⟩
  · refine RO_iload_n dc_Model_stands_7 rfl rfl ?_
    refine RO_aload_n dc_Model_stands_8 rfl rfl ?_
    refine RO_getI gf_Model_522 lk_203 dc_Model_stands_9 ?_
    refine RO_icmp_lt (tgt := 16) dc_Model_stands_12 rfl ?_ ?_
    · refine RO_sub ?_ (rb_Model_stands_16 kr0 p1 p2 p3 d hd0 Hkr0 mem)
      exact ⟨rfl, rfl, rfl, rfl, trivial⟩
    · exact RO_vret rfl dc_Model_stands_15
def rc_Model_stands : Nat → (Int → Int → Int → Mm → Res)
  | 0 => ((fun _ _ _ _ => none))
  | n + 1 => (bm_Model_stands (rc_Model_stands n))
theorem rq_Model_stands {E : EE} : ∀ n : Nat, (∀ (p1 : Int) (p2 : Int) (p3 : Int)  (mem : Mm) (r : Int) (mem9 : Mm), (rc_Model_stands n) p1 p2 p3 mem = some (r, mem9) → MetX E (2 + n) yn_Model_stands cd_Model_stands 5 none [rf 203, vi p1, vi p2, vi p3] mem r mem9) := by
  intro n
  induction n with
  | zero => exact (fun p1 p2 p3  mem r mem9 h9 => by cases h9)
  | succ n ih => exact (fun p1 p2 p3  mem r mem9 h9 => pb_Model_stands (rc_Model_stands n) (2 + n) (by omega) ih p1 p2 p3  mem h9)
def fn_Model_stands (p1 : Int) (p2 : Int) (p3 : Int) (mem : Mm) : Res := (rc_Model_stands 8) p1 p2 p3 mem
theorem pf_Model_stands {E : EE} (p1 : Int) (p2 : Int) (p3 : Int)  (mem : Mm) {r : Int} {mem9 : Mm} (h : fn_Model_stands p1 p2 p3 mem = some (r, mem9)) : MetX E 10 yn_Model_stands cd_Model_stands 5 none [rf 203, vi p1, vi p2, vi p3] mem r mem9 := (rq_Model_stands 8) p1 p2 p3  mem r mem9 h
def bo_Model_deputies_21 (p1 : Int)   (mem : Mm) : Res := bd (fn_Model_laysDay  mem) fun r1 m2 => bn (mst m2 203 68 (-1)) fun m3 => bd (fn_Model_stands 0 0 0 m3) fun r4 m5 => if (m5 203 68) < 0 then (some ((-2), m5)) else (if p1 = (-1) then (some (m5 203 68, m5)) else (if 0 ≤ p1 ∧ p1 < 6 then some (m5 257 p1.toNat, m5) else none))
set_option maxHeartbeats 4000000 in
theorem rb_Model_deputies_21 {E : EE} (p1 : Int)      (mem : Mm) : RO E mt_Model_deputies (bo_Model_deputies_21 p1   mem) 21 [(0, rf 203), (1, vi p1)] [] mem := by
  unfold bo_Model_deputies_21
  refine RO_aload_n dc_Model_deputies_21 rfl rfl ?_
  refine RO_callVv (As := []) (rest := []) mi_Model_laysDay mv_Model_laysDay ml_Model_470 lk_203 (Nat.le_of_ble_eq_true rfl) rfl (Nat.le_of_ble_eq_true rfl) dc_Model_deputies_22 (fun rq mq hq => pf_Model_laysDay   mem hq) (fun r1 m2 => ?_)
  refine RO_aload_n dc_Model_deputies_25 rfl rfl ?_
  refine RO_iconst dc_Model_deputies_26 ?_
  refine RO_putI gp_Model_522 lk_203 dc_Model_deputies_27 ?_
  refine RO_bnM (fun m3 => ?_)
  refine RO_aload_n dc_Model_deputies_30 rfl rfl ?_
  refine RO_iconst dc_Model_deputies_31 ?_
  refine RO_iconst dc_Model_deputies_32 ?_
  refine RO_iconst dc_Model_deputies_33 ?_
  refine RO_callVv (As := [vi 0, vi 0, vi 0]) (rest := []) mi_Model_stands mv_Model_stands ml_Model_525 lk_203 (Nat.le_of_ble_eq_true rfl) rfl (Nat.le_of_ble_eq_true rfl) dc_Model_deputies_34 (fun rq mq hq => pf_Model_stands 0 0 0  m3 hq) (fun r4 m5 => ?_)
  refine RO_aload_n dc_Model_deputies_37 rfl rfl ?_
  refine RO_getI gf_Model_522 lk_203 dc_Model_deputies_38 ?_
  refine RO_if_ge (tgt := 47) dc_Model_deputies_41 rfl ?_ ?_
  · refine RO_bipush dc_Model_deputies_44 ?_
    exact RO_iret rfl dc_Model_deputies_46
  · refine RO_iload_n dc_Model_deputies_47 rfl rfl ?_
    refine RO_iconst dc_Model_deputies_48 ?_
    refine RO_icmp_ne (tgt := 59) dc_Model_deputies_49 rfl ?_ ?_
    · refine RO_aload_n dc_Model_deputies_52 rfl rfl ?_
      refine RO_getI gf_Model_522 lk_203 dc_Model_deputies_53 ?_
      refine RO_goto (tgt := 65) dc_Model_deputies_56 rfl ?_
      exact RO_iret rfl dc_Model_deputies_65
    · refine RO_aload_n dc_Model_deputies_59 rfl rfl ?_
      refine RO_getR (b := 257) gf_Model_171 lk_203 rfl dc_Model_deputies_60 ?_
      refine RO_iload_n dc_Model_deputies_63 rfl rfl ?_
      refine RO_chk (fun hi6 => ?_)
      refine RO_ia lk_257 hi6 dc_Model_deputies_64 ?_
      exact RO_iret rfl dc_Model_deputies_65
def fn_Model_deputies (p1 : Int) (mem : Mm) : Res := bn (mst mem 203 0 0) fun m1 => if p1 = (-1) then (bo_Model_deputies_21 p1 m1) else (bd (fn_Model_isHour p1 m1) fun r2 m3 => if r2 = 0 then (some ((-2), m3)) else (bo_Model_deputies_21 p1 m3))
set_option maxHeartbeats 4000000 in
theorem pf_Model_deputies {E : EE} (p1 : Int)  (mem : Mm) {r : Int} {mem9 : Mm} (h : fn_Model_deputies p1 mem = some (r, mem9)) : MetX E 11 yn_Model_deputies cd_Model_deputies 2 (some .int) [rf 203, vi p1] mem r mem9 := by
  refine RO_met (y := yn_Model_deputies) (by decide +kernel) (Nat.le_of_ble_eq_true rfl) ?_ h
  show RO E mt_Model_deputies (fn_Model_deputies p1 mem) 0 [(0, rf 203), (1, vi p1)] [] mem
  unfold fn_Model_deputies
  refine RO_aload_n dc_Model_deputies_0 rfl rfl ?_
  refine RO_iconst dc_Model_deputies_1 ?_
  refine RO_putI gp_Model_183 lk_203 dc_Model_deputies_2 ?_
  refine RO_bnM (fun m1 => ?_)
  refine RO_iload_n dc_Model_deputies_5 rfl rfl ?_
  refine RO_iconst dc_Model_deputies_6 ?_
  refine RO_icmp_eq (tgt := 21) dc_Model_deputies_7 rfl ?_ ?_
  · refine RO_sub ?_ (rb_Model_deputies_21 p1 m1)
    exact ⟨rfl, rfl, trivial⟩
  · refine RO_aload_n dc_Model_deputies_10 rfl rfl ?_
    refine RO_iload_n dc_Model_deputies_11 rfl rfl ?_
    refine RO_callVi (As := [vi p1]) (rest := []) mi_Model_isHour mv_Model_isHour ml_Model_473 lk_203 (Nat.le_of_ble_eq_true rfl) rfl (Nat.le_of_ble_eq_true rfl) (fun _ => rfl) dc_Model_deputies_12 (fun rq mq hq => pf_Model_isHour p1  m1 hq) (fun r2 m3 => ?_)
    refine RO_if_ne (tgt := 21) dc_Model_deputies_15 rfl ?_ ?_
    · refine RO_bipush dc_Model_deputies_18 ?_
      exact RO_iret rfl dc_Model_deputies_20
    · refine RO_sub ?_ (rb_Model_deputies_21 p1 m3)
      exact ⟨rfl, rfl, trivial⟩
