def bo_Model_lonely_83 (p1 : Int)  (v2 : Int) (v3 : Int) (mem : Mm) : Res := if v2 = 0 then (some ((-1), mem)) else (if p1 = 0 then (some (v2, mem)) else (some (v3, mem)))
set_option maxHeartbeats 4000000 in
theorem rb_Model_lonely_83 {E : EE} (p1 : Int)    (v2 : Int) (v3 : Int)  (mem : Mm) : RO E mt_Model_lonely (bo_Model_lonely_83 p1  v2 v3 mem) 83 [(1, vi p1), (2, vi v2), (3, vi v3)] [] mem := by
  unfold bo_Model_lonely_83
  refine RO_iload_n dc_Model_lonely_83 rfl rfl ?_
  refine RO_if_ne (tgt := 91) dc_Model_lonely_84 rfl ?_ ?_
  · refine RO_iconst dc_Model_lonely_87 ?_
    refine RO_goto (tgt := 100) dc_Model_lonely_88 rfl ?_
    exact RO_iret rfl dc_Model_lonely_100
  · refine RO_iload_n dc_Model_lonely_91 rfl rfl ?_
    refine RO_if_ne (tgt := 99) dc_Model_lonely_92 rfl ?_ ?_
    · refine RO_iload_n dc_Model_lonely_95 rfl rfl ?_
      refine RO_goto (tgt := 100) dc_Model_lonely_96 rfl ?_
      exact RO_iret rfl dc_Model_lonely_100
    · refine RO_iload_n dc_Model_lonely_99 rfl rfl ?_
      exact RO_iret rfl dc_Model_lonely_100
def bo_Model_lonely_77 (p1 : Int) (k30 : Int → Int → Int → Int → Mm → Res) (v2 : Int) (v3 : Int) (v4 : Int) (v5 : Int) (mem : Mm) : Res := k30 v2 v3 v4 (w32 (v5 + 1)) mem
set_option maxHeartbeats 4000000 in
theorem rb_Model_lonely_77 {E : EE} (p1 : Int)  (k30 : Int → Int → Int → Int → Mm → Res) (H30 : ∀ (v2 : Int) (v3 : Int) (v4 : Int) (v5 : Int)  (mem : Mm), RO E mt_Model_lonely (k30 v2 v3 v4 v5 mem) 30 [(0, rf 203), (1, vi p1), (2, vi v2), (3, vi v3), (4, vi v4), (5, vi v5)] [] mem) (v2 : Int) (v3 : Int) (v4 : Int) (v5 : Int)  (mem : Mm) : RO E mt_Model_lonely (bo_Model_lonely_77 p1 k30 v2 v3 v4 v5 mem) 77 [(0, rf 203), (1, vi p1), (2, vi v2), (3, vi v3), (4, vi v4), (5, vi v5)] [] mem := by
  unfold bo_Model_lonely_77
  refine RO_iinc dc_Model_lonely_77 rfl (Nat.le_of_ble_eq_true rfl) ?_
  refine RO_goto (tgt := 30) dc_Model_lonely_80 rfl ?_
  refine RO_sub ?_ (H30 v2 v3 v4 (w32 (v5 + 1)) mem)
  exact ⟨rfl, rfl, rfl, rfl, rfl, rfl, trivial⟩
def bo_Model_lonely_55 (p1 : Int) (k30 : Int → Int → Int → Int → Mm → Res) (v2 : Int) (v3 : Int) (v5 : Int) (s0 : Int) (mem : Mm) : Res := if v2 < s0 then (bn (w32 ((w32 (v5 + 1)) - s0)) fun x1 => bo_Model_lonely_77 p1 k30 s0 x1 s0 v5 mem) else (bo_Model_lonely_77 p1 k30 v2 v3 s0 v5 mem)
set_option maxHeartbeats 4000000 in
theorem rb_Model_lonely_55 {E : EE} (p1 : Int)  (k30 : Int → Int → Int → Int → Mm → Res) (H30 : ∀ (v2 : Int) (v3 : Int) (v4 : Int) (v5 : Int)  (mem : Mm), RO E mt_Model_lonely (k30 v2 v3 v4 v5 mem) 30 [(0, rf 203), (1, vi p1), (2, vi v2), (3, vi v3), (4, vi v4), (5, vi v5)] [] mem) (v2 : Int) (v3 : Int) (v5 : Int) (s0 : Int)  (mem : Mm) : RO E mt_Model_lonely (bo_Model_lonely_55 p1 k30 v2 v3 v5 s0 mem) 55 [(0, rf 203), (1, vi p1), (2, vi v2), (3, vi v3), (5, vi v5)] [vi s0] mem := by
  unfold bo_Model_lonely_55
  refine RO_istore dc_Model_lonely_55 (Nat.le_of_ble_eq_true rfl) ?_
  refine RO_iload dc_Model_lonely_57 rfl ?_
  refine RO_iload_n dc_Model_lonely_59 rfl rfl ?_
  refine RO_icmp_gt (tgt := 66) dc_Model_lonely_60 rfl ?_ ?_
  · refine RO_iload dc_Model_lonely_66 rfl ?_
    refine RO_istore_n dc_Model_lonely_68 rfl (Nat.le_of_ble_eq_true rfl) ?_
    refine RO_iload dc_Model_lonely_69 rfl ?_
    refine RO_iconst dc_Model_lonely_71 ?_
    refine RO_iadd dc_Model_lonely_72 ?_
    refine RO_iload dc_Model_lonely_73 rfl ?_
    refine RO_isub dc_Model_lonely_75 ?_
    refine RO_bnT (fun x1 => ?_)
    refine RO_istore_n dc_Model_lonely_76 rfl (Nat.le_of_ble_eq_true rfl) ?_
    refine RO_sub ?_ (rb_Model_lonely_77 p1 k30 H30 s0 x1 s0 v5 mem)
    exact ⟨rfl, rfl, rfl, rfl, rfl, rfl, trivial⟩
  · refine RO_goto (tgt := 77) dc_Model_lonely_63 rfl ?_
    refine RO_sub ?_ (rb_Model_lonely_77 p1 k30 H30 v2 v3 s0 v5 mem)
    exact ⟨rfl, rfl, rfl, rfl, rfl, rfl, trivial⟩
def bo_Model_lonely_30 (p1 : Int) (k30 : Int → Int → Int → Int → Mm → Res) (v2 : Int) (v3 : Int) (v4 : Int) (v5 : Int) (mem : Mm) : Res := if v5 < 240 then (bd (fn_Model_isMeeting v5 mem) fun r1 m2 => if r1 = 0 then (bo_Model_lonely_55 p1 k30 v2 v3 v5 (w32 (v4 + 1)) m2) else (bo_Model_lonely_55 p1 k30 v2 v3 v5 0 m2)) else (bo_Model_lonely_83 p1 v2 v3 mem)
set_option maxHeartbeats 4000000 in
theorem rb_Model_lonely_30 {E : EE} (p1 : Int)  (k30 : Int → Int → Int → Int → Mm → Res) (H30 : ∀ (v2 : Int) (v3 : Int) (v4 : Int) (v5 : Int)  (mem : Mm), RO E mt_Model_lonely (k30 v2 v3 v4 v5 mem) 30 [(0, rf 203), (1, vi p1), (2, vi v2), (3, vi v3), (4, vi v4), (5, vi v5)] [] mem) (v2 : Int) (v3 : Int) (v4 : Int) (v5 : Int)  (mem : Mm) : RO E mt_Model_lonely (bo_Model_lonely_30 p1 k30 v2 v3 v4 v5 mem) 30 [(0, rf 203), (1, vi p1), (2, vi v2), (3, vi v3), (4, vi v4), (5, vi v5)] [] mem := by
  unfold bo_Model_lonely_30
  refine RO_iload dc_Model_lonely_30 rfl ?_
  refine RO_sipush dc_Model_lonely_32 ?_
  refine RO_icmp_ge (tgt := 83) dc_Model_lonely_35 rfl ?_ ?_
  · refine RO_aload_n dc_Model_lonely_38 rfl rfl ?_
    refine RO_iload dc_Model_lonely_39 rfl ?_
    refine RO_callVi (As := [vi v5]) (rest := []) mi_Model_isMeeting mv_Model_isMeeting ml_Model_536 lk_203 (Nat.le_of_ble_eq_true rfl) rfl (Nat.le_of_ble_eq_true rfl) (fun _ => rfl) dc_Model_lonely_41 (fun rq mq hq => pf_Model_isMeeting v5  mem hq) (fun r1 m2 => ?_)
    refine RO_if_eq (tgt := 51) dc_Model_lonely_44 rfl ?_ ?_
    · refine RO_iload dc_Model_lonely_51 rfl ?_
      refine RO_iconst dc_Model_lonely_53 ?_
      refine RO_iadd dc_Model_lonely_54 ?_
      refine RO_sub ?_ (rb_Model_lonely_55 p1 k30 H30 v2 v3 v5 (w32 (v4 + 1)) m2)
      exact ⟨rfl, rfl, rfl, rfl, rfl, trivial⟩
    · refine RO_iconst dc_Model_lonely_47 ?_
      refine RO_goto (tgt := 55) dc_Model_lonely_48 rfl ?_
      refine RO_sub ?_ (rb_Model_lonely_55 p1 k30 H30 v2 v3 v5 0 m2)
      exact ⟨rfl, rfl, rfl, rfl, rfl, trivial⟩
  · refine RO_sub ?_ (rb_Model_lonely_83 p1 v2 v3 mem)
    exact ⟨rfl, rfl, rfl, trivial⟩
def lp_Model_lonely_30 (p1 : Int)  : Nat → Int → Int → Int → Int → Mm → Res
  | 0 => fun _ _ _ _ _ => none
  | n + 1 => bo_Model_lonely_30 p1  (lp_Model_lonely_30 p1  n)
theorem rp_Model_lonely_30 {E : EE} (p1 : Int)    : ∀ (n : Nat) (v2 : Int) (v3 : Int) (v4 : Int) (v5 : Int)  (mem : Mm), RO E mt_Model_lonely (lp_Model_lonely_30 p1  n v2 v3 v4 v5 mem) 30 [(0, rf 203), (1, vi p1), (2, vi v2), (3, vi v3), (4, vi v4), (5, vi v5)] [] mem := by
  intro n
  induction n with
  | zero => intro v2 v3 v4 v5  mem; exact RO_none
  | succ n ih => intro v2 v3 v4 v5  mem; exact rb_Model_lonely_30 p1   (lp_Model_lonely_30 p1  n)  ih v2 v3 v4 v5  mem
def fn_Model_lonely (p1 : Int) (mem : Mm) : Res := bn (mst mem 203 0 0) fun m1 => bd (fn_Model_within p1 0 1 m1) fun r2 m3 => if r2 = 0 then (some ((-1), m3)) else (bd (fn_Model_laysDay  m3) fun r4 m5 => lp_Model_lonely_30 p1 FU 0 (-1) 0 0 m5)
set_option maxHeartbeats 4000000 in
theorem pf_Model_lonely {E : EE} (p1 : Int)  (mem : Mm) {r : Int} {mem9 : Mm} (h : fn_Model_lonely p1 mem = some (r, mem9)) : MetX E 5 yn_Model_lonely cd_Model_lonely 6 (some .int) [rf 203, vi p1] mem r mem9 := by
  refine RO_met (y := yn_Model_lonely) (by decide +kernel) (Nat.le_of_ble_eq_true rfl) ?_ h
  show RO E mt_Model_lonely (fn_Model_lonely p1 mem) 0 [(0, rf 203), (1, vi p1)] [] mem
  unfold fn_Model_lonely
  refine RO_aload_n dc_Model_lonely_0 rfl rfl ?_
  refine RO_iconst dc_Model_lonely_1 ?_
  refine RO_putI gp_Model_183 lk_203 dc_Model_lonely_2 ?_
  refine RO_bnM (fun m1 => ?_)
  refine RO_iload_n dc_Model_lonely_5 rfl rfl ?_
  refine RO_iconst dc_Model_lonely_6 ?_
  refine RO_iconst dc_Model_lonely_7 ?_
  refine RO_callSi (As := [vi p1, vi 0, vi 1]) (rest := []) mi_Model_within ms_Model_within ml_Model_318 (Nat.le_of_ble_eq_true rfl) rfl (Nat.le_of_ble_eq_true rfl) (fun _ => rfl) dc_Model_lonely_8 (fun rq mq hq => pf_Model_within p1 0 1  m1 hq) (fun r2 m3 => ?_)
  refine RO_if_ne (tgt := 16) dc_Model_lonely_11 rfl ?_ ?_
  · refine RO_iconst dc_Model_lonely_14 ?_
    exact RO_iret rfl dc_Model_lonely_15
  · refine RO_aload_n dc_Model_lonely_16 rfl rfl ?_
    refine RO_callVv (As := []) (rest := []) mi_Model_laysDay mv_Model_laysDay ml_Model_470 lk_203 (Nat.le_of_ble_eq_true rfl) rfl (Nat.le_of_ble_eq_true rfl) dc_Model_lonely_17 (fun rq mq hq => pf_Model_laysDay   m3 hq) (fun r4 m5 => ?_)
    refine RO_iconst dc_Model_lonely_20 ?_
    refine RO_istore_n dc_Model_lonely_21 rfl (Nat.le_of_ble_eq_true rfl) ?_
    refine RO_iconst dc_Model_lonely_22 ?_
    refine RO_istore_n dc_Model_lonely_23 rfl (Nat.le_of_ble_eq_true rfl) ?_
    refine RO_iconst dc_Model_lonely_24 ?_
    refine RO_istore dc_Model_lonely_25 (Nat.le_of_ble_eq_true rfl) ?_
    refine RO_iconst dc_Model_lonely_27 ?_
    refine RO_istore dc_Model_lonely_28 (Nat.le_of_ble_eq_true rfl) ?_
    refine RO_sub ?_ (rp_Model_lonely_30 p1 FU 0 (-1) 0 0 m5)
    exact ⟨rfl, rfl, rfl, rfl, rfl, rfl, trivial⟩
def bo_Model_isAsTold_43  (k6 : Int → Mm → Res) (v1 : Int) (mem : Mm) : Res := k6 (w32 (v1 + 1)) mem
set_option maxHeartbeats 4000000 in
theorem rb_Model_isAsTold_43 {E : EE}   (k6 : Int → Mm → Res) (H6 : ∀ (v1 : Int)  (mem : Mm), RO E mt_Model_isAsTold (k6 v1 mem) 6 [(0, rf 203), (1, vi v1)] [] mem) (v1 : Int)  (mem : Mm) : RO E mt_Model_isAsTold (bo_Model_isAsTold_43  k6 v1 mem) 43 [(0, rf 203), (1, vi v1)] [] mem := by
  unfold bo_Model_isAsTold_43
  refine RO_iinc dc_Model_isAsTold_43 rfl (Nat.le_of_ble_eq_true rfl) ?_
  refine RO_goto (tgt := 6) dc_Model_isAsTold_46 rfl ?_
  refine RO_sub ?_ (H6 (w32 (v1 + 1)) mem)
  exact ⟨rfl, rfl, trivial⟩
def bo_Model_isAsTold_6  (k6 : Int → Mm → Res) (v1 : Int) (mem : Mm) : Res := if v1 < (mem 205 (2 : Int).toNat) then (if 0 ≤ v1 ∧ v1 < 30 then if (mem 244 v1.toNat) = (-2) then (bo_Model_isAsTold_43 k6 v1 mem) else (bd (fn_Model_isWhen v1 mem) fun r2 m3 => if 0 ≤ v1 ∧ v1 < 30 then if r2 = (m3 244 v1.toNat) then (bo_Model_isAsTold_43 k6 v1 m3) else (some (0, m3)) else none) else none) else (some (1, mem))
set_option maxHeartbeats 4000000 in
theorem rb_Model_isAsTold_6 {E : EE}   (k6 : Int → Mm → Res) (H6 : ∀ (v1 : Int)  (mem : Mm), RO E mt_Model_isAsTold (k6 v1 mem) 6 [(0, rf 203), (1, vi v1)] [] mem) (v1 : Int)  (mem : Mm) : RO E mt_Model_isAsTold (bo_Model_isAsTold_6  k6 v1 mem) 6 [(0, rf 203), (1, vi v1)] [] mem := by
  unfold bo_Model_isAsTold_6
  refine RO_iload_n dc_Model_isAsTold_6 rfl rfl ?_
  refine RO_aload_n dc_Model_isAsTold_7 rfl rfl ?_
  refine RO_getR (b := 205) gf_Model_13 lk_203 rfl dc_Model_isAsTold_8 ?_
  refine RO_iconst dc_Model_isAsTold_11 ?_
  refine RO_ia lk_205 ⟨by decide, by decide⟩ dc_Model_isAsTold_12 ?_
  refine RO_icmp_ge (tgt := 49) dc_Model_isAsTold_13 rfl ?_ ?_
  · refine RO_aload_n dc_Model_isAsTold_16 rfl rfl ?_
    refine RO_getR (b := 244) gf_Model_132 lk_203 rfl dc_Model_isAsTold_17 ?_
    refine RO_iload_n dc_Model_isAsTold_20 rfl rfl ?_
    refine RO_chk (fun hi1 => ?_)
    refine RO_ia lk_244 hi1 dc_Model_isAsTold_21 ?_
    refine RO_bipush dc_Model_isAsTold_22 ?_
    refine RO_icmp_eq (tgt := 43) dc_Model_isAsTold_24 rfl ?_ ?_
    · refine RO_sub ?_ (rb_Model_isAsTold_43 k6 H6 v1 mem)
      exact ⟨rfl, rfl, trivial⟩
    · refine RO_aload_n dc_Model_isAsTold_27 rfl rfl ?_
      refine RO_iload_n dc_Model_isAsTold_28 rfl rfl ?_
      refine RO_callVi (As := [vi v1]) (rest := []) mi_Model_isWhen mv_Model_isWhen ml_Model_454 lk_203 (Nat.le_of_ble_eq_true rfl) rfl (Nat.le_of_ble_eq_true rfl) (fun _ => rfl) dc_Model_isAsTold_29 (fun rq mq hq => pf_Model_isWhen v1  mem hq) (fun r2 m3 => ?_)
      refine RO_aload_n dc_Model_isAsTold_32 rfl rfl ?_
      refine RO_getR (b := 244) gf_Model_132 lk_203 rfl dc_Model_isAsTold_33 ?_
      refine RO_iload_n dc_Model_isAsTold_36 rfl rfl ?_
      refine RO_chk (fun hi4 => ?_)
      refine RO_ia lk_244 hi4 dc_Model_isAsTold_37 ?_
      refine RO_icmp_eq (tgt := 43) dc_Model_isAsTold_38 rfl ?_ ?_
      · refine RO_sub ?_ (rb_Model_isAsTold_43 k6 H6 v1 m3)
        exact ⟨rfl, rfl, trivial⟩
      · refine RO_iconst dc_Model_isAsTold_41 ?_
        exact RO_zret rfl (Or.inl rfl) dc_Model_isAsTold_42
  · refine RO_iconst dc_Model_isAsTold_49 ?_
    exact RO_zret rfl (Or.inr rfl) dc_Model_isAsTold_50
def lp_Model_isAsTold_6   : Nat → Int → Mm → Res
  | 0 => fun _ _ => none
  | n + 1 => bo_Model_isAsTold_6   (lp_Model_isAsTold_6   n)
theorem rp_Model_isAsTold_6 {E : EE}     : ∀ (n : Nat) (v1 : Int)  (mem : Mm), RO E mt_Model_isAsTold (lp_Model_isAsTold_6   n v1 mem) 6 [(0, rf 203), (1, vi v1)] [] mem := by
  intro n
  induction n with
  | zero => intro v1  mem; exact RO_none
  | succ n ih => intro v1  mem; exact rb_Model_isAsTold_6    (lp_Model_isAsTold_6   n)  ih v1  mem
def fn_Model_isAsTold  (mem : Mm) : Res := bd (fn_Model_laysDay  mem) fun r1 m2 => lp_Model_isAsTold_6 FU 0 m2
set_option maxHeartbeats 4000000 in
theorem pf_Model_isAsTold {E : EE}   (mem : Mm) {r : Int} {mem9 : Mm} (h : fn_Model_isAsTold  mem = some (r, mem9)) : MetX E 5 yn_Model_isAsTold cd_Model_isAsTold 2 (some .boolean) [rf 203] mem r mem9 := by
  refine RO_met (y := yn_Model_isAsTold) (by decide +kernel) (Nat.le_of_ble_eq_true rfl) ?_ h
  show RO E mt_Model_isAsTold (fn_Model_isAsTold  mem) 0 [(0, rf 203)] [] mem
  unfold fn_Model_isAsTold
  refine RO_aload_n dc_Model_isAsTold_0 rfl rfl ?_
  refine RO_callVv (As := []) (rest := []) mi_Model_laysDay mv_Model_laysDay ml_Model_470 lk_203 (Nat.le_of_ble_eq_true rfl) rfl (Nat.le_of_ble_eq_true rfl) dc_Model_isAsTold_1 (fun rq mq hq => pf_Model_laysDay   mem hq) (fun r1 m2 => ?_)
  refine RO_iconst dc_Model_isAsTold_4 ?_
  refine RO_istore_n dc_Model_isAsTold_5 rfl (Nat.le_of_ble_eq_true rfl) ?_
  refine RO_sub ?_ (rp_Model_isAsTold_6 FU 0 m2)
  exact ⟨rfl, rfl, trivial⟩
def bo_Model_readsAll_186  (k72 : Mm → Res) (s0 : Int) (mem : Mm) : Res := if s0 = 0 then (some (0, mem)) else (k72 mem)
set_option maxHeartbeats 4000000 in
theorem rb_Model_readsAll_186 {E : EE}   (k72 : Mm → Res) (H72 : ∀   (mem : Mm), RO E mt_Model_readsAll (k72  mem) 72 [(0, rf 203)] [] mem) (s0 : Int)  (mem : Mm) : RO E mt_Model_readsAll (bo_Model_readsAll_186  k72 s0 mem) 186 [(0, rf 203)] [vi s0] mem := by
  unfold bo_Model_readsAll_186
  refine RO_istore_n dc_Model_readsAll_186 rfl (Nat.le_of_ble_eq_true rfl) ?_
  refine RO_iload_n dc_Model_readsAll_187 rfl rfl ?_
  refine RO_if_ne (tgt := 193) dc_Model_readsAll_188 rfl ?_ ?_
  · refine RO_iconst dc_Model_readsAll_191 ?_
    exact RO_zret rfl (Or.inl rfl) dc_Model_readsAll_192
  · refine RO_goto (tgt := 72) dc_Model_readsAll_193 rfl ?_
    refine RO_sub ?_ (H72 mem)
    exact ⟨rfl, trivial⟩
def bo_Model_readsAll_72  (k72 : Mm → Res)  (mem : Mm) : Res := if (mem 203 6) = 0 then (some (1, mem)) else (bd (fn_Model_isWord 8740067 mem) fun r1 m2 => if r1 = 0 then (bd (fn_Model_isWord 316205 m2) fun r3 m4 => if r3 = 0 then (bd (fn_Model_isWord 330800670 m4) fun r5 m6 => if r5 = 0 then (bd (fn_Model_isWord 12249946 m6) fun r7 m8 => if r7 = 0 then (bd (fn_Model_isWord 168984 m8) fun r9 m10 => if r9 = 0 then (bd (fn_Model_isWord 191706727 m10) fun r11 m12 => if r11 = 0 then (bd (fn_Model_fails 1 m12) fun r13 m14 => bo_Model_readsAll_186 k72 r13 m14) else (bd (fn_Model_readsMissed  m12) fun r15 m16 => bo_Model_readsAll_186 k72 r15 m16)) else (bd (fn_Model_readsHour  m10) fun r17 m18 => bo_Model_readsAll_186 k72 r17 m18)) else (bd (fn_Model_readsWaits  m8) fun r19 m20 => bo_Model_readsAll_186 k72 r19 m20)) else (bd (fn_Model_readsWalker  m6) fun r21 m22 => bo_Model_readsAll_186 k72 r21 m22)) else (bd (fn_Model_readsPath  m4) fun r23 m24 => bo_Model_readsAll_186 k72 r23 m24)) else (bd (fn_Model_readsPlace  m2) fun r25 m26 => bo_Model_readsAll_186 k72 r25 m26))
set_option maxHeartbeats 4000000 in
theorem rb_Model_readsAll_72 {E : EE}   (k72 : Mm → Res) (H72 : ∀   (mem : Mm), RO E mt_Model_readsAll (k72  mem) 72 [(0, rf 203)] [] mem)   (mem : Mm) : RO E mt_Model_readsAll (bo_Model_readsAll_72  k72  mem) 72 [(0, rf 203)] [] mem := by
  unfold bo_Model_readsAll_72
  refine RO_aload_n dc_Model_readsAll_72 rfl rfl ?_
  refine RO_getI gf_Model_208 lk_203 dc_Model_readsAll_73 ?_
  refine RO_if_eq (tgt := 196) dc_Model_readsAll_76 rfl ?_ ?_
  · refine RO_iconst dc_Model_readsAll_196 ?_
    exact RO_zret rfl (Or.inr rfl) dc_Model_readsAll_197
  · refine RO_aload_n dc_Model_readsAll_79 rfl rfl ?_
    refine RO_ldc2 (x := 8740067) c2_Model_268 ⟨by decide, ⟨by decide, by decide⟩⟩ dc_Model_readsAll_80 ?_
    refine RO_callVi (As := [vl 8740067]) (rest := []) mi_Model_isWord mv_Model_isWord ml_Model_237 lk_203 (Nat.le_of_ble_eq_true rfl) rfl (Nat.le_of_ble_eq_true rfl) (fun _ => rfl) dc_Model_readsAll_83 (fun rq mq hq => pf_Model_isWord 8740067  mem hq) (fun r1 m2 => ?_)
    refine RO_if_eq (tgt := 96) dc_Model_readsAll_86 rfl ?_ ?_
    · refine RO_aload_n dc_Model_readsAll_96 rfl rfl ?_
      refine RO_ldc2 (x := 316205) c2_Model_270 ⟨by decide, ⟨by decide, by decide⟩⟩ dc_Model_readsAll_97 ?_
      refine RO_callVi (As := [vl 316205]) (rest := []) mi_Model_isWord mv_Model_isWord ml_Model_237 lk_203 (Nat.le_of_ble_eq_true rfl) rfl (Nat.le_of_ble_eq_true rfl) (fun _ => rfl) dc_Model_readsAll_100 (fun rq mq hq => pf_Model_isWord 316205  m2 hq) (fun r3 m4 => ?_)
      refine RO_if_eq (tgt := 113) dc_Model_readsAll_103 rfl ?_ ?_
      · refine RO_aload_n dc_Model_readsAll_113 rfl rfl ?_
        refine RO_ldc2 (x := 330800670) c2_Model_272 ⟨by decide, ⟨by decide, by decide⟩⟩ dc_Model_readsAll_114 ?_
        refine RO_callVi (As := [vl 330800670]) (rest := []) mi_Model_isWord mv_Model_isWord ml_Model_237 lk_203 (Nat.le_of_ble_eq_true rfl) rfl (Nat.le_of_ble_eq_true rfl) (fun _ => rfl) dc_Model_readsAll_117 (fun rq mq hq => pf_Model_isWord 330800670  m4 hq) (fun r5 m6 => ?_)
        refine RO_if_eq (tgt := 130) dc_Model_readsAll_120 rfl ?_ ?_
        · refine RO_aload_n dc_Model_readsAll_130 rfl rfl ?_
          refine RO_ldc2 (x := 12249946) c2_Model_282 ⟨by decide, ⟨by decide, by decide⟩⟩ dc_Model_readsAll_131 ?_
          refine RO_callVi (As := [vl 12249946]) (rest := []) mi_Model_isWord mv_Model_isWord ml_Model_237 lk_203 (Nat.le_of_ble_eq_true rfl) rfl (Nat.le_of_ble_eq_true rfl) (fun _ => rfl) dc_Model_readsAll_134 (fun rq mq hq => pf_Model_isWord 12249946  m6 hq) (fun r7 m8 => ?_)
          refine RO_if_eq (tgt := 147) dc_Model_readsAll_137 rfl ?_ ?_
          · refine RO_aload_n dc_Model_readsAll_147 rfl rfl ?_
            refine RO_ldc2 (x := 168984) c2_Model_288 ⟨by decide, ⟨by decide, by decide⟩⟩ dc_Model_readsAll_148 ?_
            refine RO_callVi (As := [vl 168984]) (rest := []) mi_Model_isWord mv_Model_isWord ml_Model_237 lk_203 (Nat.le_of_ble_eq_true rfl) rfl (Nat.le_of_ble_eq_true rfl) (fun _ => rfl) dc_Model_readsAll_151 (fun rq mq hq => pf_Model_isWord 168984  m8 hq) (fun r9 m10 => ?_)
            refine RO_if_eq (tgt := 164) dc_Model_readsAll_154 rfl ?_ ?_
            · refine RO_aload_n dc_Model_readsAll_164 rfl rfl ?_
              refine RO_ldc2 (x := 191706727) c2_Model_294 ⟨by decide, ⟨by decide, by decide⟩⟩ dc_Model_readsAll_165 ?_
              refine RO_callVi (As := [vl 191706727]) (rest := []) mi_Model_isWord mv_Model_isWord ml_Model_237 lk_203 (Nat.le_of_ble_eq_true rfl) rfl (Nat.le_of_ble_eq_true rfl) (fun _ => rfl) dc_Model_readsAll_168 (fun rq mq hq => pf_Model_isWord 191706727  m10 hq) (fun r11 m12 => ?_)
              refine RO_if_eq (tgt := 181) dc_Model_readsAll_171 rfl ?_ ?_
              · refine RO_aload_n dc_Model_readsAll_181 rfl rfl ?_
                refine RO_iconst dc_Model_readsAll_182 ?_
                refine RO_callVi (As := [vi 1]) (rest := []) mi_Model_fails mv_Model_fails ml_Model_245 lk_203 (Nat.le_of_ble_eq_true rfl) rfl (Nat.le_of_ble_eq_true rfl) (fun _ => rfl) dc_Model_readsAll_183 (fun rq mq hq => pf_Model_fails 1  m12 hq) (fun r13 m14 => ?_)
                refine RO_sub ?_ (rb_Model_readsAll_186 k72 H72 r13 m14)
                exact ⟨rfl, trivial⟩
              · refine RO_aload_n dc_Model_readsAll_174 rfl rfl ?_
                refine RO_callVi (As := []) (rest := []) mi_Model_readsMissed mv_Model_readsMissed ml_Model_391 lk_203 (Nat.le_of_ble_eq_true rfl) rfl (Nat.le_of_ble_eq_true rfl) (fun _ => rfl) dc_Model_readsAll_175 (fun rq mq hq => pf_Model_readsMissed   m12 hq) (fun r15 m16 => ?_)
                refine RO_goto (tgt := 186) dc_Model_readsAll_178 rfl ?_
                refine RO_sub ?_ (rb_Model_readsAll_186 k72 H72 r15 m16)
                exact ⟨rfl, trivial⟩
            · refine RO_aload_n dc_Model_readsAll_157 rfl rfl ?_
              refine RO_callVi (As := []) (rest := []) mi_Model_readsHour mv_Model_readsHour ml_Model_388 lk_203 (Nat.le_of_ble_eq_true rfl) rfl (Nat.le_of_ble_eq_true rfl) (fun _ => rfl) dc_Model_readsAll_158 (fun rq mq hq => pf_Model_readsHour   m10 hq) (fun r17 m18 => ?_)
              refine RO_goto (tgt := 186) dc_Model_readsAll_161 rfl ?_
              refine RO_sub ?_ (rb_Model_readsAll_186 k72 H72 r17 m18)
              exact ⟨rfl, trivial⟩
          · refine RO_aload_n dc_Model_readsAll_140 rfl rfl ?_
            refine RO_callVi (As := []) (rest := []) mi_Model_readsWaits mv_Model_readsWaits ml_Model_385 lk_203 (Nat.le_of_ble_eq_true rfl) rfl (Nat.le_of_ble_eq_true rfl) (fun _ => rfl) dc_Model_readsAll_141 (fun rq mq hq => pf_Model_readsWaits   m8 hq) (fun r19 m20 => ?_)
            refine RO_goto (tgt := 186) dc_Model_readsAll_144 rfl ?_
            refine RO_sub ?_ (rb_Model_readsAll_186 k72 H72 r19 m20)
            exact ⟨rfl, trivial⟩
        · refine RO_aload_n dc_Model_readsAll_123 rfl rfl ?_
          refine RO_callVi (As := []) (rest := []) mi_Model_readsWalker mv_Model_readsWalker ml_Model_382 lk_203 (Nat.le_of_ble_eq_true rfl) rfl (Nat.le_of_ble_eq_true rfl) (fun _ => rfl) dc_Model_readsAll_124 (fun rq mq hq => pf_Model_readsWalker   m6 hq) (fun r21 m22 => ?_)
          refine RO_goto (tgt := 186) dc_Model_readsAll_127 rfl ?_
          refine RO_sub ?_ (rb_Model_readsAll_186 k72 H72 r21 m22)
          exact ⟨rfl, trivial⟩
      · refine RO_aload_n dc_Model_readsAll_106 rfl rfl ?_
        refine RO_callVi (As := []) (rest := []) mi_Model_readsPath mv_Model_readsPath ml_Model_379 lk_203 (Nat.le_of_ble_eq_true rfl) rfl (Nat.le_of_ble_eq_true rfl) (fun _ => rfl) dc_Model_readsAll_107 (fun rq mq hq => pf_Model_readsPath   m4 hq) (fun r23 m24 => ?_)
        refine RO_goto (tgt := 186) dc_Model_readsAll_110 rfl ?_
        refine RO_sub ?_ (rb_Model_readsAll_186 k72 H72 r23 m24)
        exact ⟨rfl, trivial⟩
    · refine RO_aload_n dc_Model_readsAll_89 rfl rfl ?_
      refine RO_callVi (As := []) (rest := []) mi_Model_readsPlace mv_Model_readsPlace ml_Model_376 lk_203 (Nat.le_of_ble_eq_true rfl) rfl (Nat.le_of_ble_eq_true rfl) (fun _ => rfl) dc_Model_readsAll_90 (fun rq mq hq => pf_Model_readsPlace   m2 hq) (fun r25 m26 => ?_)
      refine RO_goto (tgt := 186) dc_Model_readsAll_93 rfl ?_
      refine RO_sub ?_ (rb_Model_readsAll_186 k72 H72 r25 m26)
      exact ⟨rfl, trivial⟩
def lp_Model_readsAll_72   : Nat → Mm → Res
  | 0 => fun _ => none
  | n + 1 => bo_Model_readsAll_72   (lp_Model_readsAll_72   n)
theorem rp_Model_readsAll_72 {E : EE}     : ∀ (n : Nat)   (mem : Mm), RO E mt_Model_readsAll (lp_Model_readsAll_72   n  mem) 72 [(0, rf 203)] [] mem := by
  intro n
  induction n with
  | zero => intro   mem; exact RO_none
  | succ n ih => intro   mem; exact rb_Model_readsAll_72    (lp_Model_readsAll_72   n)  ih   mem
def bo_Model_readsAll_43    (mem : Mm) : Res := bn (mst mem 221 (1 : Int).toNat 1000) fun m1 => bn (mst m1 222 (1 : Int).toNat 1000) fun m2 => bn (mst m2 203 29 1000) fun m3 => bd (fn_Model_begins  m3) fun r4 m5 => lp_Model_readsAll_72 FU m5
set_option maxHeartbeats 4000000 in
theorem rb_Model_readsAll_43 {E : EE}       (mem : Mm) : RO E mt_Model_readsAll (bo_Model_readsAll_43    mem) 43 [(0, rf 203)] [] mem := by
  unfold bo_Model_readsAll_43
  refine RO_aload_n dc_Model_readsAll_43 rfl rfl ?_
  refine RO_getR (b := 221) gf_Model_62 lk_203 rfl dc_Model_readsAll_44 ?_
  refine RO_iconst dc_Model_readsAll_47 ?_
  refine RO_sipush dc_Model_readsAll_48 ?_
  refine RO_is lk_221 ⟨by decide, by decide⟩ dc_Model_readsAll_51 ?_
  refine RO_bnM (fun m1 => ?_)
  refine RO_aload_n dc_Model_readsAll_52 rfl rfl ?_
  refine RO_getR (b := 222) gf_Model_65 lk_203 rfl dc_Model_readsAll_53 ?_
  refine RO_iconst dc_Model_readsAll_56 ?_
  refine RO_sipush dc_Model_readsAll_57 ?_
  refine RO_is lk_222 ⟨by decide, by decide⟩ dc_Model_readsAll_60 ?_
  refine RO_bnM (fun m2 => ?_)
  refine RO_aload_n dc_Model_readsAll_61 rfl rfl ?_
  refine RO_sipush dc_Model_readsAll_62 ?_
  refine RO_putI gp_Model_222 lk_203 dc_Model_readsAll_65 ?_
  refine RO_bnM (fun m3 => ?_)
  refine RO_aload_n dc_Model_readsAll_68 rfl rfl ?_
  refine RO_callVv (As := []) (rest := []) mi_Model_begins mv_Model_begins ml_Model_373 lk_203 (Nat.le_of_ble_eq_true rfl) rfl (Nat.le_of_ble_eq_true rfl) dc_Model_readsAll_69 (fun rq mq hq => pf_Model_begins   m3 hq) (fun r4 m5 => ?_)
  refine RO_sub ?_ (rp_Model_readsAll_72 FU m5)
  exact ⟨rfl, trivial⟩
def bo_Model_readsAll_24  (k24 : Int → Mm → Res) (v1 : Int) (mem : Mm) : Res := if v1 < 72 then (if 0 ≤ v1 ∧ v1 < 72 then bn (mst mem 209 v1.toNat 0) fun m2 => k24 (w32 (v1 + 1)) m2 else none) else (bo_Model_readsAll_43 mem)
set_option maxHeartbeats 4000000 in
theorem rb_Model_readsAll_24 {E : EE}   (k24 : Int → Mm → Res) (H24 : ∀ (v1 : Int)  (mem : Mm), RO E mt_Model_readsAll (k24 v1 mem) 24 [(0, rf 203), (1, vi v1)] [] mem) (v1 : Int)  (mem : Mm) : RO E mt_Model_readsAll (bo_Model_readsAll_24  k24 v1 mem) 24 [(0, rf 203), (1, vi v1)] [] mem := by
  unfold bo_Model_readsAll_24
  refine RO_iload_n dc_Model_readsAll_24 rfl rfl ?_
  refine RO_bipush dc_Model_readsAll_25 ?_
  refine RO_icmp_ge (tgt := 43) dc_Model_readsAll_27 rfl ?_ ?_
  · refine RO_aload_n dc_Model_readsAll_30 rfl rfl ?_
    refine RO_getR (b := 209) gf_Model_26 lk_203 rfl dc_Model_readsAll_31 ?_
    refine RO_iload_n dc_Model_readsAll_34 rfl rfl ?_
    refine RO_iconst dc_Model_readsAll_35 ?_
    refine RO_chk (fun hi1 => ?_)
    refine RO_is lk_209 hi1 dc_Model_readsAll_36 ?_
    refine RO_bnM (fun m2 => ?_)
    refine RO_iinc dc_Model_readsAll_37 rfl (Nat.le_of_ble_eq_true rfl) ?_
    refine RO_goto (tgt := 24) dc_Model_readsAll_40 rfl ?_
    refine RO_sub ?_ (H24 (w32 (v1 + 1)) m2)
    exact ⟨rfl, rfl, trivial⟩
  · refine RO_sub ?_ (rb_Model_readsAll_43 mem)
    exact ⟨rfl, trivial⟩
def lp_Model_readsAll_24   : Nat → Int → Mm → Res
  | 0 => fun _ _ => none
  | n + 1 => bo_Model_readsAll_24   (lp_Model_readsAll_24   n)
theorem rp_Model_readsAll_24 {E : EE}     : ∀ (n : Nat) (v1 : Int)  (mem : Mm), RO E mt_Model_readsAll (lp_Model_readsAll_24   n v1 mem) 24 [(0, rf 203), (1, vi v1)] [] mem := by
  intro n
  induction n with
  | zero => intro v1  mem; exact RO_none
  | succ n ih => intro v1  mem; exact rb_Model_readsAll_24    (lp_Model_readsAll_24   n)  ih v1  mem
def bo_Model_readsAll_21    (mem : Mm) : Res := lp_Model_readsAll_24 FU 36 mem
set_option maxHeartbeats 4000000 in
theorem rb_Model_readsAll_21 {E : EE}       (mem : Mm) : RO E mt_Model_readsAll (bo_Model_readsAll_21    mem) 21 [(0, rf 203)] [] mem := by
  unfold bo_Model_readsAll_21
  refine RO_bipush dc_Model_readsAll_21 ?_
  refine RO_istore_n dc_Model_readsAll_23 rfl (Nat.le_of_ble_eq_true rfl) ?_
  refine RO_sub ?_ (rp_Model_readsAll_24 FU 36 mem)
  exact ⟨rfl, rfl, trivial⟩
def bo_Model_readsAll_2  (k2 : Int → Mm → Res) (v1 : Int) (mem : Mm) : Res := if v1 < 10 then (if 0 ≤ v1 ∧ v1 < 10 then bn (mst mem 205 v1.toNat 0) fun m2 => k2 (w32 (v1 + 1)) m2 else none) else (bo_Model_readsAll_21 mem)
set_option maxHeartbeats 4000000 in
theorem rb_Model_readsAll_2 {E : EE}   (k2 : Int → Mm → Res) (H2 : ∀ (v1 : Int)  (mem : Mm), RO E mt_Model_readsAll (k2 v1 mem) 2 [(0, rf 203), (1, vi v1)] [] mem) (v1 : Int)  (mem : Mm) : RO E mt_Model_readsAll (bo_Model_readsAll_2  k2 v1 mem) 2 [(0, rf 203), (1, vi v1)] [] mem := by
  unfold bo_Model_readsAll_2
  refine RO_iload_n dc_Model_readsAll_2 rfl rfl ?_
  refine RO_bipush dc_Model_readsAll_3 ?_
  refine RO_icmp_ge (tgt := 21) dc_Model_readsAll_5 rfl ?_ ?_
  · refine RO_aload_n dc_Model_readsAll_8 rfl rfl ?_
    refine RO_getR (b := 205) gf_Model_13 lk_203 rfl dc_Model_readsAll_9 ?_
    refine RO_iload_n dc_Model_readsAll_12 rfl rfl ?_
    refine RO_iconst dc_Model_readsAll_13 ?_
    refine RO_chk (fun hi1 => ?_)
    refine RO_is lk_205 hi1 dc_Model_readsAll_14 ?_
    refine RO_bnM (fun m2 => ?_)
    refine RO_iinc dc_Model_readsAll_15 rfl (Nat.le_of_ble_eq_true rfl) ?_
    refine RO_goto (tgt := 2) dc_Model_readsAll_18 rfl ?_
    refine RO_sub ?_ (H2 (w32 (v1 + 1)) m2)
    exact ⟨rfl, rfl, trivial⟩
  · refine RO_sub ?_ (rb_Model_readsAll_21 mem)
    exact ⟨rfl, trivial⟩
def lp_Model_readsAll_2   : Nat → Int → Mm → Res
  | 0 => fun _ _ => none
  | n + 1 => bo_Model_readsAll_2   (lp_Model_readsAll_2   n)
theorem rp_Model_readsAll_2 {E : EE}     : ∀ (n : Nat) (v1 : Int)  (mem : Mm), RO E mt_Model_readsAll (lp_Model_readsAll_2   n v1 mem) 2 [(0, rf 203), (1, vi v1)] [] mem := by
  intro n
  induction n with
  | zero => intro v1  mem; exact RO_none
  | succ n ih => intro v1  mem; exact rb_Model_readsAll_2    (lp_Model_readsAll_2   n)  ih v1  mem
def fn_Model_readsAll  (mem : Mm) : Res := lp_Model_readsAll_2 FU 5 mem
set_option maxHeartbeats 4000000 in
theorem pf_Model_readsAll {E : EE}   (mem : Mm) {r : Int} {mem9 : Mm} (h : fn_Model_readsAll  mem = some (r, mem9)) : MetX E 6 yn_Model_readsAll cd_Model_readsAll 2 (some .boolean) [rf 203] mem r mem9 := by
  refine RO_met (y := yn_Model_readsAll) (by decide +kernel) (Nat.le_of_ble_eq_true rfl) ?_ h
  show RO E mt_Model_readsAll (fn_Model_readsAll  mem) 0 [(0, rf 203)] [] mem
  unfold fn_Model_readsAll
  refine RO_iconst dc_Model_readsAll_0 ?_
  refine RO_istore_n dc_Model_readsAll_1 rfl (Nat.le_of_ble_eq_true rfl) ?_
  refine RO_sub ?_ (rp_Model_readsAll_2 FU 5 mem)
  exact ⟨rfl, rfl, trivial⟩
def fn_Model_day  (mem : Mm) : Res := bn (mst mem 203 0 0) fun m1 => bd (fn_Model_keeps  m1) fun r2 m3 => bd (fn_Model_passes  m3) fun r4 m5 => some (r4, m5)
set_option maxHeartbeats 4000000 in
theorem pf_Model_day {E : EE}   (mem : Mm) {r : Int} {mem9 : Mm} (h : fn_Model_day  mem = some (r, mem9)) : MetX E 6 yn_Model_day cd_Model_day 1 (some .int) [rf 203] mem r mem9 := by
  refine RO_met (y := yn_Model_day) (by decide +kernel) (Nat.le_of_ble_eq_true rfl) ?_ h
  show RO E mt_Model_day (fn_Model_day  mem) 0 [(0, rf 203)] [] mem
  unfold fn_Model_day
  refine RO_aload_n dc_Model_day_0 rfl rfl ?_
  refine RO_iconst dc_Model_day_1 ?_
  refine RO_putI gp_Model_183 lk_203 dc_Model_day_2 ?_
  refine RO_bnM (fun m1 => ?_)
  refine RO_aload_n dc_Model_day_5 rfl rfl ?_
  refine RO_callVv (As := []) (rest := []) mi_Model_keeps mv_Model_keeps ml_Model_486 lk_203 (Nat.le_of_ble_eq_true rfl) rfl (Nat.le_of_ble_eq_true rfl) dc_Model_day_6 (fun rq mq hq => pf_Model_keeps   m1 hq) (fun r2 m3 => ?_)
  refine RO_aload_n dc_Model_day_9 rfl rfl ?_
  refine RO_callVi (As := []) (rest := []) mi_Model_passes mv_Model_passes ml_Model_501 lk_203 (Nat.le_of_ble_eq_true rfl) rfl (Nat.le_of_ble_eq_true rfl) (fun _ => rfl) dc_Model_day_10 (fun rq mq hq => pf_Model_passes   m3 hq) (fun r4 m5 => ?_)
  exact RO_iret rfl dc_Model_day_13
def fn_Model_goes (p1 : Int) (mem : Mm) : Res := if 0 ≤ p1 ∧ p1 < 180 then bn (mem 237 p1.toNat) fun x2 => if 0 ≤ p1 ∧ p1 < 180 then bn (mem 238 p1.toNat) fun x4 => if 0 ≤ p1 ∧ p1 < 180 then bn (mem 239 p1.toNat) fun x6 => if x2 = 0 then (if 0 ≤ w32 (4 + x4) ∧ w32 (4 + x4) < 16 then bn (mst mem 245 (w32 (4 + x4)).toNat x6) fun m8 => some (1, m8) else none) else (if x2 = 1 then (bd (fn_Model_isAlive x4 mem) fun r9 m10 => if r9 = 0 then (some (0, m10)) else (bn (mst m10 245 (2 : Int).toNat (iand (m10 245 (2 : Int).toNat) (ixor (ishl 1 x4) (-1)))) fun m11 => some (1, m11))) else (if x2 = 2 then (if 0 ≤ w32 (10 + x4) ∧ w32 (10 + x4) < 16 then if (mem 245 (w32 (10 + x4)).toNat) = x6 then (some (0, mem)) else (bd (fn_Model_canStand x4 x6 mem) fun r13 m14 => if r13 = 0 then (some (0, m14)) else (if 0 ≤ w32 (10 + x4) ∧ w32 (10 + x4) < 16 then bn (mst m14 245 (w32 (10 + x4)).toNat x6) fun m16 => some (1, m16) else none)) else none) else (if x2 = 3 then (if (mem 245 (3 : Int).toNat) = 1 then (some (0, mem)) else (bn (mst mem 245 (3 : Int).toNat 1) fun m17 => some (1, m17))) else (bd (fn_Model_passes  mem) fun r18 m19 => some (1, m19))))) else none else none else none
set_option maxHeartbeats 4000000 in
theorem pf_Model_goes {E : EE} (p1 : Int)  (mem : Mm) {r : Int} {mem9 : Mm} (h : fn_Model_goes p1 mem = some (r, mem9)) : MetX E 6 yn_Model_goes cd_Model_goes 5 (some .boolean) [rf 203, vi p1] mem r mem9 := by
  refine RO_met (y := yn_Model_goes) (by decide +kernel) (Nat.le_of_ble_eq_true rfl) ?_ h
  show RO E mt_Model_goes (fn_Model_goes p1 mem) 0 [(0, rf 203), (1, vi p1)] [] mem
  unfold fn_Model_goes
  refine RO_aload_n dc_Model_goes_0 rfl rfl ?_
  refine RO_getR (b := 237) gf_Model_111 lk_203 rfl dc_Model_goes_1 ?_
  refine RO_iload_n dc_Model_goes_4 rfl rfl ?_
  refine RO_chk (fun hi1 => ?_)
  refine RO_ia lk_237 hi1 dc_Model_goes_5 ?_
  refine RO_bnT (fun x2 => ?_)
  refine RO_istore_n dc_Model_goes_6 rfl (Nat.le_of_ble_eq_true rfl) ?_
  refine RO_aload_n dc_Model_goes_7 rfl rfl ?_
  refine RO_getR (b := 238) gf_Model_114 lk_203 rfl dc_Model_goes_8 ?_
  refine RO_iload_n dc_Model_goes_11 rfl rfl ?_
  refine RO_chk (fun hi3 => ?_)
  refine RO_ia lk_238 hi3 dc_Model_goes_12 ?_
  refine RO_bnT (fun x4 => ?_)
  refine RO_istore_n dc_Model_goes_13 rfl (Nat.le_of_ble_eq_true rfl) ?_
  refine RO_aload_n dc_Model_goes_14 rfl rfl ?_
  refine RO_getR (b := 239) gf_Model_117 lk_203 rfl dc_Model_goes_15 ?_
  refine RO_iload_n dc_Model_goes_18 rfl rfl ?_
  refine RO_chk (fun hi5 => ?_)
  refine RO_ia lk_239 hi5 dc_Model_goes_19 ?_
  refine RO_bnT (fun x6 => ?_)
  refine RO_istore dc_Model_goes_20 (Nat.le_of_ble_eq_true rfl) ?_
  refine RO_iload_n dc_Model_goes_22 rfl rfl ?_
  refine RO_if_ne (tgt := 39) dc_Model_goes_23 rfl ?_ ?_
  · refine RO_aload_n dc_Model_goes_26 rfl rfl ?_
    refine RO_getR (b := 245) gf_Model_135 lk_203 rfl dc_Model_goes_27 ?_
    refine RO_iconst dc_Model_goes_30 ?_
    refine RO_iload_n dc_Model_goes_31 rfl rfl ?_
    refine RO_iadd dc_Model_goes_32 ?_
    refine RO_iload dc_Model_goes_33 rfl ?_
    refine RO_chk (fun hi7 => ?_)
    refine RO_is lk_245 hi7 dc_Model_goes_35 ?_
    refine RO_bnM (fun m8 => ?_)
    refine RO_goto (tgt := 148) dc_Model_goes_36 rfl ?_
    refine RO_iconst dc_Model_goes_148 ?_
    exact RO_zret rfl (Or.inr rfl) dc_Model_goes_149
  · refine RO_iload_n dc_Model_goes_39 rfl rfl ?_
    refine RO_iconst dc_Model_goes_40 ?_
    refine RO_icmp_ne (tgt := 71) dc_Model_goes_41 rfl ?_ ?_
    · refine RO_aload_n dc_Model_goes_44 rfl rfl ?_
      refine RO_iload_n dc_Model_goes_45 rfl rfl ?_
      refine RO_callVi (As := [vi x4]) (rest := []) mi_Model_isAlive mv_Model_isAlive ml_Model_489 lk_203 (Nat.le_of_ble_eq_true rfl) rfl (Nat.le_of_ble_eq_true rfl) (fun _ => rfl) dc_Model_goes_46 (fun rq mq hq => pf_Model_isAlive x4  mem hq) (fun r9 m10 => ?_)
      refine RO_if_ne (tgt := 54) dc_Model_goes_49 rfl ?_ ?_
      · refine RO_iconst dc_Model_goes_52 ?_
        exact RO_zret rfl (Or.inl rfl) dc_Model_goes_53
      · refine RO_aload_n dc_Model_goes_54 rfl rfl ?_
        refine RO_getR (b := 245) gf_Model_135 lk_203 rfl dc_Model_goes_55 ?_
        refine RO_iconst dc_Model_goes_58 ?_
        refine RO_dup2 dc_Model_goes_59 (nt0 _) (nt2 _) ?_
        refine RO_ia lk_245 ⟨by decide, by decide⟩ dc_Model_goes_60 ?_
        refine RO_iconst dc_Model_goes_61 ?_
        refine RO_iload_n dc_Model_goes_62 rfl rfl ?_
        refine RO_ishl dc_Model_goes_63 ?_
        refine RO_iconst dc_Model_goes_64 ?_
        refine RO_ixor dc_Model_goes_65 ?_
        refine RO_iand dc_Model_goes_66 ?_
        refine RO_is lk_245 ⟨by decide, by decide⟩ dc_Model_goes_67 ?_
        refine RO_bnM (fun m11 => ?_)
        refine RO_goto (tgt := 148) dc_Model_goes_68 rfl ?_
        refine RO_iconst dc_Model_goes_148 ?_
        exact RO_zret rfl (Or.inr rfl) dc_Model_goes_149
    · refine RO_iload_n dc_Model_goes_71 rfl rfl ?_
      refine RO_iconst dc_Model_goes_72 ?_
      refine RO_icmp_ne (tgt := 116) dc_Model_goes_73 rfl ?_ ?_
      · refine RO_aload_n dc_Model_goes_76 rfl rfl ?_
        refine RO_getR (b := 245) gf_Model_135 lk_203 rfl dc_Model_goes_77 ?_
        refine RO_bipush dc_Model_goes_80 ?_
        refine RO_iload_n dc_Model_goes_82 rfl rfl ?_
        refine RO_iadd dc_Model_goes_83 ?_
        refine RO_chk (fun hi12 => ?_)
        refine RO_ia lk_245 hi12 dc_Model_goes_84 ?_
        refine RO_iload dc_Model_goes_85 rfl ?_
        refine RO_icmp_eq (tgt := 100) dc_Model_goes_87 rfl ?_ ?_
        · refine RO_iconst dc_Model_goes_100 ?_
          exact RO_zret rfl (Or.inl rfl) dc_Model_goes_101
        · refine RO_aload_n dc_Model_goes_90 rfl rfl ?_
          refine RO_iload_n dc_Model_goes_91 rfl rfl ?_
          refine RO_iload dc_Model_goes_92 rfl ?_
          refine RO_callVi (As := [vi x4, vi x6]) (rest := []) mi_Model_canStand mv_Model_canStand ml_Model_495 lk_203 (Nat.le_of_ble_eq_true rfl) rfl (Nat.le_of_ble_eq_true rfl) (fun _ => rfl) dc_Model_goes_94 (fun rq mq hq => pf_Model_canStand x4 x6  mem hq) (fun r13 m14 => ?_)
          refine RO_if_ne (tgt := 102) dc_Model_goes_97 rfl ?_ ?_
          · refine RO_iconst dc_Model_goes_100 ?_
            exact RO_zret rfl (Or.inl rfl) dc_Model_goes_101
          · refine RO_aload_n dc_Model_goes_102 rfl rfl ?_
            refine RO_getR (b := 245) gf_Model_135 lk_203 rfl dc_Model_goes_103 ?_
            refine RO_bipush dc_Model_goes_106 ?_
            refine RO_iload_n dc_Model_goes_108 rfl rfl ?_
            refine RO_iadd dc_Model_goes_109 ?_
            refine RO_iload dc_Model_goes_110 rfl ?_
            refine RO_chk (fun hi15 => ?_)
            refine RO_is lk_245 hi15 dc_Model_goes_112 ?_
            refine RO_bnM (fun m16 => ?_)
            refine RO_goto (tgt := 148) dc_Model_goes_113 rfl ?_
            refine RO_iconst dc_Model_goes_148 ?_
            exact RO_zret rfl (Or.inr rfl) dc_Model_goes_149
      · refine RO_iload_n dc_Model_goes_116 rfl rfl ?_
        refine RO_iconst dc_Model_goes_117 ?_
        refine RO_icmp_ne (tgt := 143) dc_Model_goes_118 rfl ?_ ?_
        · refine RO_aload_n dc_Model_goes_121 rfl rfl ?_
          refine RO_getR (b := 245) gf_Model_135 lk_203 rfl dc_Model_goes_122 ?_
          refine RO_iconst dc_Model_goes_125 ?_
          refine RO_ia lk_245 ⟨by decide, by decide⟩ dc_Model_goes_126 ?_
          refine RO_iconst dc_Model_goes_127 ?_
          refine RO_icmp_ne (tgt := 133) dc_Model_goes_128 rfl ?_ ?_
          · refine RO_iconst dc_Model_goes_131 ?_
            exact RO_zret rfl (Or.inl rfl) dc_Model_goes_132
          · refine RO_aload_n dc_Model_goes_133 rfl rfl ?_
            refine RO_getR (b := 245) gf_Model_135 lk_203 rfl dc_Model_goes_134 ?_
            refine RO_iconst dc_Model_goes_137 ?_
            refine RO_iconst dc_Model_goes_138 ?_
            refine RO_is lk_245 ⟨by decide, by decide⟩ dc_Model_goes_139 ?_
            refine RO_bnM (fun m17 => ?_)
            refine RO_goto (tgt := 148) dc_Model_goes_140 rfl ?_
            refine RO_iconst dc_Model_goes_148 ?_
            exact RO_zret rfl (Or.inr rfl) dc_Model_goes_149
        · refine RO_aload_n dc_Model_goes_143 rfl rfl ?_
          refine RO_callVi (As := []) (rest := []) mi_Model_passes mv_Model_passes ml_Model_501 lk_203 (Nat.le_of_ble_eq_true rfl) rfl (Nat.le_of_ble_eq_true rfl) (fun _ => rfl) dc_Model_goes_144 (fun rq mq hq => pf_Model_passes   mem hq) (fun r18 m19 => ?_)
          refine RO_pop dc_Model_goes_147 (nt0 _) ?_
          refine RO_iconst dc_Model_goes_148 ?_
          exact RO_zret rfl (Or.inr rfl) dc_Model_goes_149
def bo_Model_look_46  (k15 : Int → Int → Int → Mm → Res) (v1 : Int) (v2 : Int) (v3 : Int) (mem : Mm) : Res := k15 v1 v2 (w32 (v3 + 1)) mem
set_option maxHeartbeats 4000000 in
theorem rb_Model_look_46 {E : EE}   (k15 : Int → Int → Int → Mm → Res) (H15 : ∀ (v1 : Int) (v2 : Int) (v3 : Int)  (mem : Mm), RO E mt_Model_look (k15 v1 v2 v3 mem) 15 [(0, rf 203), (1, vi v1), (2, vi v2), (3, vi v3)] [] mem) (v1 : Int) (v2 : Int) (v3 : Int)  (mem : Mm) : RO E mt_Model_look (bo_Model_look_46  k15 v1 v2 v3 mem) 46 [(0, rf 203), (1, vi v1), (2, vi v2), (3, vi v3)] [] mem := by
  unfold bo_Model_look_46
  refine RO_iinc dc_Model_look_46 rfl (Nat.le_of_ble_eq_true rfl) ?_
  refine RO_goto (tgt := 15) dc_Model_look_49 rfl ?_
  refine RO_sub ?_ (H15 v1 v2 (w32 (v3 + 1)) mem)
  exact ⟨rfl, rfl, rfl, rfl, trivial⟩
def bo_Model_look_15  (k15 : Int → Int → Int → Mm → Res) (v1 : Int) (v2 : Int) (v3 : Int) (mem : Mm) : Res := if v3 < (mem 205 (0 : Int).toNat) then (bd (fn_Model_mostAlike v3 mem) fun r1 m2 => if r1 < v1 then (bo_Model_look_46 k15 r1 v3 v3 m2) else (bo_Model_look_46 k15 v1 v2 v3 m2)) else (some (v2, mem))
set_option maxHeartbeats 4000000 in
theorem rb_Model_look_15 {E : EE}   (k15 : Int → Int → Int → Mm → Res) (H15 : ∀ (v1 : Int) (v2 : Int) (v3 : Int)  (mem : Mm), RO E mt_Model_look (k15 v1 v2 v3 mem) 15 [(0, rf 203), (1, vi v1), (2, vi v2), (3, vi v3)] [] mem) (v1 : Int) (v2 : Int) (v3 : Int)  (mem : Mm) : RO E mt_Model_look (bo_Model_look_15  k15 v1 v2 v3 mem) 15 [(0, rf 203), (1, vi v1), (2, vi v2), (3, vi v3)] [] mem := by
  unfold bo_Model_look_15
  refine RO_iload_n dc_Model_look_15 rfl rfl ?_
  refine RO_aload_n dc_Model_look_16 rfl rfl ?_
  refine RO_getR (b := 205) gf_Model_13 lk_203 rfl dc_Model_look_17 ?_
  refine RO_iconst dc_Model_look_20 ?_
  refine RO_ia lk_205 ⟨by decide, by decide⟩ dc_Model_look_21 ?_
  refine RO_icmp_ge (tgt := 52) dc_Model_look_22 rfl ?_ ?_
  · refine RO_aload_n dc_Model_look_25 rfl rfl ?_
    refine RO_iload_n dc_Model_look_26 rfl rfl ?_
    refine RO_callVi (As := [vi v3]) (rest := []) mi_Model_mostAlike mv_Model_mostAlike ml_Model_519 lk_203 (Nat.le_of_ble_eq_true rfl) rfl (Nat.le_of_ble_eq_true rfl) (fun _ => rfl) dc_Model_look_27 (fun rq mq hq => pf_Model_mostAlike v3  mem hq) (fun r1 m2 => ?_)
    refine RO_istore dc_Model_look_30 (Nat.le_of_ble_eq_true rfl) ?_
    refine RO_iload dc_Model_look_32 rfl ?_
    refine RO_iload_n dc_Model_look_34 rfl rfl ?_
    refine RO_icmp_lt (tgt := 41) dc_Model_look_35 rfl ?_ ?_
    · refine RO_iload dc_Model_look_41 rfl ?_
      refine RO_istore_n dc_Model_look_43 rfl (Nat.le_of_ble_eq_true rfl) ?_
      refine RO_iload_n dc_Model_look_44 rfl rfl ?_
      refine RO_istore_n dc_Model_look_45 rfl (Nat.le_of_ble_eq_true rfl) ?_
      refine RO_sub ?_ (rb_Model_look_46 k15 H15 r1 v3 v3 m2)
      exact ⟨rfl, rfl, rfl, rfl, trivial⟩
    · refine RO_goto (tgt := 46) dc_Model_look_38 rfl ?_
      refine RO_sub ?_ (rb_Model_look_46 k15 H15 v1 v2 v3 m2)
      exact ⟨rfl, rfl, rfl, rfl, trivial⟩
  · refine RO_iload_n dc_Model_look_52 rfl rfl ?_
    exact RO_iret rfl dc_Model_look_53
def lp_Model_look_15   : Nat → Int → Int → Int → Mm → Res
  | 0 => fun _ _ _ _ => none
  | n + 1 => bo_Model_look_15   (lp_Model_look_15   n)
theorem rp_Model_look_15 {E : EE}     : ∀ (n : Nat) (v1 : Int) (v2 : Int) (v3 : Int)  (mem : Mm), RO E mt_Model_look (lp_Model_look_15   n v1 v2 v3 mem) 15 [(0, rf 203), (1, vi v1), (2, vi v2), (3, vi v3)] [] mem := by
  intro n
  induction n with
  | zero => intro v1 v2 v3  mem; exact RO_none
  | succ n ih => intro v1 v2 v3  mem; exact rb_Model_look_15    (lp_Model_look_15   n)  ih v1 v2 v3  mem
def fn_Model_look  (mem : Mm) : Res := bn (mst mem 203 0 0) fun m1 => bd (fn_Model_times 0 m1) fun r2 m3 => lp_Model_look_15 FU r2 (-1) 0 m3
set_option maxHeartbeats 4000000 in
theorem pf_Model_look {E : EE}   (mem : Mm) {r : Int} {mem9 : Mm} (h : fn_Model_look  mem = some (r, mem9)) : MetX E 6 yn_Model_look cd_Model_look 5 (some .int) [rf 203] mem r mem9 := by
  refine RO_met (y := yn_Model_look) (by decide +kernel) (Nat.le_of_ble_eq_true rfl) ?_ h
  show RO E mt_Model_look (fn_Model_look  mem) 0 [(0, rf 203)] [] mem
  unfold fn_Model_look
  refine RO_aload_n dc_Model_look_0 rfl rfl ?_
  refine RO_iconst dc_Model_look_1 ?_
  refine RO_putI gp_Model_183 lk_203 dc_Model_look_2 ?_
  refine RO_bnM (fun m1 => ?_)
  refine RO_aload_n dc_Model_look_5 rfl rfl ?_
  refine RO_iconst dc_Model_look_6 ?_
  refine RO_callVi (As := [vi 0]) (rest := []) mi_Model_times mv_Model_times ml_Model_516 lk_203 (Nat.le_of_ble_eq_true rfl) rfl (Nat.le_of_ble_eq_true rfl) (fun _ => rfl) dc_Model_look_7 (fun rq mq hq => pf_Model_times 0  m1 hq) (fun r2 m3 => ?_)
  refine RO_istore_n dc_Model_look_10 rfl (Nat.le_of_ble_eq_true rfl) ?_
  refine RO_iconst dc_Model_look_11 ?_
  refine RO_istore_n dc_Model_look_12 rfl (Nat.le_of_ble_eq_true rfl) ?_
  refine RO_iconst dc_Model_look_13 ?_
  refine RO_istore_n dc_Model_look_14 rfl (Nat.le_of_ble_eq_true rfl) ?_
  refine RO_sub ?_ (rp_Model_look_15 FU r2 (-1) 0 m3)
  exact ⟨rfl, rfl, rfl, rfl, trivial⟩
def bo_Model_sets_193 (p1 : Int) (p2 : Int)  (v3 : Int) (mem : Mm) : Res := if p2 = 0 then (some (v3, mem)) else (some ((-1), mem))
set_option maxHeartbeats 4000000 in
theorem rb_Model_sets_193 {E : EE} (p1 : Int) (p2 : Int)    (v3 : Int)  (mem : Mm) : RO E mt_Model_sets (bo_Model_sets_193 p1 p2  v3 mem) 193 [(2, vi p2), (3, vi v3)] [] mem := by
  unfold bo_Model_sets_193
  refine RO_iload_n dc_Model_sets_193 rfl rfl ?_
  refine RO_if_ne (tgt := 201) dc_Model_sets_194 rfl ?_ ?_
  · refine RO_iload_n dc_Model_sets_197 rfl rfl ?_
    refine RO_goto (tgt := 202) dc_Model_sets_198 rfl ?_
    exact RO_iret rfl dc_Model_sets_202
  · refine RO_iconst dc_Model_sets_201 ?_
    exact RO_iret rfl dc_Model_sets_202
def bo_Model_sets_185 (p1 : Int) (p2 : Int)  (v3 : Int) (v4 : Int) (v5 : Int) (v6 : Int) (mem : Mm) : Res := if v3 = 0 then (bo_Model_sets_193 p1 p2 v3 mem) else (if p2 = 0 then (bo_Model_sets_193 p1 p2 v3 mem) else (if p2 = 1 then (some (v4, mem)) else (if p2 = 2 then (some (v5, mem)) else (some (v6, mem)))))
set_option maxHeartbeats 4000000 in
theorem rb_Model_sets_185 {E : EE} (p1 : Int) (p2 : Int)    (v3 : Int) (v4 : Int) (v5 : Int) (v6 : Int)  (mem : Mm) : RO E mt_Model_sets (bo_Model_sets_185 p1 p2  v3 v4 v5 v6 mem) 185 [(2, vi p2), (3, vi v3), (4, vi v4), (5, vi v5), (6, vi v6)] [] mem := by
  unfold bo_Model_sets_185
  refine RO_iload_n dc_Model_sets_185 rfl rfl ?_
  refine RO_if_eq (tgt := 193) dc_Model_sets_186 rfl ?_ ?_
  · refine RO_sub ?_ (rb_Model_sets_193 p1 p2 v3 mem)
    exact ⟨rfl, rfl, trivial⟩
  · refine RO_iload_n dc_Model_sets_189 rfl rfl ?_
    refine RO_if_ne (tgt := 203) dc_Model_sets_190 rfl ?_ ?_
    · refine RO_sub ?_ (rb_Model_sets_193 p1 p2 v3 mem)
      exact ⟨rfl, rfl, trivial⟩
    · refine RO_iload_n dc_Model_sets_203 rfl rfl ?_
      refine RO_iconst dc_Model_sets_204 ?_
      refine RO_icmp_ne (tgt := 213) dc_Model_sets_205 rfl ?_ ?_
      · refine RO_iload dc_Model_sets_208 rfl ?_
        refine RO_goto (tgt := 225) dc_Model_sets_210 rfl ?_
        exact RO_iret rfl dc_Model_sets_225
      · refine RO_iload_n dc_Model_sets_213 rfl rfl ?_
        refine RO_iconst dc_Model_sets_214 ?_
        refine RO_icmp_ne (tgt := 223) dc_Model_sets_215 rfl ?_ ?_
        · refine RO_iload dc_Model_sets_218 rfl ?_
          refine RO_goto (tgt := 225) dc_Model_sets_220 rfl ?_
          exact RO_iret rfl dc_Model_sets_225
        · refine RO_iload dc_Model_sets_223 rfl ?_
          exact RO_iret rfl dc_Model_sets_225
def bo_Model_sets_179 (p1 : Int) (p2 : Int) (k56 : Int → Int → Int → Int → Int → Mm → Res) (v3 : Int) (v4 : Int) (v5 : Int) (v6 : Int) (v7 : Int) (mem : Mm) : Res := k56 v3 v4 v5 v6 (w32 (v7 + 1)) mem
set_option maxHeartbeats 4000000 in
theorem rb_Model_sets_179 {E : EE} (p1 : Int) (p2 : Int)  (k56 : Int → Int → Int → Int → Int → Mm → Res) (H56 : ∀ (v3 : Int) (v4 : Int) (v5 : Int) (v6 : Int) (v7 : Int)  (mem : Mm), RO E mt_Model_sets (k56 v3 v4 v5 v6 v7 mem) 56 [(0, rf 203), (1, vi p1), (2, vi p2), (3, vi v3), (4, vi v4), (5, vi v5), (6, vi v6), (7, vi v7)] [] mem) (v3 : Int) (v4 : Int) (v5 : Int) (v6 : Int) (v7 : Int)  (mem : Mm) : RO E mt_Model_sets (bo_Model_sets_179 p1 p2 k56 v3 v4 v5 v6 v7 mem) 179 [(0, rf 203), (1, vi p1), (2, vi p2), (3, vi v3), (4, vi v4), (5, vi v5), (6, vi v6), (7, vi v7)] [] mem := by
  unfold bo_Model_sets_179
  refine RO_iinc dc_Model_sets_179 rfl (Nat.le_of_ble_eq_true rfl) ?_
  refine RO_goto (tgt := 56) dc_Model_sets_182 rfl ?_
  refine RO_sub ?_ (H56 v3 v4 v5 v6 (w32 (v7 + 1)) mem)
  exact ⟨rfl, rfl, rfl, rfl, rfl, rfl, rfl, rfl, trivial⟩
def bo_Model_sets_175 (p1 : Int) (p2 : Int) (k56 : Int → Int → Int → Int → Int → Mm → Res) (v3 : Int) (v4 : Int) (v5 : Int) (v7 : Int) (mem : Mm) : Res := bo_Model_sets_179 p1 p2 k56 v3 v4 v5 v7 v7 mem
set_option maxHeartbeats 4000000 in
theorem rb_Model_sets_175 {E : EE} (p1 : Int) (p2 : Int)  (k56 : Int → Int → Int → Int → Int → Mm → Res) (H56 : ∀ (v3 : Int) (v4 : Int) (v5 : Int) (v6 : Int) (v7 : Int)  (mem : Mm), RO E mt_Model_sets (k56 v3 v4 v5 v6 v7 mem) 56 [(0, rf 203), (1, vi p1), (2, vi p2), (3, vi v3), (4, vi v4), (5, vi v5), (6, vi v6), (7, vi v7)] [] mem) (v3 : Int) (v4 : Int) (v5 : Int) (v7 : Int)  (mem : Mm) : RO E mt_Model_sets (bo_Model_sets_175 p1 p2 k56 v3 v4 v5 v7 mem) 175 [(0, rf 203), (1, vi p1), (2, vi p2), (3, vi v3), (4, vi v4), (5, vi v5), (7, vi v7)] [] mem := by
  unfold bo_Model_sets_175
  refine RO_iload dc_Model_sets_175 rfl ?_
  refine RO_istore dc_Model_sets_177 (Nat.le_of_ble_eq_true rfl) ?_
  refine RO_sub ?_ (rb_Model_sets_179 p1 p2 k56 H56 v3 v4 v5 v7 v7 mem)
  exact ⟨rfl, rfl, rfl, rfl, rfl, rfl, rfl, rfl, trivial⟩
def bo_Model_sets_113 (p1 : Int) (p2 : Int) (k56 : Int → Int → Int → Int → Int → Mm → Res) (v3 : Int) (v4 : Int) (v5 : Int) (v6 : Int) (v7 : Int) (mem : Mm) : Res := bd (fn_Model_isAsTold  mem) fun r1 m2 => bd (fn_Model_copies 16 246 0 16 245 0 m2) fun r3 m4 => if r1 = 0 then (bo_Model_sets_179 p1 p2 k56 v3 v4 v5 v6 v7 m4) else (bn (iand v4 v7) fun x5 => bn (ior v5 v7) fun x6 => if v6 < 0 then (bo_Model_sets_175 p1 p2 k56 (w32 (v3 + 1)) x5 x6 v7 m4) else (bd (fn_Model_bits v7 m4) fun r7 m8 => bd (fn_Model_bits v6 m8) fun r9 m10 => if r7 < r9 then (bo_Model_sets_175 p1 p2 k56 (w32 (v3 + 1)) x5 x6 v7 m10) else (bo_Model_sets_179 p1 p2 k56 (w32 (v3 + 1)) x5 x6 v6 v7 m10)))
set_option maxHeartbeats 4000000 in
theorem rb_Model_sets_113 {E : EE} (p1 : Int) (p2 : Int)  (k56 : Int → Int → Int → Int → Int → Mm → Res) (H56 : ∀ (v3 : Int) (v4 : Int) (v5 : Int) (v6 : Int) (v7 : Int)  (mem : Mm), RO E mt_Model_sets (k56 v3 v4 v5 v6 v7 mem) 56 [(0, rf 203), (1, vi p1), (2, vi p2), (3, vi v3), (4, vi v4), (5, vi v5), (6, vi v6), (7, vi v7)] [] mem) (v3 : Int) (v4 : Int) (v5 : Int) (v6 : Int) (v7 : Int)  (mem : Mm) : RO E mt_Model_sets (bo_Model_sets_113 p1 p2 k56 v3 v4 v5 v6 v7 mem) 113 [(0, rf 203), (1, vi p1), (2, vi p2), (3, vi v3), (4, vi v4), (5, vi v5), (6, vi v6), (7, vi v7)] [] mem := by
  unfold bo_Model_sets_113
  refine RO_aload_n dc_Model_sets_113 rfl rfl ?_
  refine RO_callVi (As := []) (rest := []) mi_Model_isAsTold mv_Model_isAsTold ml_Model_539 lk_203 (Nat.le_of_ble_eq_true rfl) rfl (Nat.le_of_ble_eq_true rfl) (fun _ => rfl) dc_Model_sets_114 (fun rq mq hq => pf_Model_isAsTold   mem hq) (fun r1 m2 => ?_)
  refine RO_istore dc_Model_sets_117 (Nat.le_of_ble_eq_true rfl) ?_
  refine RO_aload_n dc_Model_sets_119 rfl rfl ?_
  refine RO_getR (b := 246) gf_Model_138 lk_203 rfl dc_Model_sets_120 ?_
  refine RO_iconst dc_Model_sets_123 ?_
  refine RO_aload_n dc_Model_sets_124 rfl rfl ?_
  refine RO_getR (b := 245) gf_Model_135 lk_203 rfl dc_Model_sets_125 ?_
  refine RO_iconst dc_Model_sets_128 ?_
  refine RO_callSv (As := [rf 246, vi 0, rf 245, vi 0]) (rest := []) mi_Model_copies ms_Model_copies ml_Model_482 (Nat.le_of_ble_eq_true rfl) rfl (Nat.le_of_ble_eq_true rfl) dc_Model_sets_129 (fun rq mq hq => pf_Model_copies 16 246 0 16 245 0 lk_246 lk_245 m2 hq) (fun r3 m4 => ?_)
  refine RO_iload dc_Model_sets_132 rfl ?_
  refine RO_if_ne (tgt := 140) dc_Model_sets_134 rfl ?_ ?_
  · refine RO_goto (tgt := 179) dc_Model_sets_137 rfl ?_
    refine RO_sub ?_ (rb_Model_sets_179 p1 p2 k56 H56 v3 v4 v5 v6 v7 m4)
    exact ⟨rfl, rfl, rfl, rfl, rfl, rfl, rfl, rfl, trivial⟩
  · refine RO_iinc dc_Model_sets_140 rfl (Nat.le_of_ble_eq_true rfl) ?_
    refine RO_iload dc_Model_sets_143 rfl ?_
    refine RO_iload dc_Model_sets_145 rfl ?_
    refine RO_iand dc_Model_sets_147 ?_
    refine RO_bnT (fun x5 => ?_)
    refine RO_istore dc_Model_sets_148 (Nat.le_of_ble_eq_true rfl) ?_
    refine RO_iload dc_Model_sets_150 rfl ?_
    refine RO_iload dc_Model_sets_152 rfl ?_
    refine RO_ior dc_Model_sets_154 ?_
    refine RO_bnT (fun x6 => ?_)
    refine RO_istore dc_Model_sets_155 (Nat.le_of_ble_eq_true rfl) ?_
    refine RO_iload dc_Model_sets_157 rfl ?_
    refine RO_if_lt (tgt := 175) dc_Model_sets_159 rfl ?_ ?_
    · refine RO_sub ?_ (rb_Model_sets_175 p1 p2 k56 H56 (w32 (v3 + 1)) x5 x6 v7 m4)
      exact ⟨rfl, rfl, rfl, rfl, rfl, rfl, rfl, trivial⟩
    · refine RO_iload dc_Model_sets_162 rfl ?_
      refine RO_callSi (As := [vi v7]) (rest := []) mi_Model_bits ms_Model_bits ml_Model_542 (Nat.le_of_ble_eq_true rfl) rfl (Nat.le_of_ble_eq_true rfl) (fun _ => rfl) dc_Model_sets_164 (fun rq mq hq => pf_Model_bits v7  m4 hq) (fun r7 m8 => ?_)
      refine RO_iload dc_Model_sets_167 rfl ?_
      refine RO_callSi (As := [vi v6]) (rest := [vi r7]) mi_Model_bits ms_Model_bits ml_Model_542 (Nat.le_of_ble_eq_true rfl) rfl (Nat.le_of_ble_eq_true rfl) (fun _ => rfl) dc_Model_sets_169 (fun rq mq hq => pf_Model_bits v6  m8 hq) (fun r9 m10 => ?_)
      refine RO_icmp_ge (tgt := 179) dc_Model_sets_172 rfl ?_ ?_
      · refine RO_sub ?_ (rb_Model_sets_175 p1 p2 k56 H56 (w32 (v3 + 1)) x5 x6 v7 m10)
        exact ⟨rfl, rfl, rfl, rfl, rfl, rfl, rfl, trivial⟩
      · refine RO_sub ?_ (rb_Model_sets_179 p1 p2 k56 H56 (w32 (v3 + 1)) x5 x6 v6 v7 m10)
        exact ⟨rfl, rfl, rfl, rfl, rfl, rfl, rfl, rfl, trivial⟩
def bo_Model_sets_105 (p1 : Int) (p2 : Int) (k56 : Int → Int → Int → Int → Int → Mm → Res) (k68 : Int → Int → Int → Int → Int → Int → Mm → Res) (v3 : Int) (v4 : Int) (v5 : Int) (v6 : Int) (v7 : Int) (v8 : Int) (s1 : Int) (s2 : Int) (s3 : Int) (mem : Mm) : Res := if 0 ≤ s1 ∧ s1 < 16 then bn (mst mem 245 s1.toNat (w32 (s2 + s3))) fun m2 => k68 v3 v4 v5 v6 v7 (w32 (v8 + 1)) m2 else none
set_option maxHeartbeats 4000000 in
theorem rb_Model_sets_105 {E : EE} (p1 : Int) (p2 : Int)  (k56 : Int → Int → Int → Int → Int → Mm → Res) (k68 : Int → Int → Int → Int → Int → Int → Mm → Res) (H56 : ∀ (v3 : Int) (v4 : Int) (v5 : Int) (v6 : Int) (v7 : Int)  (mem : Mm), RO E mt_Model_sets (k56 v3 v4 v5 v6 v7 mem) 56 [(0, rf 203), (1, vi p1), (2, vi p2), (3, vi v3), (4, vi v4), (5, vi v5), (6, vi v6), (7, vi v7)] [] mem) (H68 : ∀ (v3 : Int) (v4 : Int) (v5 : Int) (v6 : Int) (v7 : Int) (v8 : Int)  (mem : Mm), RO E mt_Model_sets (k68 v3 v4 v5 v6 v7 v8 mem) 68 [(0, rf 203), (1, vi p1), (2, vi p2), (3, vi v3), (4, vi v4), (5, vi v5), (6, vi v6), (7, vi v7), (8, vi v8)] [] mem) (v3 : Int) (v4 : Int) (v5 : Int) (v6 : Int) (v7 : Int) (v8 : Int) (s1 : Int) (s2 : Int) (s3 : Int)  (mem : Mm) : RO E mt_Model_sets (bo_Model_sets_105 p1 p2 k56 k68 v3 v4 v5 v6 v7 v8 s1 s2 s3 mem) 105 [(0, rf 203), (1, vi p1), (2, vi p2), (3, vi v3), (4, vi v4), (5, vi v5), (6, vi v6), (7, vi v7), (8, vi v8)] [vi s3, vi s2, vi s1, rf 245] mem := by
  unfold bo_Model_sets_105
  refine RO_iadd dc_Model_sets_105 ?_
  refine RO_chk (fun hi1 => ?_)
  refine RO_is lk_245 hi1 dc_Model_sets_106 ?_
  refine RO_bnM (fun m2 => ?_)
  refine RO_iinc dc_Model_sets_107 rfl (Nat.le_of_ble_eq_true rfl) ?_
  refine RO_goto (tgt := 68) dc_Model_sets_110 rfl ?_
  refine RO_sub ?_ (H68 v3 v4 v5 v6 v7 (w32 (v8 + 1)) m2)
  exact ⟨rfl, rfl, rfl, rfl, rfl, rfl, rfl, rfl, rfl, trivial⟩
def bo_Model_sets_68 (p1 : Int) (p2 : Int) (k56 : Int → Int → Int → Int → Int → Mm → Res) (k68 : Int → Int → Int → Int → Int → Int → Mm → Res) (v3 : Int) (v4 : Int) (v5 : Int) (v6 : Int) (v7 : Int) (v8 : Int) (mem : Mm) : Res := if v8 < (mem 205 (1 : Int).toNat) then (bn (w32 (4 + v8)) fun x1 => if 0 ≤ x1 ∧ x1 < 16 then if (iand (ishr v7 v8) 1) = 1 then (bo_Model_sets_105 p1 p2 k56 k68 v3 v4 v5 v6 v7 v8 x1 (mem 245 x1.toNat) p1 mem) else (bo_Model_sets_105 p1 p2 k56 k68 v3 v4 v5 v6 v7 v8 x1 (mem 245 x1.toNat) 0 mem) else none) else (bo_Model_sets_113 p1 p2 k56 v3 v4 v5 v6 v7 mem)
set_option maxHeartbeats 4000000 in
theorem rb_Model_sets_68 {E : EE} (p1 : Int) (p2 : Int)  (k56 : Int → Int → Int → Int → Int → Mm → Res) (k68 : Int → Int → Int → Int → Int → Int → Mm → Res) (H56 : ∀ (v3 : Int) (v4 : Int) (v5 : Int) (v6 : Int) (v7 : Int)  (mem : Mm), RO E mt_Model_sets (k56 v3 v4 v5 v6 v7 mem) 56 [(0, rf 203), (1, vi p1), (2, vi p2), (3, vi v3), (4, vi v4), (5, vi v5), (6, vi v6), (7, vi v7)] [] mem) (H68 : ∀ (v3 : Int) (v4 : Int) (v5 : Int) (v6 : Int) (v7 : Int) (v8 : Int)  (mem : Mm), RO E mt_Model_sets (k68 v3 v4 v5 v6 v7 v8 mem) 68 [(0, rf 203), (1, vi p1), (2, vi p2), (3, vi v3), (4, vi v4), (5, vi v5), (6, vi v6), (7, vi v7), (8, vi v8)] [] mem) (v3 : Int) (v4 : Int) (v5 : Int) (v6 : Int) (v7 : Int) (v8 : Int)  (mem : Mm) : RO E mt_Model_sets (bo_Model_sets_68 p1 p2 k56 k68 v3 v4 v5 v6 v7 v8 mem) 68 [(0, rf 203), (1, vi p1), (2, vi p2), (3, vi v3), (4, vi v4), (5, vi v5), (6, vi v6), (7, vi v7), (8, vi v8)] [] mem := by
  unfold bo_Model_sets_68
  refine RO_iload dc_Model_sets_68 rfl ?_
  refine RO_aload_n dc_Model_sets_70 rfl rfl ?_
  refine RO_getR (b := 205) gf_Model_13 lk_203 rfl dc_Model_sets_71 ?_
  refine RO_iconst dc_Model_sets_74 ?_
  refine RO_ia lk_205 ⟨by decide, by decide⟩ dc_Model_sets_75 ?_
  refine RO_icmp_ge (tgt := 113) dc_Model_sets_76 rfl ?_ ?_
  · refine RO_aload_n dc_Model_sets_79 rfl rfl ?_
    refine RO_getR (b := 245) gf_Model_135 lk_203 rfl dc_Model_sets_80 ?_
    refine RO_iconst dc_Model_sets_83 ?_
    refine RO_iload dc_Model_sets_84 rfl ?_
    refine RO_iadd dc_Model_sets_86 ?_
    refine RO_bnT (fun x1 => ?_)
    refine RO_dup2 dc_Model_sets_87 (nt0 _) (nt2 _) ?_
    refine RO_chk (fun hi2 => ?_)
    refine RO_ia lk_245 hi2 dc_Model_sets_88 ?_
    refine RO_iload dc_Model_sets_89 rfl ?_
    refine RO_iload dc_Model_sets_91 rfl ?_
    refine RO_ishr dc_Model_sets_93 ?_
    refine RO_iconst dc_Model_sets_94 ?_
    refine RO_iand dc_Model_sets_95 ?_
    refine RO_iconst dc_Model_sets_96 ?_
    refine RO_icmp_ne (tgt := 104) dc_Model_sets_97 rfl ?_ ?_
    · refine RO_iload_n dc_Model_sets_100 rfl rfl ?_
      refine RO_goto (tgt := 105) dc_Model_sets_101 rfl ?_
      refine RO_sub ?_ (rb_Model_sets_105 p1 p2 k56 k68 H56 H68 v3 v4 v5 v6 v7 v8 x1 (mem 245 x1.toNat) p1 mem)
      exact ⟨rfl, rfl, rfl, rfl, rfl, rfl, rfl, rfl, rfl, trivial⟩
    · refine RO_iconst dc_Model_sets_104 ?_
      refine RO_sub ?_ (rb_Model_sets_105 p1 p2 k56 k68 H56 H68 v3 v4 v5 v6 v7 v8 x1 (mem 245 x1.toNat) 0 mem)
      exact ⟨rfl, rfl, rfl, rfl, rfl, rfl, rfl, rfl, rfl, trivial⟩
  · refine RO_sub ?_ (rb_Model_sets_113 p1 p2 k56 H56 v3 v4 v5 v6 v7 mem)
    exact ⟨rfl, rfl, rfl, rfl, rfl, rfl, rfl, rfl, trivial⟩
def lp_Model_sets_68 (p1 : Int) (p2 : Int) (k56 : Int → Int → Int → Int → Int → Mm → Res) : Nat → Int → Int → Int → Int → Int → Int → Mm → Res
  | 0 => fun _ _ _ _ _ _ _ => none
  | n + 1 => bo_Model_sets_68 p1 p2 k56 (lp_Model_sets_68 p1 p2 k56 n)
theorem rp_Model_sets_68 {E : EE} (p1 : Int) (p2 : Int)  (k56 : Int → Int → Int → Int → Int → Mm → Res) (H56 : ∀ (v3 : Int) (v4 : Int) (v5 : Int) (v6 : Int) (v7 : Int)  (mem : Mm), RO E mt_Model_sets (k56 v3 v4 v5 v6 v7 mem) 56 [(0, rf 203), (1, vi p1), (2, vi p2), (3, vi v3), (4, vi v4), (5, vi v5), (6, vi v6), (7, vi v7)] [] mem) : ∀ (n : Nat) (v3 : Int) (v4 : Int) (v5 : Int) (v6 : Int) (v7 : Int) (v8 : Int)  (mem : Mm), RO E mt_Model_sets (lp_Model_sets_68 p1 p2 k56 n v3 v4 v5 v6 v7 v8 mem) 68 [(0, rf 203), (1, vi p1), (2, vi p2), (3, vi v3), (4, vi v4), (5, vi v5), (6, vi v6), (7, vi v7), (8, vi v8)] [] mem := by
  intro n
  induction n with
  | zero => intro v3 v4 v5 v6 v7 v8  mem; exact RO_none
  | succ n ih => intro v3 v4 v5 v6 v7 v8  mem; exact rb_Model_sets_68 p1 p2  k56 (lp_Model_sets_68 p1 p2 k56 n) H56 ih v3 v4 v5 v6 v7 v8  mem
def bo_Model_sets_56 (p1 : Int) (p2 : Int) (k56 : Int → Int → Int → Int → Int → Mm → Res) (v3 : Int) (v4 : Int) (v5 : Int) (v6 : Int) (v7 : Int) (mem : Mm) : Res := bd (fn_Model_allWalkers  mem) fun r1 m2 => if r1 < v7 then (bo_Model_sets_185 p1 p2 v3 v4 v5 v6 m2) else (lp_Model_sets_68 p1 p2 k56 FU v3 v4 v5 v6 v7 0 m2)
set_option maxHeartbeats 4000000 in
theorem rb_Model_sets_56 {E : EE} (p1 : Int) (p2 : Int)  (k56 : Int → Int → Int → Int → Int → Mm → Res) (H56 : ∀ (v3 : Int) (v4 : Int) (v5 : Int) (v6 : Int) (v7 : Int)  (mem : Mm), RO E mt_Model_sets (k56 v3 v4 v5 v6 v7 mem) 56 [(0, rf 203), (1, vi p1), (2, vi p2), (3, vi v3), (4, vi v4), (5, vi v5), (6, vi v6), (7, vi v7)] [] mem) (v3 : Int) (v4 : Int) (v5 : Int) (v6 : Int) (v7 : Int)  (mem : Mm) : RO E mt_Model_sets (bo_Model_sets_56 p1 p2 k56 v3 v4 v5 v6 v7 mem) 56 [(0, rf 203), (1, vi p1), (2, vi p2), (3, vi v3), (4, vi v4), (5, vi v5), (6, vi v6), (7, vi v7)] [] mem := by
  unfold bo_Model_sets_56
  refine RO_iload dc_Model_sets_56 rfl ?_
  refine RO_aload_n dc_Model_sets_58 rfl rfl ?_
  refine RO_callVi (As := []) (rest := [vi v7]) mi_Model_allWalkers mv_Model_allWalkers ml_Model_402 lk_203 (Nat.le_of_ble_eq_true rfl) rfl (Nat.le_of_ble_eq_true rfl) (fun _ => rfl) dc_Model_sets_59 (fun rq mq hq => pf_Model_allWalkers   mem hq) (fun r1 m2 => ?_)
  refine RO_icmp_gt (tgt := 185) dc_Model_sets_62 rfl ?_ ?_
  · refine RO_sub ?_ (rb_Model_sets_185 p1 p2 v3 v4 v5 v6 m2)
    exact ⟨rfl, rfl, rfl, rfl, rfl, trivial⟩
  · refine RO_iconst dc_Model_sets_65 ?_
    refine RO_istore dc_Model_sets_66 (Nat.le_of_ble_eq_true rfl) ?_
    refine RO_sub ?_ (rp_Model_sets_68 p1 p2 k56 H56 FU v3 v4 v5 v6 v7 0 m2)
    exact ⟨rfl, rfl, rfl, rfl, rfl, rfl, rfl, rfl, rfl, trivial⟩
def lp_Model_sets_56 (p1 : Int) (p2 : Int)  : Nat → Int → Int → Int → Int → Int → Mm → Res
  | 0 => fun _ _ _ _ _ _ => none
  | n + 1 => bo_Model_sets_56 p1 p2  (lp_Model_sets_56 p1 p2  n)
theorem rp_Model_sets_56 {E : EE} (p1 : Int) (p2 : Int)    : ∀ (n : Nat) (v3 : Int) (v4 : Int) (v5 : Int) (v6 : Int) (v7 : Int)  (mem : Mm), RO E mt_Model_sets (lp_Model_sets_56 p1 p2  n v3 v4 v5 v6 v7 mem) 56 [(0, rf 203), (1, vi p1), (2, vi p2), (3, vi v3), (4, vi v4), (5, vi v5), (6, vi v6), (7, vi v7)] [] mem := by
  intro n
  induction n with
  | zero => intro v3 v4 v5 v6 v7  mem; exact RO_none
  | succ n ih => intro v3 v4 v5 v6 v7  mem; exact rb_Model_sets_56 p1 p2   (lp_Model_sets_56 p1 p2  n)  ih v3 v4 v5 v6 v7  mem
def fn_Model_sets (p1 : Int) (p2 : Int) (mem : Mm) : Res := bn (mst mem 203 0 0) fun m1 => bd (fn_Model_within p1 1 60 m1) fun r2 m3 => if r2 = 0 then (some ((-1), m3)) else (bd (fn_Model_within p2 0 3 m3) fun r4 m5 => if r4 = 0 then (some ((-1), m5)) else (bd (fn_Model_copies 16 245 0 16 246 0 m5) fun r6 m7 => bd (fn_Model_allWalkers  m7) fun r8 m9 => lp_Model_sets_56 p1 p2 FU 0 r8 0 (-1) 0 m9))
set_option maxHeartbeats 4000000 in
theorem pf_Model_sets {E : EE} (p1 : Int) (p2 : Int)  (mem : Mm) {r : Int} {mem9 : Mm} (h : fn_Model_sets p1 p2 mem = some (r, mem9)) : MetX E 6 yn_Model_sets cd_Model_sets 9 (some .int) [rf 203, vi p1, vi p2] mem r mem9 := by
  refine RO_met (y := yn_Model_sets) (by decide +kernel) (Nat.le_of_ble_eq_true rfl) ?_ h
  show RO E mt_Model_sets (fn_Model_sets p1 p2 mem) 0 [(0, rf 203), (1, vi p1), (2, vi p2)] [] mem
  unfold fn_Model_sets
  refine RO_aload_n dc_Model_sets_0 rfl rfl ?_
  refine RO_iconst dc_Model_sets_1 ?_
  refine RO_putI gp_Model_183 lk_203 dc_Model_sets_2 ?_
  refine RO_bnM (fun m1 => ?_)
  refine RO_iload_n dc_Model_sets_5 rfl rfl ?_
  refine RO_iconst dc_Model_sets_6 ?_
  refine RO_bipush dc_Model_sets_7 ?_
  refine RO_callSi (As := [vi p1, vi 1, vi 60]) (rest := []) mi_Model_within ms_Model_within ml_Model_318 (Nat.le_of_ble_eq_true rfl) rfl (Nat.le_of_ble_eq_true rfl) (fun _ => rfl) dc_Model_sets_9 (fun rq mq hq => pf_Model_within p1 1 60  m1 hq) (fun r2 m3 => ?_)
  refine RO_if_eq (tgt := 24) dc_Model_sets_12 rfl ?_ ?_
  · refine RO_iconst dc_Model_sets_24 ?_
    exact RO_iret rfl dc_Model_sets_25
  · refine RO_iload_n dc_Model_sets_15 rfl rfl ?_
    refine RO_iconst dc_Model_sets_16 ?_
    refine RO_iconst dc_Model_sets_17 ?_
    refine RO_callSi (As := [vi p2, vi 0, vi 3]) (rest := []) mi_Model_within ms_Model_within ml_Model_318 (Nat.le_of_ble_eq_true rfl) rfl (Nat.le_of_ble_eq_true rfl) (fun _ => rfl) dc_Model_sets_18 (fun rq mq hq => pf_Model_within p2 0 3  m3 hq) (fun r4 m5 => ?_)
    refine RO_if_ne (tgt := 26) dc_Model_sets_21 rfl ?_ ?_
    · refine RO_iconst dc_Model_sets_24 ?_
      exact RO_iret rfl dc_Model_sets_25
    · refine RO_aload_n dc_Model_sets_26 rfl rfl ?_
      refine RO_getR (b := 245) gf_Model_135 lk_203 rfl dc_Model_sets_27 ?_
      refine RO_iconst dc_Model_sets_30 ?_
      refine RO_aload_n dc_Model_sets_31 rfl rfl ?_
      refine RO_getR (b := 246) gf_Model_138 lk_203 rfl dc_Model_sets_32 ?_
      refine RO_iconst dc_Model_sets_35 ?_
      refine RO_callSv (As := [rf 245, vi 0, rf 246, vi 0]) (rest := []) mi_Model_copies ms_Model_copies ml_Model_482 (Nat.le_of_ble_eq_true rfl) rfl (Nat.le_of_ble_eq_true rfl) dc_Model_sets_36 (fun rq mq hq => pf_Model_copies 16 245 0 16 246 0 lk_245 lk_246 m5 hq) (fun r6 m7 => ?_)
      refine RO_iconst dc_Model_sets_39 ?_
      refine RO_istore_n dc_Model_sets_40 rfl (Nat.le_of_ble_eq_true rfl) ?_
      refine RO_aload_n dc_Model_sets_41 rfl rfl ?_
      refine RO_callVi (As := []) (rest := []) mi_Model_allWalkers mv_Model_allWalkers ml_Model_402 lk_203 (Nat.le_of_ble_eq_true rfl) rfl (Nat.le_of_ble_eq_true rfl) (fun _ => rfl) dc_Model_sets_42 (fun rq mq hq => pf_Model_allWalkers   m7 hq) (fun r8 m9 => ?_)
      refine RO_istore dc_Model_sets_45 (Nat.le_of_ble_eq_true rfl) ?_
      refine RO_iconst dc_Model_sets_47 ?_
      refine RO_istore dc_Model_sets_48 (Nat.le_of_ble_eq_true rfl) ?_
      refine RO_iconst dc_Model_sets_50 ?_
      refine RO_istore dc_Model_sets_51 (Nat.le_of_ble_eq_true rfl) ?_
      refine RO_iconst dc_Model_sets_53 ?_
      refine RO_istore dc_Model_sets_54 (Nat.le_of_ble_eq_true rfl) ?_
      refine RO_sub ?_ (rp_Model_sets_56 p1 p2 FU 0 r8 0 (-1) 0 m9)
      exact ⟨rfl, rfl, rfl, rfl, rfl, rfl, rfl, rfl, trivial⟩
def bo_Model_years_166 (p1 : Int) (p2 : Int) (p3 : Int)  (v4 : Int) (v5 : Int) (v6 : Int) (mem : Mm) : Res := bd (fn_Model_copies 16 246 0 16 245 0 mem) fun r1 m2 => if p3 = 0 then (some (v4, m2)) else (if p3 = 1 then (some (v5, m2)) else (some (v6, m2)))
set_option maxHeartbeats 4000000 in
theorem rb_Model_years_166 {E : EE} (p1 : Int) (p2 : Int) (p3 : Int)    (v4 : Int) (v5 : Int) (v6 : Int)  (mem : Mm) : RO E mt_Model_years (bo_Model_years_166 p1 p2 p3  v4 v5 v6 mem) 166 [(0, rf 203), (3, vi p3), (4, vi v4), (5, vi v5), (6, vi v6)] [] mem := by
  unfold bo_Model_years_166
  refine RO_aload_n dc_Model_years_166 rfl rfl ?_
  refine RO_getR (b := 246) gf_Model_138 lk_203 rfl dc_Model_years_167 ?_
  refine RO_iconst dc_Model_years_170 ?_
  refine RO_aload_n dc_Model_years_171 rfl rfl ?_
  refine RO_getR (b := 245) gf_Model_135 lk_203 rfl dc_Model_years_172 ?_
  refine RO_iconst dc_Model_years_175 ?_
  refine RO_callSv (As := [rf 246, vi 0, rf 245, vi 0]) (rest := []) mi_Model_copies ms_Model_copies ml_Model_482 (Nat.le_of_ble_eq_true rfl) rfl (Nat.le_of_ble_eq_true rfl) dc_Model_years_176 (fun rq mq hq => pf_Model_copies 16 246 0 16 245 0 lk_246 lk_245 mem hq) (fun r1 m2 => ?_)
  refine RO_iload_n dc_Model_years_179 rfl rfl ?_
  refine RO_if_ne (tgt := 188) dc_Model_years_180 rfl ?_ ?_
  · refine RO_iload dc_Model_years_183 rfl ?_
    refine RO_goto (tgt := 200) dc_Model_years_185 rfl ?_
    exact RO_iret rfl dc_Model_years_200
  · refine RO_iload_n dc_Model_years_188 rfl rfl ?_
    refine RO_iconst dc_Model_years_189 ?_
    refine RO_icmp_ne (tgt := 198) dc_Model_years_190 rfl ?_ ?_
    · refine RO_iload dc_Model_years_193 rfl ?_
      refine RO_goto (tgt := 200) dc_Model_years_195 rfl ?_
      exact RO_iret rfl dc_Model_years_200
    · refine RO_iload dc_Model_years_198 rfl ?_
      exact RO_iret rfl dc_Model_years_200
def bo_Model_years_133 (p1 : Int) (p2 : Int) (p3 : Int) (k68 : Int → Int → Int → Int → Mm → Res) (v4 : Int) (v5 : Int) (v6 : Int) (v7 : Int) (mem : Mm) : Res := bd (fn_Model_passes  mem) fun r1 m2 => bn (w32 (v4 + r1)) fun x3 => bn (w32 (v5 + (m2 203 64))) fun x4 => bd (fn_Model_meetings  m2) fun r5 m6 => bn (w32 (v6 + r5)) fun x7 => k68 x3 x4 x7 (w32 (v7 + 1)) m6
set_option maxHeartbeats 4000000 in
theorem rb_Model_years_133 {E : EE} (p1 : Int) (p2 : Int) (p3 : Int)  (k68 : Int → Int → Int → Int → Mm → Res) (H68 : ∀ (v4 : Int) (v5 : Int) (v6 : Int) (v7 : Int)  (mem : Mm), RO E mt_Model_years (k68 v4 v5 v6 v7 mem) 68 [(0, rf 203), (2, vi p2), (3, vi p3), (4, vi v4), (5, vi v5), (6, vi v6), (7, vi v7)] [] mem) (v4 : Int) (v5 : Int) (v6 : Int) (v7 : Int)  (mem : Mm) : RO E mt_Model_years (bo_Model_years_133 p1 p2 p3 k68 v4 v5 v6 v7 mem) 133 [(0, rf 203), (2, vi p2), (3, vi p3), (4, vi v4), (5, vi v5), (6, vi v6), (7, vi v7)] [] mem := by
  unfold bo_Model_years_133
  refine RO_iload dc_Model_years_133 rfl ?_
  refine RO_aload_n dc_Model_years_135 rfl rfl ?_
  refine RO_callVi (As := []) (rest := [vi v4]) mi_Model_passes mv_Model_passes ml_Model_501 lk_203 (Nat.le_of_ble_eq_true rfl) rfl (Nat.le_of_ble_eq_true rfl) (fun _ => rfl) dc_Model_years_136 (fun rq mq hq => pf_Model_passes   mem hq) (fun r1 m2 => ?_)
  refine RO_iadd dc_Model_years_139 ?_
  refine RO_bnT (fun x3 => ?_)
  refine RO_istore dc_Model_years_140 (Nat.le_of_ble_eq_true rfl) ?_
  refine RO_iload dc_Model_years_142 rfl ?_
  refine RO_aload_n dc_Model_years_144 rfl rfl ?_
  refine RO_getI gf_Model_498 lk_203 dc_Model_years_145 ?_
  refine RO_iadd dc_Model_years_148 ?_
  refine RO_bnT (fun x4 => ?_)
  refine RO_istore dc_Model_years_149 (Nat.le_of_ble_eq_true rfl) ?_
  refine RO_iload dc_Model_years_151 rfl ?_
  refine RO_aload_n dc_Model_years_153 rfl rfl ?_
  refine RO_callVi (As := []) (rest := [vi v6]) mi_Model_meetings mv_Model_meetings ml_Model_567 lk_203 (Nat.le_of_ble_eq_true rfl) rfl (Nat.le_of_ble_eq_true rfl) (fun _ => rfl) dc_Model_years_154 (fun rq mq hq => pf_Model_meetings   m2 hq) (fun r5 m6 => ?_)
  refine RO_iadd dc_Model_years_157 ?_
  refine RO_bnT (fun x7 => ?_)
  refine RO_istore dc_Model_years_158 (Nat.le_of_ble_eq_true rfl) ?_
  refine RO_iinc dc_Model_years_160 rfl (Nat.le_of_ble_eq_true rfl) ?_
  refine RO_goto (tgt := 68) dc_Model_years_163 rfl ?_
  refine RO_sub ?_ (H68 x3 x4 x7 (w32 (v7 + 1)) m6)
  exact ⟨rfl, rfl, rfl, rfl, rfl, rfl, rfl, trivial⟩
def bo_Model_years_127 (p1 : Int) (p2 : Int) (p3 : Int) (k68 : Int → Int → Int → Int → Mm → Res) (k93 : Int → Int → Int → Int → Int → Mm → Res) (v4 : Int) (v5 : Int) (v6 : Int) (v7 : Int) (v8 : Int) (mem : Mm) : Res := k93 v4 v5 v6 v7 (w32 (v8 + 1)) mem
set_option maxHeartbeats 4000000 in
theorem rb_Model_years_127 {E : EE} (p1 : Int) (p2 : Int) (p3 : Int)  (k68 : Int → Int → Int → Int → Mm → Res) (k93 : Int → Int → Int → Int → Int → Mm → Res) (H68 : ∀ (v4 : Int) (v5 : Int) (v6 : Int) (v7 : Int)  (mem : Mm), RO E mt_Model_years (k68 v4 v5 v6 v7 mem) 68 [(0, rf 203), (2, vi p2), (3, vi p3), (4, vi v4), (5, vi v5), (6, vi v6), (7, vi v7)] [] mem) (H93 : ∀ (v4 : Int) (v5 : Int) (v6 : Int) (v7 : Int) (v8 : Int)  (mem : Mm), RO E mt_Model_years (k93 v4 v5 v6 v7 v8 mem) 93 [(0, rf 203), (2, vi p2), (3, vi p3), (4, vi v4), (5, vi v5), (6, vi v6), (7, vi v7), (8, vi v8)] [] mem) (v4 : Int) (v5 : Int) (v6 : Int) (v7 : Int) (v8 : Int)  (mem : Mm) : RO E mt_Model_years (bo_Model_years_127 p1 p2 p3 k68 k93 v4 v5 v6 v7 v8 mem) 127 [(0, rf 203), (2, vi p2), (3, vi p3), (4, vi v4), (5, vi v5), (6, vi v6), (7, vi v7), (8, vi v8)] [] mem := by
  unfold bo_Model_years_127
  refine RO_iinc dc_Model_years_127 rfl (Nat.le_of_ble_eq_true rfl) ?_
  refine RO_goto (tgt := 93) dc_Model_years_130 rfl ?_
  refine RO_sub ?_ (H93 v4 v5 v6 v7 (w32 (v8 + 1)) mem)
  exact ⟨rfl, rfl, rfl, rfl, rfl, rfl, rfl, rfl, trivial⟩
def bo_Model_years_93 (p1 : Int) (p2 : Int) (p3 : Int) (k68 : Int → Int → Int → Int → Mm → Res) (k93 : Int → Int → Int → Int → Int → Mm → Res) (v4 : Int) (v5 : Int) (v6 : Int) (v7 : Int) (v8 : Int) (mem : Mm) : Res := if v8 < (mem 205 (1 : Int).toNat) then (bd (fn_Model_draws 4 mem) fun r1 m2 => if r1 = 0 then (bd (fn_Model_draws 30 m2) fun r3 m4 => if 0 ≤ w32 (4 + v8) ∧ w32 (4 + v8) < 16 then bn (mst m4 245 (w32 (4 + v8)).toNat r3) fun m6 => bo_Model_years_127 p1 p2 p3 k68 k93 v4 v5 v6 v7 v8 m6 else none) else (bo_Model_years_127 p1 p2 p3 k68 k93 v4 v5 v6 v7 v8 m2)) else (bo_Model_years_133 p1 p2 p3 k68 v4 v5 v6 v7 mem)
set_option maxHeartbeats 4000000 in
theorem rb_Model_years_93 {E : EE} (p1 : Int) (p2 : Int) (p3 : Int)  (k68 : Int → Int → Int → Int → Mm → Res) (k93 : Int → Int → Int → Int → Int → Mm → Res) (H68 : ∀ (v4 : Int) (v5 : Int) (v6 : Int) (v7 : Int)  (mem : Mm), RO E mt_Model_years (k68 v4 v5 v6 v7 mem) 68 [(0, rf 203), (2, vi p2), (3, vi p3), (4, vi v4), (5, vi v5), (6, vi v6), (7, vi v7)] [] mem) (H93 : ∀ (v4 : Int) (v5 : Int) (v6 : Int) (v7 : Int) (v8 : Int)  (mem : Mm), RO E mt_Model_years (k93 v4 v5 v6 v7 v8 mem) 93 [(0, rf 203), (2, vi p2), (3, vi p3), (4, vi v4), (5, vi v5), (6, vi v6), (7, vi v7), (8, vi v8)] [] mem) (v4 : Int) (v5 : Int) (v6 : Int) (v7 : Int) (v8 : Int)  (mem : Mm) : RO E mt_Model_years (bo_Model_years_93 p1 p2 p3 k68 k93 v4 v5 v6 v7 v8 mem) 93 [(0, rf 203), (2, vi p2), (3, vi p3), (4, vi v4), (5, vi v5), (6, vi v6), (7, vi v7), (8, vi v8)] [] mem := by
  unfold bo_Model_years_93
  refine RO_iload dc_Model_years_93 rfl ?_
  refine RO_aload_n dc_Model_years_95 rfl rfl ?_
  refine RO_getR (b := 205) gf_Model_13 lk_203 rfl dc_Model_years_96 ?_
  refine RO_iconst dc_Model_years_99 ?_
  refine RO_ia lk_205 ⟨by decide, by decide⟩ dc_Model_years_100 ?_
  refine RO_icmp_ge (tgt := 133) dc_Model_years_101 rfl ?_ ?_
  · refine RO_aload_n dc_Model_years_104 rfl rfl ?_
    refine RO_iconst dc_Model_years_105 ?_
    refine RO_callVi (As := [vi 4]) (rest := []) mi_Model_draws mv_Model_draws ml_Model_564 lk_203 (Nat.le_of_ble_eq_true rfl) rfl (Nat.le_of_ble_eq_true rfl) (fun _ => rfl) dc_Model_years_106 (fun rq mq hq => pf_Model_draws 4  mem hq) (fun r1 m2 => ?_)
    refine RO_if_ne (tgt := 127) dc_Model_years_109 rfl ?_ ?_
    · refine RO_aload_n dc_Model_years_112 rfl rfl ?_
      refine RO_getR (b := 245) gf_Model_135 lk_203 rfl dc_Model_years_113 ?_
      refine RO_iconst dc_Model_years_116 ?_
      refine RO_iload dc_Model_years_117 rfl ?_
      refine RO_iadd dc_Model_years_119 ?_
      refine RO_aload_n dc_Model_years_120 rfl rfl ?_
      refine RO_bipush dc_Model_years_121 ?_
      refine RO_callVi (As := [vi 30]) (rest := [vi (w32 (4 + v8)), rf 245]) mi_Model_draws mv_Model_draws ml_Model_564 lk_203 (Nat.le_of_ble_eq_true rfl) rfl (Nat.le_of_ble_eq_true rfl) (fun _ => rfl) dc_Model_years_123 (fun rq mq hq => pf_Model_draws 30  m2 hq) (fun r3 m4 => ?_)
      refine RO_chk (fun hi5 => ?_)
      refine RO_is lk_245 hi5 dc_Model_years_126 ?_
      refine RO_bnM (fun m6 => ?_)
      refine RO_sub ?_ (rb_Model_years_127 p1 p2 p3 k68 k93 H68 H93 v4 v5 v6 v7 v8 m6)
      exact ⟨rfl, rfl, rfl, rfl, rfl, rfl, rfl, rfl, trivial⟩
    · refine RO_sub ?_ (rb_Model_years_127 p1 p2 p3 k68 k93 H68 H93 v4 v5 v6 v7 v8 m2)
      exact ⟨rfl, rfl, rfl, rfl, rfl, rfl, rfl, rfl, trivial⟩
  · refine RO_sub ?_ (rb_Model_years_133 p1 p2 p3 k68 H68 v4 v5 v6 v7 mem)
    exact ⟨rfl, rfl, rfl, rfl, rfl, rfl, rfl, trivial⟩
def lp_Model_years_93 (p1 : Int) (p2 : Int) (p3 : Int) (k68 : Int → Int → Int → Int → Mm → Res) : Nat → Int → Int → Int → Int → Int → Mm → Res
  | 0 => fun _ _ _ _ _ _ => none
  | n + 1 => bo_Model_years_93 p1 p2 p3 k68 (lp_Model_years_93 p1 p2 p3 k68 n)
theorem rp_Model_years_93 {E : EE} (p1 : Int) (p2 : Int) (p3 : Int)  (k68 : Int → Int → Int → Int → Mm → Res) (H68 : ∀ (v4 : Int) (v5 : Int) (v6 : Int) (v7 : Int)  (mem : Mm), RO E mt_Model_years (k68 v4 v5 v6 v7 mem) 68 [(0, rf 203), (2, vi p2), (3, vi p3), (4, vi v4), (5, vi v5), (6, vi v6), (7, vi v7)] [] mem) : ∀ (n : Nat) (v4 : Int) (v5 : Int) (v6 : Int) (v7 : Int) (v8 : Int)  (mem : Mm), RO E mt_Model_years (lp_Model_years_93 p1 p2 p3 k68 n v4 v5 v6 v7 v8 mem) 93 [(0, rf 203), (2, vi p2), (3, vi p3), (4, vi v4), (5, vi v5), (6, vi v6), (7, vi v7), (8, vi v8)] [] mem := by
  intro n
  induction n with
  | zero => intro v4 v5 v6 v7 v8  mem; exact RO_none
  | succ n ih => intro v4 v5 v6 v7 v8  mem; exact rb_Model_years_93 p1 p2 p3  k68 (lp_Model_years_93 p1 p2 p3 k68 n) H68 ih v4 v5 v6 v7 v8  mem
def bo_Model_years_90 (p1 : Int) (p2 : Int) (p3 : Int) (k68 : Int → Int → Int → Int → Mm → Res) (v4 : Int) (v5 : Int) (v6 : Int) (v7 : Int) (mem : Mm) : Res := lp_Model_years_93 p1 p2 p3 k68 FU v4 v5 v6 v7 0 mem
set_option maxHeartbeats 4000000 in
theorem rb_Model_years_90 {E : EE} (p1 : Int) (p2 : Int) (p3 : Int)  (k68 : Int → Int → Int → Int → Mm → Res) (H68 : ∀ (v4 : Int) (v5 : Int) (v6 : Int) (v7 : Int)  (mem : Mm), RO E mt_Model_years (k68 v4 v5 v6 v7 mem) 68 [(0, rf 203), (2, vi p2), (3, vi p3), (4, vi v4), (5, vi v5), (6, vi v6), (7, vi v7)] [] mem) (v4 : Int) (v5 : Int) (v6 : Int) (v7 : Int)  (mem : Mm) : RO E mt_Model_years (bo_Model_years_90 p1 p2 p3 k68 v4 v5 v6 v7 mem) 90 [(0, rf 203), (2, vi p2), (3, vi p3), (4, vi v4), (5, vi v5), (6, vi v6), (7, vi v7)] [] mem := by
  unfold bo_Model_years_90
  refine RO_iconst dc_Model_years_90 ?_
  refine RO_istore dc_Model_years_91 (Nat.le_of_ble_eq_true rfl) ?_
  refine RO_sub ?_ (rp_Model_years_93 p1 p2 p3 k68 H68 FU v4 v5 v6 v7 0 mem)
  exact ⟨rfl, rfl, rfl, rfl, rfl, rfl, rfl, rfl, trivial⟩
def bo_Model_years_68 (p1 : Int) (p2 : Int) (p3 : Int) (k68 : Int → Int → Int → Int → Mm → Res) (v4 : Int) (v5 : Int) (v6 : Int) (v7 : Int) (mem : Mm) : Res := if v7 < p2 then (bd (fn_Model_draws 8 mem) fun r1 m2 => if r1 = 0 then (bn (mst m2 245 (3 : Int).toNat 1) fun m3 => bo_Model_years_90 p1 p2 p3 k68 v4 v5 v6 v7 m3) else (bo_Model_years_90 p1 p2 p3 k68 v4 v5 v6 v7 m2)) else (bo_Model_years_166 p1 p2 p3 v4 v5 v6 mem)
set_option maxHeartbeats 4000000 in
theorem rb_Model_years_68 {E : EE} (p1 : Int) (p2 : Int) (p3 : Int)  (k68 : Int → Int → Int → Int → Mm → Res) (H68 : ∀ (v4 : Int) (v5 : Int) (v6 : Int) (v7 : Int)  (mem : Mm), RO E mt_Model_years (k68 v4 v5 v6 v7 mem) 68 [(0, rf 203), (2, vi p2), (3, vi p3), (4, vi v4), (5, vi v5), (6, vi v6), (7, vi v7)] [] mem) (v4 : Int) (v5 : Int) (v6 : Int) (v7 : Int)  (mem : Mm) : RO E mt_Model_years (bo_Model_years_68 p1 p2 p3 k68 v4 v5 v6 v7 mem) 68 [(0, rf 203), (2, vi p2), (3, vi p3), (4, vi v4), (5, vi v5), (6, vi v6), (7, vi v7)] [] mem := by
  unfold bo_Model_years_68
  refine RO_iload dc_Model_years_68 rfl ?_
  refine RO_iload_n dc_Model_years_70 rfl rfl ?_
  refine RO_icmp_ge (tgt := 166) dc_Model_years_71 rfl ?_ ?_
  · refine RO_aload_n dc_Model_years_74 rfl rfl ?_
    refine RO_bipush dc_Model_years_75 ?_
    refine RO_callVi (As := [vi 8]) (rest := []) mi_Model_draws mv_Model_draws ml_Model_564 lk_203 (Nat.le_of_ble_eq_true rfl) rfl (Nat.le_of_ble_eq_true rfl) (fun _ => rfl) dc_Model_years_77 (fun rq mq hq => pf_Model_draws 8  mem hq) (fun r1 m2 => ?_)
    refine RO_if_ne (tgt := 90) dc_Model_years_80 rfl ?_ ?_
    · refine RO_aload_n dc_Model_years_83 rfl rfl ?_
      refine RO_getR (b := 245) gf_Model_135 lk_203 rfl dc_Model_years_84 ?_
      refine RO_iconst dc_Model_years_87 ?_
      refine RO_iconst dc_Model_years_88 ?_
      refine RO_is lk_245 ⟨by decide, by decide⟩ dc_Model_years_89 ?_
      refine RO_bnM (fun m3 => ?_)
      refine RO_sub ?_ (rb_Model_years_90 p1 p2 p3 k68 H68 v4 v5 v6 v7 m3)
      exact ⟨rfl, rfl, rfl, rfl, rfl, rfl, rfl, trivial⟩
    · refine RO_sub ?_ (rb_Model_years_90 p1 p2 p3 k68 H68 v4 v5 v6 v7 m2)
      exact ⟨rfl, rfl, rfl, rfl, rfl, rfl, rfl, trivial⟩
  · refine RO_sub ?_ (rb_Model_years_166 p1 p2 p3 v4 v5 v6 mem)
    exact ⟨rfl, rfl, rfl, rfl, rfl, trivial⟩
def lp_Model_years_68 (p1 : Int) (p2 : Int) (p3 : Int)  : Nat → Int → Int → Int → Int → Mm → Res
  | 0 => fun _ _ _ _ _ => none
  | n + 1 => bo_Model_years_68 p1 p2 p3  (lp_Model_years_68 p1 p2 p3  n)
theorem rp_Model_years_68 {E : EE} (p1 : Int) (p2 : Int) (p3 : Int)    : ∀ (n : Nat) (v4 : Int) (v5 : Int) (v6 : Int) (v7 : Int)  (mem : Mm), RO E mt_Model_years (lp_Model_years_68 p1 p2 p3  n v4 v5 v6 v7 mem) 68 [(0, rf 203), (2, vi p2), (3, vi p3), (4, vi v4), (5, vi v5), (6, vi v6), (7, vi v7)] [] mem := by
  intro n
  induction n with
  | zero => intro v4 v5 v6 v7  mem; exact RO_none
  | succ n ih => intro v4 v5 v6 v7  mem; exact rb_Model_years_68 p1 p2 p3   (lp_Model_years_68 p1 p2 p3  n)  ih v4 v5 v6 v7  mem
def fn_Model_years (p1 : Int) (p2 : Int) (p3 : Int) (mem : Mm) : Res := bn (mst mem 203 0 0) fun m1 => bd (fn_Model_within p1 0 9999 m1) fun r2 m3 => if r2 = 0 then (some ((-1), m3)) else (bd (fn_Model_within p2 1 20 m3) fun r4 m5 => if r4 = 0 then (some ((-1), m5)) else (bd (fn_Model_within p3 0 2 m5) fun r6 m7 => if r6 = 0 then (some ((-1), m7)) else (bn (mst m7 203 71 p1) fun m8 => bd (fn_Model_copies 16 245 0 16 246 0 m8) fun r9 m10 => lp_Model_years_68 p1 p2 p3 FU 0 0 0 0 m10)))
set_option maxHeartbeats 4000000 in
theorem pf_Model_years {E : EE} (p1 : Int) (p2 : Int) (p3 : Int)  (mem : Mm) {r : Int} {mem9 : Mm} (h : fn_Model_years p1 p2 p3 mem = some (r, mem9)) : MetX E 6 yn_Model_years cd_Model_years 9 (some .int) [rf 203, vi p1, vi p2, vi p3] mem r mem9 := by
  refine RO_met (y := yn_Model_years) (by decide +kernel) (Nat.le_of_ble_eq_true rfl) ?_ h
  show RO E mt_Model_years (fn_Model_years p1 p2 p3 mem) 0 [(0, rf 203), (1, vi p1), (2, vi p2), (3, vi p3)] [] mem
  unfold fn_Model_years
  refine RO_aload_n dc_Model_years_0 rfl rfl ?_
  refine RO_iconst dc_Model_years_1 ?_
  refine RO_putI gp_Model_183 lk_203 dc_Model_years_2 ?_
  refine RO_bnM (fun m1 => ?_)
  refine RO_iload_n dc_Model_years_5 rfl rfl ?_
  refine RO_iconst dc_Model_years_6 ?_
  refine RO_sipush dc_Model_years_7 ?_
  refine RO_callSi (As := [vi p1, vi 0, vi 9999]) (rest := []) mi_Model_within ms_Model_within ml_Model_318 (Nat.le_of_ble_eq_true rfl) rfl (Nat.le_of_ble_eq_true rfl) (fun _ => rfl) dc_Model_years_10 (fun rq mq hq => pf_Model_within p1 0 9999  m1 hq) (fun r2 m3 => ?_)
  refine RO_if_eq (tgt := 35) dc_Model_years_13 rfl ?_ ?_
  · refine RO_iconst dc_Model_years_35 ?_
    exact RO_iret rfl dc_Model_years_36
  · refine RO_iload_n dc_Model_years_16 rfl rfl ?_
    refine RO_iconst dc_Model_years_17 ?_
    refine RO_bipush dc_Model_years_18 ?_
    refine RO_callSi (As := [vi p2, vi 1, vi 20]) (rest := []) mi_Model_within ms_Model_within ml_Model_318 (Nat.le_of_ble_eq_true rfl) rfl (Nat.le_of_ble_eq_true rfl) (fun _ => rfl) dc_Model_years_20 (fun rq mq hq => pf_Model_within p2 1 20  m3 hq) (fun r4 m5 => ?_)
    refine RO_if_eq (tgt := 35) dc_Model_years_23 rfl ?_ ?_
    · refine RO_iconst dc_Model_years_35 ?_
      exact RO_iret rfl dc_Model_years_36
    · refine RO_iload_n dc_Model_years_26 rfl rfl ?_
      refine RO_iconst dc_Model_years_27 ?_
      refine RO_iconst dc_Model_years_28 ?_
      refine RO_callSi (As := [vi p3, vi 0, vi 2]) (rest := []) mi_Model_within ms_Model_within ml_Model_318 (Nat.le_of_ble_eq_true rfl) rfl (Nat.le_of_ble_eq_true rfl) (fun _ => rfl) dc_Model_years_29 (fun rq mq hq => pf_Model_within p3 0 2  m5 hq) (fun r6 m7 => ?_)
      refine RO_if_ne (tgt := 37) dc_Model_years_32 rfl ?_ ?_
      · refine RO_iconst dc_Model_years_35 ?_
        exact RO_iret rfl dc_Model_years_36
      · refine RO_aload_n dc_Model_years_37 rfl rfl ?_
        refine RO_iload_n dc_Model_years_38 rfl rfl ?_
        refine RO_i2l dc_Model_years_39 ?_
        refine RO_putL gp_Model_553 lk_203 dc_Model_years_40 ?_
        refine RO_bnM (fun m8 => ?_)
        refine RO_aload_n dc_Model_years_43 rfl rfl ?_
        refine RO_getR (b := 245) gf_Model_135 lk_203 rfl dc_Model_years_44 ?_
        refine RO_iconst dc_Model_years_47 ?_
        refine RO_aload_n dc_Model_years_48 rfl rfl ?_
        refine RO_getR (b := 246) gf_Model_138 lk_203 rfl dc_Model_years_49 ?_
        refine RO_iconst dc_Model_years_52 ?_
        refine RO_callSv (As := [rf 245, vi 0, rf 246, vi 0]) (rest := []) mi_Model_copies ms_Model_copies ml_Model_482 (Nat.le_of_ble_eq_true rfl) rfl (Nat.le_of_ble_eq_true rfl) dc_Model_years_53 (fun rq mq hq => pf_Model_copies 16 245 0 16 246 0 lk_245 lk_246 m8 hq) (fun r9 m10 => ?_)
        refine RO_iconst dc_Model_years_56 ?_
        refine RO_istore dc_Model_years_57 (Nat.le_of_ble_eq_true rfl) ?_
        refine RO_iconst dc_Model_years_59 ?_
        refine RO_istore dc_Model_years_60 (Nat.le_of_ble_eq_true rfl) ?_
        refine RO_iconst dc_Model_years_62 ?_
        refine RO_istore dc_Model_years_63 (Nat.le_of_ble_eq_true rfl) ?_
        refine RO_iconst dc_Model_years_65 ?_
        refine RO_istore dc_Model_years_66 (Nat.le_of_ble_eq_true rfl) ?_
        refine RO_sub ?_ (rp_Model_years_68 p1 p2 p3 FU 0 0 0 0 m10)
        exact ⟨rfl, rfl, rfl, rfl, rfl, rfl, rfl, trivial⟩
