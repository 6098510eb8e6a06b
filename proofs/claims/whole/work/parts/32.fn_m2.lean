def bo_Model_isMeeting_69 (p1 : Int) (k2 : Int → Mm → Res) (v2 : Int) (mem : Mm) : Res := k2 (w32 (v2 + 1)) mem
set_option maxHeartbeats 4000000 in
theorem rb_Model_isMeeting_69 {E : EE} (p1 : Int)  (k2 : Int → Mm → Res) (H2 : ∀ (v2 : Int)  (mem : Mm), RO E mt_Model_isMeeting (k2 v2 mem) 2 [(0, rf 203), (1, vi p1), (2, vi v2)] [] mem) (v2 : Int)  (mem : Mm) : RO E mt_Model_isMeeting (bo_Model_isMeeting_69 p1 k2 v2 mem) 69 [(0, rf 203), (1, vi p1), (2, vi v2)] [] mem := by
  unfold bo_Model_isMeeting_69
  refine RO_iinc dc_Model_isMeeting_69 rfl (Nat.le_of_ble_eq_true rfl) ?_
  refine RO_goto (tgt := 2) dc_Model_isMeeting_72 rfl ?_
  refine RO_sub ?_ (H2 (w32 (v2 + 1)) mem)
  exact ⟨rfl, rfl, rfl, trivial⟩
def bo_Model_isMeeting_63 (p1 : Int) (k2 : Int → Mm → Res) (k14 : Int → Int → Mm → Res) (v2 : Int) (v3 : Int) (mem : Mm) : Res := k14 v2 (w32 (v3 + 1)) mem
set_option maxHeartbeats 4000000 in
theorem rb_Model_isMeeting_63 {E : EE} (p1 : Int)  (k2 : Int → Mm → Res) (k14 : Int → Int → Mm → Res) (H2 : ∀ (v2 : Int)  (mem : Mm), RO E mt_Model_isMeeting (k2 v2 mem) 2 [(0, rf 203), (1, vi p1), (2, vi v2)] [] mem) (H14 : ∀ (v2 : Int) (v3 : Int)  (mem : Mm), RO E mt_Model_isMeeting (k14 v2 v3 mem) 14 [(0, rf 203), (1, vi p1), (2, vi v2), (3, vi v3)] [] mem) (v2 : Int) (v3 : Int)  (mem : Mm) : RO E mt_Model_isMeeting (bo_Model_isMeeting_63 p1 k2 k14 v2 v3 mem) 63 [(0, rf 203), (1, vi p1), (2, vi v2), (3, vi v3)] [] mem := by
  unfold bo_Model_isMeeting_63
  refine RO_iinc dc_Model_isMeeting_63 rfl (Nat.le_of_ble_eq_true rfl) ?_
  refine RO_goto (tgt := 14) dc_Model_isMeeting_66 rfl ?_
  refine RO_sub ?_ (H14 v2 (w32 (v3 + 1)) mem)
  exact ⟨rfl, rfl, rfl, rfl, trivial⟩
def bo_Model_isMeeting_14 (p1 : Int) (k2 : Int → Mm → Res) (k14 : Int → Int → Mm → Res) (v2 : Int) (v3 : Int) (mem : Mm) : Res := if v3 < v2 then (if 0 ≤ w32 ((w32 (240 * v2)) + p1) ∧ w32 ((w32 (240 * v2)) + p1) < 1440 then if (mem 251 (w32 ((w32 (240 * v2)) + p1)).toNat) < 0 then (bo_Model_isMeeting_63 p1 k2 k14 v2 v3 mem) else (if 0 ≤ w32 ((w32 (240 * v2)) + p1) ∧ w32 ((w32 (240 * v2)) + p1) < 1440 then if 0 ≤ w32 ((w32 (240 * v3)) + p1) ∧ w32 ((w32 (240 * v3)) + p1) < 1440 then if (mem 251 (w32 ((w32 (240 * v2)) + p1)).toNat) = (mem 251 (w32 ((w32 (240 * v3)) + p1)).toNat) then (some (1, mem)) else (bo_Model_isMeeting_63 p1 k2 k14 v2 v3 mem) else none else none) else none) else (bo_Model_isMeeting_69 p1 k2 v2 mem)
set_option maxHeartbeats 4000000 in
theorem rb_Model_isMeeting_14 {E : EE} (p1 : Int)  (k2 : Int → Mm → Res) (k14 : Int → Int → Mm → Res) (H2 : ∀ (v2 : Int)  (mem : Mm), RO E mt_Model_isMeeting (k2 v2 mem) 2 [(0, rf 203), (1, vi p1), (2, vi v2)] [] mem) (H14 : ∀ (v2 : Int) (v3 : Int)  (mem : Mm), RO E mt_Model_isMeeting (k14 v2 v3 mem) 14 [(0, rf 203), (1, vi p1), (2, vi v2), (3, vi v3)] [] mem) (v2 : Int) (v3 : Int)  (mem : Mm) : RO E mt_Model_isMeeting (bo_Model_isMeeting_14 p1 k2 k14 v2 v3 mem) 14 [(0, rf 203), (1, vi p1), (2, vi v2), (3, vi v3)] [] mem := by
  unfold bo_Model_isMeeting_14
  refine RO_iload_n dc_Model_isMeeting_14 rfl rfl ?_
  refine RO_iload_n dc_Model_isMeeting_15 rfl rfl ?_
  refine RO_icmp_ge (tgt := 69) dc_Model_isMeeting_16 rfl ?_ ?_
  · refine RO_aload_n dc_Model_isMeeting_19 rfl rfl ?_
    refine RO_getR (b := 251) gf_Model_153 lk_203 rfl dc_Model_isMeeting_20 ?_
    refine RO_sipush dc_Model_isMeeting_23 ?_
    refine RO_iload_n dc_Model_isMeeting_26 rfl rfl ?_
    refine RO_imul dc_Model_isMeeting_27 ?_
    refine RO_iload_n dc_Model_isMeeting_28 rfl rfl ?_
    refine RO_iadd dc_Model_isMeeting_29 ?_
    refine RO_chk (fun hi1 => ?_)
    refine RO_ia lk_251 hi1 dc_Model_isMeeting_30 ?_
    refine RO_if_lt (tgt := 63) dc_Model_isMeeting_31 rfl ?_ ?_
    · refine RO_sub ?_ (rb_Model_isMeeting_63 p1 k2 k14 H2 H14 v2 v3 mem)
      exact ⟨rfl, rfl, rfl, rfl, trivial⟩
    · refine RO_aload_n dc_Model_isMeeting_34 rfl rfl ?_
      refine RO_getR (b := 251) gf_Model_153 lk_203 rfl dc_Model_isMeeting_35 ?_
      refine RO_sipush dc_Model_isMeeting_38 ?_
      refine RO_iload_n dc_Model_isMeeting_41 rfl rfl ?_
      refine RO_imul dc_Model_isMeeting_42 ?_
      refine RO_iload_n dc_Model_isMeeting_43 rfl rfl ?_
      refine RO_iadd dc_Model_isMeeting_44 ?_
      refine RO_chk (fun hi2 => ?_)
      refine RO_ia lk_251 hi2 dc_Model_isMeeting_45 ?_
      refine RO_aload_n dc_Model_isMeeting_46 rfl rfl ?_
      refine RO_getR (b := 251) gf_Model_153 lk_203 rfl dc_Model_isMeeting_47 ?_
      refine RO_sipush dc_Model_isMeeting_50 ?_
      refine RO_iload_n dc_Model_isMeeting_53 rfl rfl ?_
      refine RO_imul dc_Model_isMeeting_54 ?_
      refine RO_iload_n dc_Model_isMeeting_55 rfl rfl ?_
      refine RO_iadd dc_Model_isMeeting_56 ?_
      refine RO_chk (fun hi3 => ?_)
      refine RO_ia lk_251 hi3 dc_Model_isMeeting_57 ?_
      refine RO_icmp_ne (tgt := 63) dc_Model_isMeeting_58 rfl ?_ ?_
      · refine RO_iconst dc_Model_isMeeting_61 ?_
        exact RO_zret rfl (Or.inr rfl) dc_Model_isMeeting_62
      · refine RO_sub ?_ (rb_Model_isMeeting_63 p1 k2 k14 H2 H14 v2 v3 mem)
        exact ⟨rfl, rfl, rfl, rfl, trivial⟩
  · refine RO_sub ?_ (rb_Model_isMeeting_69 p1 k2 H2 v2 mem)
    exact ⟨rfl, rfl, rfl, trivial⟩
def lp_Model_isMeeting_14 (p1 : Int) (k2 : Int → Mm → Res) : Nat → Int → Int → Mm → Res
  | 0 => fun _ _ _ => none
  | n + 1 => bo_Model_isMeeting_14 p1 k2 (lp_Model_isMeeting_14 p1 k2 n)
theorem rp_Model_isMeeting_14 {E : EE} (p1 : Int)  (k2 : Int → Mm → Res) (H2 : ∀ (v2 : Int)  (mem : Mm), RO E mt_Model_isMeeting (k2 v2 mem) 2 [(0, rf 203), (1, vi p1), (2, vi v2)] [] mem) : ∀ (n : Nat) (v2 : Int) (v3 : Int)  (mem : Mm), RO E mt_Model_isMeeting (lp_Model_isMeeting_14 p1 k2 n v2 v3 mem) 14 [(0, rf 203), (1, vi p1), (2, vi v2), (3, vi v3)] [] mem := by
  intro n
  induction n with
  | zero => intro v2 v3  mem; exact RO_none
  | succ n ih => intro v2 v3  mem; exact rb_Model_isMeeting_14 p1  k2 (lp_Model_isMeeting_14 p1 k2 n) H2 ih v2 v3  mem
def bo_Model_isMeeting_2 (p1 : Int) (k2 : Int → Mm → Res) (v2 : Int) (mem : Mm) : Res := if v2 < (mem 205 (1 : Int).toNat) then (lp_Model_isMeeting_14 p1 k2 FU v2 0 mem) else (some (0, mem))
set_option maxHeartbeats 4000000 in
theorem rb_Model_isMeeting_2 {E : EE} (p1 : Int)  (k2 : Int → Mm → Res) (H2 : ∀ (v2 : Int)  (mem : Mm), RO E mt_Model_isMeeting (k2 v2 mem) 2 [(0, rf 203), (1, vi p1), (2, vi v2)] [] mem) (v2 : Int)  (mem : Mm) : RO E mt_Model_isMeeting (bo_Model_isMeeting_2 p1 k2 v2 mem) 2 [(0, rf 203), (1, vi p1), (2, vi v2)] [] mem := by
  unfold bo_Model_isMeeting_2
  refine RO_iload_n dc_Model_isMeeting_2 rfl rfl ?_
  refine RO_aload_n dc_Model_isMeeting_3 rfl rfl ?_
  refine RO_getR (b := 205) gf_Model_13 lk_203 rfl dc_Model_isMeeting_4 ?_
  refine RO_iconst dc_Model_isMeeting_7 ?_
  refine RO_ia lk_205 ⟨by decide, by decide⟩ dc_Model_isMeeting_8 ?_
  refine RO_icmp_ge (tgt := 75) dc_Model_isMeeting_9 rfl ?_ ?_
  · refine RO_iconst dc_Model_isMeeting_12 ?_
    refine RO_istore_n dc_Model_isMeeting_13 rfl (Nat.le_of_ble_eq_true rfl) ?_
    refine RO_sub ?_ (rp_Model_isMeeting_14 p1 k2 H2 FU v2 0 mem)
    exact ⟨rfl, rfl, rfl, rfl, trivial⟩
  · refine RO_iconst dc_Model_isMeeting_75 ?_
    exact RO_zret rfl (Or.inl rfl) dc_Model_isMeeting_76
def lp_Model_isMeeting_2 (p1 : Int)  : Nat → Int → Mm → Res
  | 0 => fun _ _ => none
  | n + 1 => bo_Model_isMeeting_2 p1  (lp_Model_isMeeting_2 p1  n)
theorem rp_Model_isMeeting_2 {E : EE} (p1 : Int)    : ∀ (n : Nat) (v2 : Int)  (mem : Mm), RO E mt_Model_isMeeting (lp_Model_isMeeting_2 p1  n v2 mem) 2 [(0, rf 203), (1, vi p1), (2, vi v2)] [] mem := by
  intro n
  induction n with
  | zero => intro v2  mem; exact RO_none
  | succ n ih => intro v2  mem; exact rb_Model_isMeeting_2 p1   (lp_Model_isMeeting_2 p1  n)  ih v2  mem
def fn_Model_isMeeting (p1 : Int) (mem : Mm) : Res := lp_Model_isMeeting_2 p1 FU 0 mem
set_option maxHeartbeats 4000000 in
theorem pf_Model_isMeeting {E : EE} (p1 : Int)  (mem : Mm) {r : Int} {mem9 : Mm} (h : fn_Model_isMeeting p1 mem = some (r, mem9)) : MetX E 1 yn_Model_isMeeting cd_Model_isMeeting 4 (some .boolean) [rf 203, vi p1] mem r mem9 := by
  refine RO_met (y := yn_Model_isMeeting) (by decide +kernel) (Nat.le_of_ble_eq_true rfl) ?_ h
  show RO E mt_Model_isMeeting (fn_Model_isMeeting p1 mem) 0 [(0, rf 203), (1, vi p1)] [] mem
  unfold fn_Model_isMeeting
  refine RO_iconst dc_Model_isMeeting_0 ?_
  refine RO_istore_n dc_Model_isMeeting_1 rfl (Nat.le_of_ble_eq_true rfl) ?_
  refine RO_sub ?_ (rp_Model_isMeeting_2 p1 FU 0 mem)
  exact ⟨rfl, rfl, rfl, trivial⟩
def fn_Model_getsBy (p0 : Int) (p1 : Int) (p2 : Int) (p3 : Int) (p4 : Int) (mem : Mm) : Res := if p0 = p1 then (some (p2, mem)) else (if p0 < p1 then (if p3 < (w32 (p1 - p0)) then (some (w32 (-p3), mem)) else (some (w32 (p2 - (w32 (p1 - p0))), mem))) else (if p4 < (w32 (p0 - p1)) then (some (0, mem)) else (some (p2, mem))))
set_option maxHeartbeats 4000000 in
theorem pf_Model_getsBy {E : EE} (p0 : Int) (p1 : Int) (p2 : Int) (p3 : Int) (p4 : Int)  (mem : Mm) {r : Int} {mem9 : Mm} (h : fn_Model_getsBy p0 p1 p2 p3 p4 mem = some (r, mem9)) : MetX E 1 yn_Model_getsBy cd_Model_getsBy 5 (some .int) [vi p0, vi p1, vi p2, vi p3, vi p4] mem r mem9 := by
  refine RO_met (y := yn_Model_getsBy) (by decide +kernel) (Nat.le_of_ble_eq_true rfl) ?_ h
  show RO E mt_Model_getsBy (fn_Model_getsBy p0 p1 p2 p3 p4 mem) 0 [(0, vi p0), (1, vi p1), (2, vi p2), (3, vi p3), (4, vi p4)] [] mem
  unfold fn_Model_getsBy
  refine RO_iload_n dc_Model_getsBy_0 rfl rfl ?_
  refine RO_iload_n dc_Model_getsBy_1 rfl rfl ?_
  refine RO_icmp_ne (tgt := 7) dc_Model_getsBy_2 rfl ?_ ?_
  · refine RO_iload_n dc_Model_getsBy_5 rfl rfl ?_
    exact RO_iret rfl dc_Model_getsBy_6
  · refine RO_iload_n dc_Model_getsBy_7 rfl rfl ?_
    refine RO_iload_n dc_Model_getsBy_8 rfl rfl ?_
    refine RO_icmp_ge (tgt := 30) dc_Model_getsBy_9 rfl ?_ ?_
    · refine RO_iload_n dc_Model_getsBy_12 rfl rfl ?_
      refine RO_iload_n dc_Model_getsBy_13 rfl rfl ?_
      refine RO_isub dc_Model_getsBy_14 ?_
      refine RO_iload_n dc_Model_getsBy_15 rfl rfl ?_
      refine RO_icmp_gt (tgt := 27) dc_Model_getsBy_16 rfl ?_ ?_
      · refine RO_iload_n dc_Model_getsBy_27 rfl rfl ?_
        refine RO_ineg dc_Model_getsBy_28 ?_
        exact RO_iret rfl dc_Model_getsBy_29
      · refine RO_iload_n dc_Model_getsBy_19 rfl rfl ?_
        refine RO_iload_n dc_Model_getsBy_20 rfl rfl ?_
        refine RO_iload_n dc_Model_getsBy_21 rfl rfl ?_
        refine RO_isub dc_Model_getsBy_22 ?_
        refine RO_isub dc_Model_getsBy_23 ?_
        refine RO_goto (tgt := 29) dc_Model_getsBy_24 rfl ?_
        exact RO_iret rfl dc_Model_getsBy_29
    · refine RO_iload_n dc_Model_getsBy_30 rfl rfl ?_
      refine RO_iload_n dc_Model_getsBy_31 rfl rfl ?_
      refine RO_isub dc_Model_getsBy_32 ?_
      refine RO_iload dc_Model_getsBy_33 rfl ?_
      refine RO_icmp_gt (tgt := 42) dc_Model_getsBy_35 rfl ?_ ?_
      · refine RO_iconst dc_Model_getsBy_42 ?_
        exact RO_iret rfl dc_Model_getsBy_43
      · refine RO_iload_n dc_Model_getsBy_38 rfl rfl ?_
        refine RO_goto (tgt := 43) dc_Model_getsBy_39 rfl ?_
        exact RO_iret rfl dc_Model_getsBy_43
def fn_Model_draws (p1 : Int) (mem : Mm) : Res := bn (mst mem 203 71 (lrm (w64 ((w64 ((mem 203 71) * 1103515245)) + 12345)) 2147483648)) fun m1 => if p1 = 0 then none else some (w32 (lrm (ldv (m1 203 71) 65536) p1), m1)
set_option maxHeartbeats 4000000 in
theorem pf_Model_draws {E : EE} (p1 : Int)  (mem : Mm) {r : Int} {mem9 : Mm} (h : fn_Model_draws p1 mem = some (r, mem9)) : MetX E 1 yn_Model_draws cd_Model_draws 2 (some .int) [rf 203, vi p1] mem r mem9 := by
  refine RO_met (y := yn_Model_draws) (by decide +kernel) (Nat.le_of_ble_eq_true rfl) ?_ h
  show RO E mt_Model_draws (fn_Model_draws p1 mem) 0 [(0, rf 203), (1, vi p1)] [] mem
  unfold fn_Model_draws
  refine RO_aload_n dc_Model_draws_0 rfl rfl ?_
  refine RO_aload_n dc_Model_draws_1 rfl rfl ?_
  refine RO_getL gf_Model_553 lk_203 dc_Model_draws_2 ?_
  refine RO_ldc2 (x := 1103515245) c2_Model_556 ⟨by decide, ⟨by decide, by decide⟩⟩ dc_Model_draws_5 ?_
  refine RO_lmul dc_Model_draws_8 ?_
  refine RO_ldc2 (x := 12345) c2_Model_558 ⟨by decide, ⟨by decide, by decide⟩⟩ dc_Model_draws_9 ?_
  refine RO_ladd dc_Model_draws_12 ?_
  refine RO_ldc2 (x := 2147483648) c2_Model_560 ⟨by decide, ⟨by decide, by decide⟩⟩ dc_Model_draws_13 ?_
  refine RO_lremc (by decide) dc_Model_draws_16 ?_
  refine RO_putL gp_Model_553 lk_203 dc_Model_draws_17 ?_
  refine RO_bnM (fun m1 => ?_)
  refine RO_aload_n dc_Model_draws_20 rfl rfl ?_
  refine RO_getL gf_Model_553 lk_203 dc_Model_draws_21 ?_
  refine RO_ldc2 (x := 65536) c2_Model_562 ⟨by decide, ⟨by decide, by decide⟩⟩ dc_Model_draws_24 ?_
  refine RO_ldivc (by decide) dc_Model_draws_27 ?_
  refine RO_iload_n dc_Model_draws_28 rfl rfl ?_
  refine RO_i2l dc_Model_draws_29 ?_
  refine RO_lrem dc_Model_draws_30 ?_
  refine RO_l2i dc_Model_draws_31 ?_
  exact RO_iret rfl dc_Model_draws_32
def bo_Model_toldMany_31  (k4 : Int → Int → Mm → Res) (v2 : Int) (s0 : Int) (s1 : Int) (mem : Mm) : Res := bn (w32 (s0 + s1)) fun x1 => k4 x1 (w32 (v2 + 1)) mem
set_option maxHeartbeats 4000000 in
theorem rb_Model_toldMany_31 {E : EE}   (k4 : Int → Int → Mm → Res) (H4 : ∀ (v1 : Int) (v2 : Int)  (mem : Mm), RO E mt_Model_toldMany (k4 v1 v2 mem) 4 [(0, rf 203), (1, vi v1), (2, vi v2)] [] mem) (v2 : Int) (s0 : Int) (s1 : Int)  (mem : Mm) : RO E mt_Model_toldMany (bo_Model_toldMany_31  k4 v2 s0 s1 mem) 31 [(0, rf 203), (2, vi v2)] [vi s1, vi s0] mem := by
  unfold bo_Model_toldMany_31
  refine RO_iadd dc_Model_toldMany_31 ?_
  refine RO_bnT (fun x1 => ?_)
  refine RO_istore_n dc_Model_toldMany_32 rfl (Nat.le_of_ble_eq_true rfl) ?_
  refine RO_iinc dc_Model_toldMany_33 rfl (Nat.le_of_ble_eq_true rfl) ?_
  refine RO_goto (tgt := 4) dc_Model_toldMany_36 rfl ?_
  refine RO_sub ?_ (H4 x1 (w32 (v2 + 1)) mem)
  exact ⟨rfl, rfl, rfl, trivial⟩
def bo_Model_toldMany_4  (k4 : Int → Int → Mm → Res) (v1 : Int) (v2 : Int) (mem : Mm) : Res := if v2 < (mem 205 (2 : Int).toNat) then (if 0 ≤ v2 ∧ v2 < 30 then if (mem 244 v2.toNat) = (-2) then (bo_Model_toldMany_31 k4 v2 v1 0 mem) else (bo_Model_toldMany_31 k4 v2 v1 1 mem) else none) else (some (v1, mem))
set_option maxHeartbeats 4000000 in
theorem rb_Model_toldMany_4 {E : EE}   (k4 : Int → Int → Mm → Res) (H4 : ∀ (v1 : Int) (v2 : Int)  (mem : Mm), RO E mt_Model_toldMany (k4 v1 v2 mem) 4 [(0, rf 203), (1, vi v1), (2, vi v2)] [] mem) (v1 : Int) (v2 : Int)  (mem : Mm) : RO E mt_Model_toldMany (bo_Model_toldMany_4  k4 v1 v2 mem) 4 [(0, rf 203), (1, vi v1), (2, vi v2)] [] mem := by
  unfold bo_Model_toldMany_4
  refine RO_iload_n dc_Model_toldMany_4 rfl rfl ?_
  refine RO_aload_n dc_Model_toldMany_5 rfl rfl ?_
  refine RO_getR (b := 205) gf_Model_13 lk_203 rfl dc_Model_toldMany_6 ?_
  refine RO_iconst dc_Model_toldMany_9 ?_
  refine RO_ia lk_205 ⟨by decide, by decide⟩ dc_Model_toldMany_10 ?_
  refine RO_icmp_ge (tgt := 39) dc_Model_toldMany_11 rfl ?_ ?_
  · refine RO_iload_n dc_Model_toldMany_14 rfl rfl ?_
    refine RO_aload_n dc_Model_toldMany_15 rfl rfl ?_
    refine RO_getR (b := 244) gf_Model_132 lk_203 rfl dc_Model_toldMany_16 ?_
    refine RO_iload_n dc_Model_toldMany_19 rfl rfl ?_
    refine RO_chk (fun hi1 => ?_)
    refine RO_ia lk_244 hi1 dc_Model_toldMany_20 ?_
    refine RO_bipush dc_Model_toldMany_21 ?_
    refine RO_icmp_eq (tgt := 30) dc_Model_toldMany_23 rfl ?_ ?_
    · refine RO_iconst dc_Model_toldMany_30 ?_
      refine RO_sub ?_ (rb_Model_toldMany_31 k4 H4 v2 v1 0 mem)
      exact ⟨rfl, rfl, trivial⟩
    · refine RO_iconst dc_Model_toldMany_26 ?_
      refine RO_goto (tgt := 31) dc_Model_toldMany_27 rfl ?_
      refine RO_sub ?_ (rb_Model_toldMany_31 k4 H4 v2 v1 1 mem)
      exact ⟨rfl, rfl, trivial⟩
  · refine RO_iload_n dc_Model_toldMany_39 rfl rfl ?_
    exact RO_iret rfl dc_Model_toldMany_40
def lp_Model_toldMany_4   : Nat → Int → Int → Mm → Res
  | 0 => fun _ _ _ => none
  | n + 1 => bo_Model_toldMany_4   (lp_Model_toldMany_4   n)
theorem rp_Model_toldMany_4 {E : EE}     : ∀ (n : Nat) (v1 : Int) (v2 : Int)  (mem : Mm), RO E mt_Model_toldMany (lp_Model_toldMany_4   n v1 v2 mem) 4 [(0, rf 203), (1, vi v1), (2, vi v2)] [] mem := by
  intro n
  induction n with
  | zero => intro v1 v2  mem; exact RO_none
  | succ n ih => intro v1 v2  mem; exact rb_Model_toldMany_4    (lp_Model_toldMany_4   n)  ih v1 v2  mem
def fn_Model_toldMany  (mem : Mm) : Res := lp_Model_toldMany_4 FU 0 0 mem
set_option maxHeartbeats 4000000 in
theorem pf_Model_toldMany {E : EE}   (mem : Mm) {r : Int} {mem9 : Mm} (h : fn_Model_toldMany  mem = some (r, mem9)) : MetX E 1 yn_Model_toldMany cd_Model_toldMany 3 (some .int) [rf 203] mem r mem9 := by
  refine RO_met (y := yn_Model_toldMany) (by decide +kernel) (Nat.le_of_ble_eq_true rfl) ?_ h
  show RO E mt_Model_toldMany (fn_Model_toldMany  mem) 0 [(0, rf 203)] [] mem
  unfold fn_Model_toldMany
  refine RO_iconst dc_Model_toldMany_0 ?_
  refine RO_istore_n dc_Model_toldMany_1 rfl (Nat.le_of_ble_eq_true rfl) ?_
  refine RO_iconst dc_Model_toldMany_2 ?_
  refine RO_istore_n dc_Model_toldMany_3 rfl (Nat.le_of_ble_eq_true rfl) ?_
  refine RO_sub ?_ (rp_Model_toldMany_4 FU 0 0 mem)
  exact ⟨rfl, rfl, rfl, trivial⟩
def bo_Model_nextToken_345   (v1 : Int) (mem : Mm) : Res := if v1 = 45 then (bn (mst mem 203 6 3) fun m1 => some (0, m1)) else (if v1 < 59 then (bn (mst mem 203 6 4) fun m2 => some (0, m2)) else (if 61 < v1 then (bn (mst mem 203 6 4) fun m3 => some (0, m3)) else (bn (mst mem 203 6 3) fun m4 => some (0, m4))))
set_option maxHeartbeats 4000000 in
theorem rb_Model_nextToken_345 {E : EE}     (v1 : Int)  (mem : Mm) : RO E mt_Model_nextToken (bo_Model_nextToken_345   v1 mem) 345 [(1, vi v1)] [rf 203] mem := by
  unfold bo_Model_nextToken_345
  refine RO_iload_n dc_Model_nextToken_345 rfl rfl ?_
  refine RO_bipush dc_Model_nextToken_346 ?_
  refine RO_icmp_eq (tgt := 363) dc_Model_nextToken_348 rfl ?_ ?_
  · refine RO_iconst dc_Model_nextToken_363 ?_
    refine RO_goto (tgt := 368) dc_Model_nextToken_364 rfl ?_
    refine RO_putI gp_Model_208 lk_203 dc_Model_nextToken_368 ?_
    refine RO_bnM (fun m1 => ?_)
    exact RO_vret rfl dc_Model_nextToken_371
  · refine RO_iload_n dc_Model_nextToken_351 rfl rfl ?_
    refine RO_bipush dc_Model_nextToken_352 ?_
    refine RO_icmp_lt (tgt := 367) dc_Model_nextToken_354 rfl ?_ ?_
    · refine RO_iconst dc_Model_nextToken_367 ?_
      refine RO_putI gp_Model_208 lk_203 dc_Model_nextToken_368 ?_
      refine RO_bnM (fun m2 => ?_)
      exact RO_vret rfl dc_Model_nextToken_371
    · refine RO_iload_n dc_Model_nextToken_357 rfl rfl ?_
      refine RO_bipush dc_Model_nextToken_358 ?_
      refine RO_icmp_gt (tgt := 367) dc_Model_nextToken_360 rfl ?_ ?_
      · refine RO_iconst dc_Model_nextToken_367 ?_
        refine RO_putI gp_Model_208 lk_203 dc_Model_nextToken_368 ?_
        refine RO_bnM (fun m3 => ?_)
        exact RO_vret rfl dc_Model_nextToken_371
      · refine RO_iconst dc_Model_nextToken_363 ?_
        refine RO_goto (tgt := 368) dc_Model_nextToken_364 rfl ?_
        refine RO_putI gp_Model_208 lk_203 dc_Model_nextToken_368 ?_
        refine RO_bnM (fun m4 => ?_)
        exact RO_vret rfl dc_Model_nextToken_371
def bo_Model_nextToken_322   (v1 : Int) (mem : Mm) : Res := bn (mst mem 203 4 (w32 ((mem 203 4) + 1))) fun m1 => if v1 < 40 then (bo_Model_nextToken_345 v1 m1) else (if 43 < v1 then (bo_Model_nextToken_345 v1 m1) else (bn (mst m1 203 6 3) fun m2 => some (0, m2)))
set_option maxHeartbeats 4000000 in
theorem rb_Model_nextToken_322 {E : EE}     (v1 : Int)  (mem : Mm) : RO E mt_Model_nextToken (bo_Model_nextToken_322   v1 mem) 322 [(0, rf 203), (1, vi v1)] [] mem := by
  unfold bo_Model_nextToken_322
  refine RO_aload_n dc_Model_nextToken_322 rfl rfl ?_
  refine RO_dup dc_Model_nextToken_323 (nt2 _) ?_
  refine RO_getI gf_Model_195 lk_203 dc_Model_nextToken_324 ?_
  refine RO_iconst dc_Model_nextToken_327 ?_
  refine RO_iadd dc_Model_nextToken_328 ?_
  refine RO_putI gp_Model_195 lk_203 dc_Model_nextToken_329 ?_
  refine RO_bnM (fun m1 => ?_)
  refine RO_aload_n dc_Model_nextToken_332 rfl rfl ?_
  refine RO_iload_n dc_Model_nextToken_333 rfl rfl ?_
  refine RO_bipush dc_Model_nextToken_334 ?_
  refine RO_icmp_lt (tgt := 345) dc_Model_nextToken_336 rfl ?_ ?_
  · refine RO_sub ?_ (rb_Model_nextToken_345 v1 m1)
    exact ⟨rfl, trivial⟩
  · refine RO_iload_n dc_Model_nextToken_339 rfl rfl ?_
    refine RO_bipush dc_Model_nextToken_340 ?_
    refine RO_icmp_le (tgt := 363) dc_Model_nextToken_342 rfl ?_ ?_
    · refine RO_sub ?_ (rb_Model_nextToken_345 v1 m1)
      exact ⟨rfl, trivial⟩
    · refine RO_iconst dc_Model_nextToken_363 ?_
      refine RO_goto (tgt := 368) dc_Model_nextToken_364 rfl ?_
      refine RO_putI gp_Model_208 lk_203 dc_Model_nextToken_368 ?_
      refine RO_bnM (fun m2 => ?_)
      exact RO_vret rfl dc_Model_nextToken_371
def bo_Model_nextToken_299    (mem : Mm) : Res := if 4 < (w32 ((mem 203 4) - (mem 203 5))) then (bn (mst mem 203 6 4) fun m1 => some (0, m1)) else (bn (mst mem 203 6 2) fun m2 => some (0, m2))
set_option maxHeartbeats 4000000 in
theorem rb_Model_nextToken_299 {E : EE}       (mem : Mm) : RO E mt_Model_nextToken (bo_Model_nextToken_299    mem) 299 [(0, rf 203)] [] mem := by
  unfold bo_Model_nextToken_299
  refine RO_aload_n dc_Model_nextToken_299 rfl rfl ?_
  refine RO_aload_n dc_Model_nextToken_300 rfl rfl ?_
  refine RO_getI gf_Model_195 lk_203 dc_Model_nextToken_301 ?_
  refine RO_aload_n dc_Model_nextToken_304 rfl rfl ?_
  refine RO_getI gf_Model_198 lk_203 dc_Model_nextToken_305 ?_
  refine RO_isub dc_Model_nextToken_308 ?_
  refine RO_iconst dc_Model_nextToken_309 ?_
  refine RO_icmp_le (tgt := 317) dc_Model_nextToken_310 rfl ?_ ?_
  · refine RO_iconst dc_Model_nextToken_313 ?_
    refine RO_goto (tgt := 318) dc_Model_nextToken_314 rfl ?_
    refine RO_putI gp_Model_208 lk_203 dc_Model_nextToken_318 ?_
    refine RO_bnM (fun m1 => ?_)
    exact RO_vret rfl dc_Model_nextToken_321
  · refine RO_iconst dc_Model_nextToken_317 ?_
    refine RO_putI gp_Model_208 lk_203 dc_Model_nextToken_318 ?_
    refine RO_bnM (fun m2 => ?_)
    exact RO_vret rfl dc_Model_nextToken_321
def bo_Model_nextToken_286  (k224 : Mm → Res)  (mem : Mm) : Res := bn (mst mem 203 4 (w32 ((mem 203 4) + 1))) fun m1 => k224 m1
set_option maxHeartbeats 4000000 in
theorem rb_Model_nextToken_286 {E : EE}   (k224 : Mm → Res) (H224 : ∀   (mem : Mm), RO E mt_Model_nextToken (k224  mem) 224 [(0, rf 203)] [] mem)   (mem : Mm) : RO E mt_Model_nextToken (bo_Model_nextToken_286  k224  mem) 286 [(0, rf 203)] [] mem := by
  unfold bo_Model_nextToken_286
  refine RO_aload_n dc_Model_nextToken_286 rfl rfl ?_
  refine RO_dup dc_Model_nextToken_287 (nt2 _) ?_
  refine RO_getI gf_Model_195 lk_203 dc_Model_nextToken_288 ?_
  refine RO_iconst dc_Model_nextToken_291 ?_
  refine RO_iadd dc_Model_nextToken_292 ?_
  refine RO_putI gp_Model_195 lk_203 dc_Model_nextToken_293 ?_
  refine RO_bnM (fun m1 => ?_)
  refine RO_goto (tgt := 224) dc_Model_nextToken_296 rfl ?_
  refine RO_sub ?_ (H224 m1)
  exact ⟨rfl, trivial⟩
def bo_Model_nextToken_224  (k224 : Mm → Res)  (mem : Mm) : Res := bd (fn_Model_signAt (mem 203 4) mem) fun r1 m2 => if r1 < 48 then (bo_Model_nextToken_299 m2) else (bd (fn_Model_signAt (m2 203 4) m2) fun r3 m4 => if 57 < r3 then (bo_Model_nextToken_299 m4) else (if (w32 ((m4 203 4) - (m4 203 5))) < 4 then (bd (fn_Model_signAt (m4 203 4) m4) fun r5 m6 => bn (mst m6 203 8 (w32 ((w32 ((w32 ((m4 203 8) * 10)) + r5)) - 48))) fun m7 => bo_Model_nextToken_286 k224 m7) else (bo_Model_nextToken_286 k224 m4)))
set_option maxHeartbeats 4000000 in
theorem rb_Model_nextToken_224 {E : EE}   (k224 : Mm → Res) (H224 : ∀   (mem : Mm), RO E mt_Model_nextToken (k224  mem) 224 [(0, rf 203)] [] mem)   (mem : Mm) : RO E mt_Model_nextToken (bo_Model_nextToken_224  k224  mem) 224 [(0, rf 203)] [] mem := by
  unfold bo_Model_nextToken_224
  refine RO_aload_n dc_Model_nextToken_224 rfl rfl ?_
  refine RO_aload_n dc_Model_nextToken_225 rfl rfl ?_
  refine RO_getI gf_Model_195 lk_203 dc_Model_nextToken_226 ?_
  refine RO_callVi (As := [vi (mem 203 4)]) (rest := []) mi_Model_signAt mv_Model_signAt ml_Model_211 lk_203 (Nat.le_of_ble_eq_true rfl) rfl (Nat.le_of_ble_eq_true rfl) (fun _ => rfl) dc_Model_nextToken_229 (fun rq mq hq => pf_Model_signAt (mem 203 4)  mem hq) (fun r1 m2 => ?_)
  refine RO_bipush dc_Model_nextToken_232 ?_
  refine RO_icmp_lt (tgt := 299) dc_Model_nextToken_234 rfl ?_ ?_
  · refine RO_sub ?_ (rb_Model_nextToken_299 m2)
    exact ⟨rfl, trivial⟩
  · refine RO_aload_n dc_Model_nextToken_237 rfl rfl ?_
    refine RO_aload_n dc_Model_nextToken_238 rfl rfl ?_
    refine RO_getI gf_Model_195 lk_203 dc_Model_nextToken_239 ?_
    refine RO_callVi (As := [vi (m2 203 4)]) (rest := []) mi_Model_signAt mv_Model_signAt ml_Model_211 lk_203 (Nat.le_of_ble_eq_true rfl) rfl (Nat.le_of_ble_eq_true rfl) (fun _ => rfl) dc_Model_nextToken_242 (fun rq mq hq => pf_Model_signAt (m2 203 4)  m2 hq) (fun r3 m4 => ?_)
    refine RO_bipush dc_Model_nextToken_245 ?_
    refine RO_icmp_gt (tgt := 299) dc_Model_nextToken_247 rfl ?_ ?_
    · refine RO_sub ?_ (rb_Model_nextToken_299 m4)
      exact ⟨rfl, trivial⟩
    · refine RO_aload_n dc_Model_nextToken_250 rfl rfl ?_
      refine RO_getI gf_Model_195 lk_203 dc_Model_nextToken_251 ?_
      refine RO_aload_n dc_Model_nextToken_254 rfl rfl ?_
      refine RO_getI gf_Model_198 lk_203 dc_Model_nextToken_255 ?_
      refine RO_isub dc_Model_nextToken_258 ?_
      refine RO_iconst dc_Model_nextToken_259 ?_
      refine RO_icmp_ge (tgt := 286) dc_Model_nextToken_260 rfl ?_ ?_
      · refine RO_aload_n dc_Model_nextToken_263 rfl rfl ?_
        refine RO_aload_n dc_Model_nextToken_264 rfl rfl ?_
        refine RO_getI gf_Model_205 lk_203 dc_Model_nextToken_265 ?_
        refine RO_bipush dc_Model_nextToken_268 ?_
        refine RO_imul dc_Model_nextToken_270 ?_
        refine RO_aload_n dc_Model_nextToken_271 rfl rfl ?_
        refine RO_aload_n dc_Model_nextToken_272 rfl rfl ?_
        refine RO_getI gf_Model_195 lk_203 dc_Model_nextToken_273 ?_
        refine RO_callVi (As := [vi (m4 203 4)]) (rest := [vi (w32 ((m4 203 8) * 10)), rf 203]) mi_Model_signAt mv_Model_signAt ml_Model_211 lk_203 (Nat.le_of_ble_eq_true rfl) rfl (Nat.le_of_ble_eq_true rfl) (fun _ => rfl) dc_Model_nextToken_276 (fun rq mq hq => pf_Model_signAt (m4 203 4)  m4 hq) (fun r5 m6 => ?_)
        refine RO_iadd dc_Model_nextToken_279 ?_
        refine RO_bipush dc_Model_nextToken_280 ?_
        refine RO_isub dc_Model_nextToken_282 ?_
        refine RO_putI gp_Model_205 lk_203 dc_Model_nextToken_283 ?_
        refine RO_bnM (fun m7 => ?_)
        refine RO_sub ?_ (rb_Model_nextToken_286 k224 H224 m7)
        exact ⟨rfl, trivial⟩
      · refine RO_sub ?_ (rb_Model_nextToken_286 k224 H224 m4)
        exact ⟨rfl, trivial⟩
def lp_Model_nextToken_224   : Nat → Mm → Res
  | 0 => fun _ => none
  | n + 1 => bo_Model_nextToken_224   (lp_Model_nextToken_224   n)
theorem rp_Model_nextToken_224 {E : EE}     : ∀ (n : Nat)   (mem : Mm), RO E mt_Model_nextToken (lp_Model_nextToken_224   n  mem) 224 [(0, rf 203)] [] mem := by
  intro n
  induction n with
  | zero => intro   mem; exact RO_none
  | succ n ih => intro   mem; exact rb_Model_nextToken_224    (lp_Model_nextToken_224   n)  ih   mem
def bo_Model_nextToken_212   (v1 : Int) (mem : Mm) : Res := if v1 < 48 then (bo_Model_nextToken_322 v1 mem) else (if 57 < v1 then (bo_Model_nextToken_322 v1 mem) else (lp_Model_nextToken_224 FU mem))
set_option maxHeartbeats 4000000 in
theorem rb_Model_nextToken_212 {E : EE}     (v1 : Int)  (mem : Mm) : RO E mt_Model_nextToken (bo_Model_nextToken_212   v1 mem) 212 [(0, rf 203), (1, vi v1)] [] mem := by
  unfold bo_Model_nextToken_212
  refine RO_iload_n dc_Model_nextToken_212 rfl rfl ?_
  refine RO_bipush dc_Model_nextToken_213 ?_
  refine RO_icmp_lt (tgt := 322) dc_Model_nextToken_215 rfl ?_ ?_
  · refine RO_sub ?_ (rb_Model_nextToken_322 v1 mem)
    exact ⟨rfl, rfl, trivial⟩
  · refine RO_iload_n dc_Model_nextToken_218 rfl rfl ?_
    refine RO_bipush dc_Model_nextToken_219 ?_
    refine RO_icmp_gt (tgt := 322) dc_Model_nextToken_221 rfl ?_ ?_
    · refine RO_sub ?_ (rb_Model_nextToken_322 v1 mem)
      exact ⟨rfl, rfl, trivial⟩
    · refine RO_sub ?_ (rp_Model_nextToken_224 FU mem)
      exact ⟨rfl, trivial⟩
def bo_Model_nextToken_188    (mem : Mm) : Res := if 8 < (w32 ((mem 203 4) - (mem 203 5))) then (bn (mst mem 203 6 4) fun m1 => some (0, m1)) else (bn (mst mem 203 6 1) fun m2 => some (0, m2))
set_option maxHeartbeats 4000000 in
theorem rb_Model_nextToken_188 {E : EE}       (mem : Mm) : RO E mt_Model_nextToken (bo_Model_nextToken_188    mem) 188 [(0, rf 203)] [] mem := by
  unfold bo_Model_nextToken_188
  refine RO_aload_n dc_Model_nextToken_188 rfl rfl ?_
  refine RO_aload_n dc_Model_nextToken_189 rfl rfl ?_
  refine RO_getI gf_Model_195 lk_203 dc_Model_nextToken_190 ?_
  refine RO_aload_n dc_Model_nextToken_193 rfl rfl ?_
  refine RO_getI gf_Model_198 lk_203 dc_Model_nextToken_194 ?_
  refine RO_isub dc_Model_nextToken_197 ?_
  refine RO_bipush dc_Model_nextToken_198 ?_
  refine RO_icmp_le (tgt := 207) dc_Model_nextToken_200 rfl ?_ ?_
  · refine RO_iconst dc_Model_nextToken_203 ?_
    refine RO_goto (tgt := 208) dc_Model_nextToken_204 rfl ?_
    refine RO_putI gp_Model_208 lk_203 dc_Model_nextToken_208 ?_
    refine RO_bnM (fun m1 => ?_)
    exact RO_vret rfl dc_Model_nextToken_211
  · refine RO_iconst dc_Model_nextToken_207 ?_
    refine RO_putI gp_Model_208 lk_203 dc_Model_nextToken_208 ?_
    refine RO_bnM (fun m2 => ?_)
    exact RO_vret rfl dc_Model_nextToken_211
def bo_Model_nextToken_175  (k109 : Mm → Res)  (mem : Mm) : Res := bn (mst mem 203 4 (w32 ((mem 203 4) + 1))) fun m1 => k109 m1
set_option maxHeartbeats 4000000 in
theorem rb_Model_nextToken_175 {E : EE}   (k109 : Mm → Res) (H109 : ∀   (mem : Mm), RO E mt_Model_nextToken (k109  mem) 109 [(0, rf 203)] [] mem)   (mem : Mm) : RO E mt_Model_nextToken (bo_Model_nextToken_175  k109  mem) 175 [(0, rf 203)] [] mem := by
  unfold bo_Model_nextToken_175
  refine RO_aload_n dc_Model_nextToken_175 rfl rfl ?_
  refine RO_dup dc_Model_nextToken_176 (nt2 _) ?_
  refine RO_getI gf_Model_195 lk_203 dc_Model_nextToken_177 ?_
  refine RO_iconst dc_Model_nextToken_180 ?_
  refine RO_iadd dc_Model_nextToken_181 ?_
  refine RO_putI gp_Model_195 lk_203 dc_Model_nextToken_182 ?_
  refine RO_bnM (fun m1 => ?_)
  refine RO_goto (tgt := 109) dc_Model_nextToken_185 rfl ?_
  refine RO_sub ?_ (H109 m1)
  exact ⟨rfl, trivial⟩
def bo_Model_nextToken_109  (k109 : Mm → Res)  (mem : Mm) : Res := bd (fn_Model_signAt (mem 203 4) mem) fun r1 m2 => if r1 < 97 then (bo_Model_nextToken_188 m2) else (bd (fn_Model_signAt (m2 203 4) m2) fun r3 m4 => if 122 < r3 then (bo_Model_nextToken_188 m4) else (if (w32 ((m4 203 4) - (m4 203 5))) < 8 then (bd (fn_Model_signAt (m4 203 4) m4) fun r5 m6 => bn (mst m6 203 7 (w64 ((w64 ((w64 ((m4 203 7) * 27)) + r5)) - 96))) fun m7 => bo_Model_nextToken_175 k109 m7) else (bo_Model_nextToken_175 k109 m4)))
set_option maxHeartbeats 4000000 in
theorem rb_Model_nextToken_109 {E : EE}   (k109 : Mm → Res) (H109 : ∀   (mem : Mm), RO E mt_Model_nextToken (k109  mem) 109 [(0, rf 203)] [] mem)   (mem : Mm) : RO E mt_Model_nextToken (bo_Model_nextToken_109  k109  mem) 109 [(0, rf 203)] [] mem := by
  unfold bo_Model_nextToken_109
  refine RO_aload_n dc_Model_nextToken_109 rfl rfl ?_
  refine RO_aload_n dc_Model_nextToken_110 rfl rfl ?_
  refine RO_getI gf_Model_195 lk_203 dc_Model_nextToken_111 ?_
  refine RO_callVi (As := [vi (mem 203 4)]) (rest := []) mi_Model_signAt mv_Model_signAt ml_Model_211 lk_203 (Nat.le_of_ble_eq_true rfl) rfl (Nat.le_of_ble_eq_true rfl) (fun _ => rfl) dc_Model_nextToken_114 (fun rq mq hq => pf_Model_signAt (mem 203 4)  mem hq) (fun r1 m2 => ?_)
  refine RO_bipush dc_Model_nextToken_117 ?_
  refine RO_icmp_lt (tgt := 188) dc_Model_nextToken_119 rfl ?_ ?_
  · refine RO_sub ?_ (rb_Model_nextToken_188 m2)
    exact ⟨rfl, trivial⟩
  · refine RO_aload_n dc_Model_nextToken_122 rfl rfl ?_
    refine RO_aload_n dc_Model_nextToken_123 rfl rfl ?_
    refine RO_getI gf_Model_195 lk_203 dc_Model_nextToken_124 ?_
    refine RO_callVi (As := [vi (m2 203 4)]) (rest := []) mi_Model_signAt mv_Model_signAt ml_Model_211 lk_203 (Nat.le_of_ble_eq_true rfl) rfl (Nat.le_of_ble_eq_true rfl) (fun _ => rfl) dc_Model_nextToken_127 (fun rq mq hq => pf_Model_signAt (m2 203 4)  m2 hq) (fun r3 m4 => ?_)
    refine RO_bipush dc_Model_nextToken_130 ?_
    refine RO_icmp_gt (tgt := 188) dc_Model_nextToken_132 rfl ?_ ?_
    · refine RO_sub ?_ (rb_Model_nextToken_188 m4)
      exact ⟨rfl, trivial⟩
    · refine RO_aload_n dc_Model_nextToken_135 rfl rfl ?_
      refine RO_getI gf_Model_195 lk_203 dc_Model_nextToken_136 ?_
      refine RO_aload_n dc_Model_nextToken_139 rfl rfl ?_
      refine RO_getI gf_Model_198 lk_203 dc_Model_nextToken_140 ?_
      refine RO_isub dc_Model_nextToken_143 ?_
      refine RO_bipush dc_Model_nextToken_144 ?_
      refine RO_icmp_ge (tgt := 175) dc_Model_nextToken_146 rfl ?_ ?_
      · refine RO_aload_n dc_Model_nextToken_149 rfl rfl ?_
        refine RO_aload_n dc_Model_nextToken_150 rfl rfl ?_
        refine RO_getL gf_Model_201 lk_203 dc_Model_nextToken_151 ?_
        refine RO_ldc2 (x := 27) c2_Model_215 ⟨by decide, ⟨by decide, by decide⟩⟩ dc_Model_nextToken_154 ?_
        refine RO_lmul dc_Model_nextToken_157 ?_
        refine RO_aload_n dc_Model_nextToken_158 rfl rfl ?_
        refine RO_aload_n dc_Model_nextToken_159 rfl rfl ?_
        refine RO_getI gf_Model_195 lk_203 dc_Model_nextToken_160 ?_
        refine RO_callVi (As := [vi (m4 203 4)]) (rest := [vl (w64 ((m4 203 7) * 27)), rf 203]) mi_Model_signAt mv_Model_signAt ml_Model_211 lk_203 (Nat.le_of_ble_eq_true rfl) rfl (Nat.le_of_ble_eq_true rfl) (fun _ => rfl) dc_Model_nextToken_163 (fun rq mq hq => pf_Model_signAt (m4 203 4)  m4 hq) (fun r5 m6 => ?_)
        refine RO_i2l dc_Model_nextToken_166 ?_
        refine RO_ladd dc_Model_nextToken_167 ?_
        refine RO_ldc2 (x := 96) c2_Model_217 ⟨by decide, ⟨by decide, by decide⟩⟩ dc_Model_nextToken_168 ?_
        refine RO_lsub dc_Model_nextToken_171 ?_
        refine RO_putL gp_Model_201 lk_203 dc_Model_nextToken_172 ?_
        refine RO_bnM (fun m7 => ?_)
        refine RO_sub ?_ (rb_Model_nextToken_175 k109 H109 m7)
        exact ⟨rfl, trivial⟩
      · refine RO_sub ?_ (rb_Model_nextToken_175 k109 H109 m4)
        exact ⟨rfl, trivial⟩
def lp_Model_nextToken_109   : Nat → Mm → Res
  | 0 => fun _ => none
  | n + 1 => bo_Model_nextToken_109   (lp_Model_nextToken_109   n)
theorem rp_Model_nextToken_109 {E : EE}     : ∀ (n : Nat)   (mem : Mm), RO E mt_Model_nextToken (lp_Model_nextToken_109   n  mem) 109 [(0, rf 203)] [] mem := by
  intro n
  induction n with
  | zero => intro   mem; exact RO_none
  | succ n ih => intro   mem; exact rb_Model_nextToken_109    (lp_Model_nextToken_109   n)  ih   mem
def bo_Model_nextToken_52    (mem : Mm) : Res := bn (mst mem 203 5 (mem 203 4)) fun m1 => bn (mst m1 203 7 0) fun m2 => bn (mst m2 203 8 0) fun m3 => if (m3 203 4) = (m3 203 3) then (bn (mst m3 203 6 0) fun m4 => some (0, m4)) else (if 0 ≤ m3 203 4 ∧ m3 203 4 < 1000 then bn (m3 204 (m3 203 4).toNat) fun x6 => if x6 < 97 then (bo_Model_nextToken_212 x6 m3) else (if 122 < x6 then (bo_Model_nextToken_212 x6 m3) else (lp_Model_nextToken_109 FU m3)) else none)
set_option maxHeartbeats 4000000 in
theorem rb_Model_nextToken_52 {E : EE}       (mem : Mm) : RO E mt_Model_nextToken (bo_Model_nextToken_52    mem) 52 [(0, rf 203)] [] mem := by
  unfold bo_Model_nextToken_52
  refine RO_aload_n dc_Model_nextToken_52 rfl rfl ?_
  refine RO_aload_n dc_Model_nextToken_53 rfl rfl ?_
  refine RO_getI gf_Model_195 lk_203 dc_Model_nextToken_54 ?_
  refine RO_putI gp_Model_198 lk_203 dc_Model_nextToken_57 ?_
  refine RO_bnM (fun m1 => ?_)
  refine RO_aload_n dc_Model_nextToken_60 rfl rfl ?_
  refine RO_lconst (x := 0) dc_Model_nextToken_61 ⟨by decide, ⟨by decide, by decide⟩⟩ ?_
  refine RO_putL gp_Model_201 lk_203 dc_Model_nextToken_62 ?_
  refine RO_bnM (fun m2 => ?_)
  refine RO_aload_n dc_Model_nextToken_65 rfl rfl ?_
  refine RO_iconst dc_Model_nextToken_66 ?_
  refine RO_putI gp_Model_205 lk_203 dc_Model_nextToken_67 ?_
  refine RO_bnM (fun m3 => ?_)
  refine RO_aload_n dc_Model_nextToken_70 rfl rfl ?_
  refine RO_getI gf_Model_195 lk_203 dc_Model_nextToken_71 ?_
  refine RO_aload_n dc_Model_nextToken_74 rfl rfl ?_
  refine RO_getI gf_Model_192 lk_203 dc_Model_nextToken_75 ?_
  refine RO_icmp_ne (tgt := 87) dc_Model_nextToken_78 rfl ?_ ?_
  · refine RO_aload_n dc_Model_nextToken_81 rfl rfl ?_
    refine RO_iconst dc_Model_nextToken_82 ?_
    refine RO_putI gp_Model_208 lk_203 dc_Model_nextToken_83 ?_
    refine RO_bnM (fun m4 => ?_)
    exact RO_vret rfl dc_Model_nextToken_86
  · refine RO_aload_n dc_Model_nextToken_87 rfl rfl ?_
    refine RO_getR (b := 204) gf_Model_7 lk_203 rfl dc_Model_nextToken_88 ?_
    refine RO_aload_n dc_Model_nextToken_91 rfl rfl ?_
    refine RO_getI gf_Model_195 lk_203 dc_Model_nextToken_92 ?_
    refine RO_chk (fun hi5 => ?_)
    refine RO_ia lk_204 hi5 dc_Model_nextToken_95 ?_
    refine RO_bnT (fun x6 => ?_)
    refine RO_istore_n dc_Model_nextToken_96 rfl (Nat.le_of_ble_eq_true rfl) ?_
    refine RO_iload_n dc_Model_nextToken_97 rfl rfl ?_
    refine RO_bipush dc_Model_nextToken_98 ?_
    refine RO_icmp_lt (tgt := 212) dc_Model_nextToken_100 rfl ?_ ?_
    · refine RO_sub ?_ (rb_Model_nextToken_212 x6 m3)
      exact ⟨rfl, rfl, trivial⟩
    · refine RO_iload_n dc_Model_nextToken_103 rfl rfl ?_
      refine RO_bipush dc_Model_nextToken_104 ?_
      refine RO_icmp_gt (tgt := 212) dc_Model_nextToken_106 rfl ?_ ?_
      · refine RO_sub ?_ (rb_Model_nextToken_212 x6 m3)
        exact ⟨rfl, rfl, trivial⟩
      · refine RO_sub ?_ (rp_Model_nextToken_109 FU m3)
        exact ⟨rfl, trivial⟩
def bo_Model_nextToken_39  (k0 : Mm → Res)  (mem : Mm) : Res := bn (mst mem 203 4 (w32 ((mem 203 4) + 1))) fun m1 => k0 m1
set_option maxHeartbeats 4000000 in
theorem rb_Model_nextToken_39 {E : EE}   (k0 : Mm → Res) (H0 : ∀   (mem : Mm), RO E mt_Model_nextToken (k0  mem) 0 [(0, rf 203)] [] mem)   (mem : Mm) : RO E mt_Model_nextToken (bo_Model_nextToken_39  k0  mem) 39 [(0, rf 203)] [] mem := by
  unfold bo_Model_nextToken_39
  refine RO_aload_n dc_Model_nextToken_39 rfl rfl ?_
  refine RO_dup dc_Model_nextToken_40 (nt2 _) ?_
  refine RO_getI gf_Model_195 lk_203 dc_Model_nextToken_41 ?_
  refine RO_iconst dc_Model_nextToken_44 ?_
  refine RO_iadd dc_Model_nextToken_45 ?_
  refine RO_putI gp_Model_195 lk_203 dc_Model_nextToken_46 ?_
  refine RO_bnM (fun m1 => ?_)
  refine RO_goto (tgt := 0) dc_Model_nextToken_49 rfl ?_
  refine RO_sub ?_ (H0 m1)
  exact ⟨rfl, trivial⟩
def bo_Model_nextToken_0  (k0 : Mm → Res)  (mem : Mm) : Res := if (mem 203 4) < (mem 203 3) then (if 0 ≤ mem 203 4 ∧ mem 203 4 < 1000 then if (mem 204 (mem 203 4).toNat) = 32 then (bo_Model_nextToken_39 k0 mem) else (if 0 ≤ mem 203 4 ∧ mem 203 4 < 1000 then if (mem 204 (mem 203 4).toNat) = 10 then (bo_Model_nextToken_39 k0 mem) else (bo_Model_nextToken_52 mem) else none) else none) else (bo_Model_nextToken_52 mem)
set_option maxHeartbeats 4000000 in
theorem rb_Model_nextToken_0 {E : EE}   (k0 : Mm → Res) (H0 : ∀   (mem : Mm), RO E mt_Model_nextToken (k0  mem) 0 [(0, rf 203)] [] mem)   (mem : Mm) : RO E mt_Model_nextToken (bo_Model_nextToken_0  k0  mem) 0 [(0, rf 203)] [] mem := by
  unfold bo_Model_nextToken_0
  refine RO_aload_n dc_Model_nextToken_0 rfl rfl ?_
  refine RO_getI gf_Model_195 lk_203 dc_Model_nextToken_1 ?_
  refine RO_aload_n dc_Model_nextToken_4 rfl rfl ?_
  refine RO_getI gf_Model_192 lk_203 dc_Model_nextToken_5 ?_
  refine RO_icmp_ge (tgt := 52) dc_Model_nextToken_8 rfl ?_ ?_
  · refine RO_aload_n dc_Model_nextToken_11 rfl rfl ?_
    refine RO_getR (b := 204) gf_Model_7 lk_203 rfl dc_Model_nextToken_12 ?_
    refine RO_aload_n dc_Model_nextToken_15 rfl rfl ?_
    refine RO_getI gf_Model_195 lk_203 dc_Model_nextToken_16 ?_
    refine RO_chk (fun hi1 => ?_)
    refine RO_ia lk_204 hi1 dc_Model_nextToken_19 ?_
    refine RO_bipush dc_Model_nextToken_20 ?_
    refine RO_icmp_eq (tgt := 39) dc_Model_nextToken_22 rfl ?_ ?_
    · refine RO_sub ?_ (rb_Model_nextToken_39 k0 H0 mem)
      exact ⟨rfl, trivial⟩
    · refine RO_aload_n dc_Model_nextToken_25 rfl rfl ?_
      refine RO_getR (b := 204) gf_Model_7 lk_203 rfl dc_Model_nextToken_26 ?_
      refine RO_aload_n dc_Model_nextToken_29 rfl rfl ?_
      refine RO_getI gf_Model_195 lk_203 dc_Model_nextToken_30 ?_
      refine RO_chk (fun hi2 => ?_)
      refine RO_ia lk_204 hi2 dc_Model_nextToken_33 ?_
      refine RO_bipush dc_Model_nextToken_34 ?_
      refine RO_icmp_ne (tgt := 52) dc_Model_nextToken_36 rfl ?_ ?_
      · refine RO_sub ?_ (rb_Model_nextToken_39 k0 H0 mem)
        exact ⟨rfl, trivial⟩
      · refine RO_sub ?_ (rb_Model_nextToken_52 mem)
        exact ⟨rfl, trivial⟩
  · refine RO_sub ?_ (rb_Model_nextToken_52 mem)
    exact ⟨rfl, trivial⟩
def lp_Model_nextToken_0   : Nat → Mm → Res
  | 0 => fun _ => none
  | n + 1 => bo_Model_nextToken_0   (lp_Model_nextToken_0   n)
theorem rp_Model_nextToken_0 {E : EE}     : ∀ (n : Nat)   (mem : Mm), RO E mt_Model_nextToken (lp_Model_nextToken_0   n  mem) 0 [(0, rf 203)] [] mem := by
  intro n
  induction n with
  | zero => intro   mem; exact RO_none
  | succ n ih => intro   mem; exact rb_Model_nextToken_0    (lp_Model_nextToken_0   n)  ih   mem
def fn_Model_nextToken  (mem : Mm) : Res := lp_Model_nextToken_0 FU mem
set_option maxHeartbeats 4000000 in
theorem pf_Model_nextToken {E : EE}   (mem : Mm) {r : Int} {mem9 : Mm} (h : fn_Model_nextToken  mem = some (r, mem9)) : MetX E 2 yn_Model_nextToken cd_Model_nextToken 2 none [rf 203] mem r mem9 := by
  refine RO_met (y := yn_Model_nextToken) (by decide +kernel) (Nat.le_of_ble_eq_true rfl) ?_ h
  show RO E mt_Model_nextToken (fn_Model_nextToken  mem) 0 [(0, rf 203)] [] mem
  unfold fn_Model_nextToken
  refine RO_sub ?_ (rp_Model_nextToken_0 FU mem)
  exact ⟨rfl, trivial⟩
def bo_Model_tests_136 (p1 : Int)  (v2 : Int) (mem : Mm) : Res := if 0 ≤ p1 ∧ p1 < 7 then bn (mst mem 226 p1.toNat v2) fun m2 => if 0 ≤ p1 ∧ p1 < 7 then bn (mst m2 229 p1.toNat 0) fun m4 => if 0 ≤ p1 ∧ p1 < 7 then bn (mst m4 230 p1.toNat 0) fun m6 => if 0 ≤ p1 ∧ p1 < 7 then bn (mst m6 231 p1.toNat 20) fun m8 => some (0, m8) else none else none else none else none
set_option maxHeartbeats 4000000 in
theorem rb_Model_tests_136 {E : EE} (p1 : Int)    (v2 : Int)  (mem : Mm) : RO E mt_Model_tests (bo_Model_tests_136 p1  v2 mem) 136 [(0, rf 203), (1, vi p1), (2, vi v2)] [] mem := by
  unfold bo_Model_tests_136
  refine RO_aload_n dc_Model_tests_136 rfl rfl ?_
  refine RO_getR (b := 226) gf_Model_78 lk_203 rfl dc_Model_tests_137 ?_
  refine RO_iload_n dc_Model_tests_140 rfl rfl ?_
  refine RO_iload_n dc_Model_tests_141 rfl rfl ?_
  refine RO_chk (fun hi1 => ?_)
  refine RO_is lk_226 hi1 dc_Model_tests_142 ?_
  refine RO_bnM (fun m2 => ?_)
  refine RO_aload_n dc_Model_tests_143 rfl rfl ?_
  refine RO_getR (b := 229) gf_Model_87 lk_203 rfl dc_Model_tests_144 ?_
  refine RO_iload_n dc_Model_tests_147 rfl rfl ?_
  refine RO_iconst dc_Model_tests_148 ?_
  refine RO_chk (fun hi3 => ?_)
  refine RO_is lk_229 hi3 dc_Model_tests_149 ?_
  refine RO_bnM (fun m4 => ?_)
  refine RO_aload_n dc_Model_tests_150 rfl rfl ?_
  refine RO_getR (b := 230) gf_Model_90 lk_203 rfl dc_Model_tests_151 ?_
  refine RO_iload_n dc_Model_tests_154 rfl rfl ?_
  refine RO_iconst dc_Model_tests_155 ?_
  refine RO_chk (fun hi5 => ?_)
  refine RO_is lk_230 hi5 dc_Model_tests_156 ?_
  refine RO_bnM (fun m6 => ?_)
  refine RO_aload_n dc_Model_tests_157 rfl rfl ?_
  refine RO_getR (b := 231) gf_Model_93 lk_203 rfl dc_Model_tests_158 ?_
  refine RO_iload_n dc_Model_tests_161 rfl rfl ?_
  refine RO_bipush dc_Model_tests_162 ?_
  refine RO_chk (fun hi7 => ?_)
  refine RO_is lk_231 hi7 dc_Model_tests_164 ?_
  refine RO_bnM (fun m8 => ?_)
  exact RO_vret rfl dc_Model_tests_165
def bo_Model_tests_135 (p1 : Int)  (s0 : Int) (mem : Mm) : Res := bo_Model_tests_136 p1 s0 mem
set_option maxHeartbeats 4000000 in
theorem rb_Model_tests_135 {E : EE} (p1 : Int)    (s0 : Int)  (mem : Mm) : RO E mt_Model_tests (bo_Model_tests_135 p1  s0 mem) 135 [(0, rf 203), (1, vi p1)] [vi s0] mem := by
  unfold bo_Model_tests_135
  refine RO_istore_n dc_Model_tests_135 rfl (Nat.le_of_ble_eq_true rfl) ?_
  refine RO_sub ?_ (rb_Model_tests_136 p1 s0 mem)
  exact ⟨rfl, rfl, rfl, trivial⟩
def bo_Model_tests_130 (p1 : Int)   (mem : Mm) : Res := bo_Model_tests_135 p1 1 mem
set_option maxHeartbeats 4000000 in
theorem rb_Model_tests_130 {E : EE} (p1 : Int)      (mem : Mm) : RO E mt_Model_tests (bo_Model_tests_130 p1   mem) 130 [(0, rf 203), (1, vi p1)] [] mem := by
  unfold bo_Model_tests_130
  refine RO_iconst dc_Model_tests_130 ?_
  refine RO_goto (tgt := 135) dc_Model_tests_131 rfl ?_
  refine RO_sub ?_ (rb_Model_tests_135 p1 1 mem)
  exact ⟨rfl, rfl, trivial⟩
def bo_Model_tests_106 (p1 : Int)  (v2 : Int) (mem : Mm) : Res := if 0 ≤ p1 ∧ p1 < 7 then if (mem 227 p1.toNat) = 27 then (if 0 ≤ p1 ∧ p1 < 7 then if (mem 226 p1.toNat) = 0 then (if v2 = 0 then (bo_Model_tests_135 p1 0 mem) else (bo_Model_tests_130 p1 mem)) else (bo_Model_tests_130 p1 mem) else none) else (bo_Model_tests_136 p1 v2 mem) else none
set_option maxHeartbeats 4000000 in
theorem rb_Model_tests_106 {E : EE} (p1 : Int)    (v2 : Int)  (mem : Mm) : RO E mt_Model_tests (bo_Model_tests_106 p1  v2 mem) 106 [(0, rf 203), (1, vi p1), (2, vi v2)] [] mem := by
  unfold bo_Model_tests_106
  refine RO_aload_n dc_Model_tests_106 rfl rfl ?_
  refine RO_getR (b := 227) gf_Model_81 lk_203 rfl dc_Model_tests_107 ?_
  refine RO_iload_n dc_Model_tests_110 rfl rfl ?_
  refine RO_chk (fun hi1 => ?_)
  refine RO_ia lk_227 hi1 dc_Model_tests_111 ?_
  refine RO_bipush dc_Model_tests_112 ?_
  refine RO_icmp_ne (tgt := 136) dc_Model_tests_114 rfl ?_ ?_
  · refine RO_aload_n dc_Model_tests_117 rfl rfl ?_
    refine RO_getR (b := 226) gf_Model_78 lk_203 rfl dc_Model_tests_118 ?_
    refine RO_iload_n dc_Model_tests_121 rfl rfl ?_
    refine RO_chk (fun hi2 => ?_)
    refine RO_ia lk_226 hi2 dc_Model_tests_122 ?_
    refine RO_if_ne (tgt := 130) dc_Model_tests_123 rfl ?_ ?_
    · refine RO_iload_n dc_Model_tests_126 rfl rfl ?_
      refine RO_if_eq (tgt := 134) dc_Model_tests_127 rfl ?_ ?_
      · refine RO_iconst dc_Model_tests_134 ?_
        refine RO_sub ?_ (rb_Model_tests_135 p1 0 mem)
        exact ⟨rfl, rfl, trivial⟩
      · refine RO_sub ?_ (rb_Model_tests_130 p1 mem)
        exact ⟨rfl, rfl, trivial⟩
    · refine RO_sub ?_ (rb_Model_tests_130 p1 mem)
      exact ⟨rfl, rfl, trivial⟩
  · refine RO_sub ?_ (rb_Model_tests_136 p1 v2 mem)
    exact ⟨rfl, rfl, rfl, trivial⟩
def bo_Model_tests_105 (p1 : Int)  (s0 : Int) (mem : Mm) : Res := bo_Model_tests_106 p1 s0 mem
set_option maxHeartbeats 4000000 in
theorem rb_Model_tests_105 {E : EE} (p1 : Int)    (s0 : Int)  (mem : Mm) : RO E mt_Model_tests (bo_Model_tests_105 p1  s0 mem) 105 [(0, rf 203), (1, vi p1)] [vi s0] mem := by
  unfold bo_Model_tests_105
  refine RO_istore_n dc_Model_tests_105 rfl (Nat.le_of_ble_eq_true rfl) ?_
  refine RO_sub ?_ (rb_Model_tests_106 p1 s0 mem)
  exact ⟨rfl, rfl, rfl, trivial⟩
def bo_Model_tests_104 (p1 : Int)   (mem : Mm) : Res := bo_Model_tests_105 p1 0 mem
set_option maxHeartbeats 4000000 in
theorem rb_Model_tests_104 {E : EE} (p1 : Int)      (mem : Mm) : RO E mt_Model_tests (bo_Model_tests_104 p1   mem) 104 [(0, rf 203), (1, vi p1)] [] mem := by
  unfold bo_Model_tests_104
  refine RO_iconst dc_Model_tests_104 ?_
  refine RO_sub ?_ (rb_Model_tests_105 p1 0 mem)
  exact ⟨rfl, rfl, trivial⟩
def bo_Model_tests_76 (p1 : Int)  (v2 : Int) (mem : Mm) : Res := if 0 ≤ p1 ∧ p1 < 7 then if (mem 227 p1.toNat) = 26 then (if 0 ≤ p1 ∧ p1 < 7 then if (mem 226 p1.toNat) = 0 then (bo_Model_tests_104 p1 mem) else (if v2 = 0 then (bo_Model_tests_104 p1 mem) else (bo_Model_tests_105 p1 1 mem)) else none) else (bo_Model_tests_106 p1 v2 mem) else none
set_option maxHeartbeats 4000000 in
theorem rb_Model_tests_76 {E : EE} (p1 : Int)    (v2 : Int)  (mem : Mm) : RO E mt_Model_tests (bo_Model_tests_76 p1  v2 mem) 76 [(0, rf 203), (1, vi p1), (2, vi v2)] [] mem := by
  unfold bo_Model_tests_76
  refine RO_aload_n dc_Model_tests_76 rfl rfl ?_
  refine RO_getR (b := 227) gf_Model_81 lk_203 rfl dc_Model_tests_77 ?_
  refine RO_iload_n dc_Model_tests_80 rfl rfl ?_
  refine RO_chk (fun hi1 => ?_)
  refine RO_ia lk_227 hi1 dc_Model_tests_81 ?_
  refine RO_bipush dc_Model_tests_82 ?_
  refine RO_icmp_ne (tgt := 106) dc_Model_tests_84 rfl ?_ ?_
  · refine RO_aload_n dc_Model_tests_87 rfl rfl ?_
    refine RO_getR (b := 226) gf_Model_78 lk_203 rfl dc_Model_tests_88 ?_
    refine RO_iload_n dc_Model_tests_91 rfl rfl ?_
    refine RO_chk (fun hi2 => ?_)
    refine RO_ia lk_226 hi2 dc_Model_tests_92 ?_
    refine RO_if_eq (tgt := 104) dc_Model_tests_93 rfl ?_ ?_
    · refine RO_sub ?_ (rb_Model_tests_104 p1 mem)
      exact ⟨rfl, rfl, trivial⟩
    · refine RO_iload_n dc_Model_tests_96 rfl rfl ?_
      refine RO_if_eq (tgt := 104) dc_Model_tests_97 rfl ?_ ?_
      · refine RO_sub ?_ (rb_Model_tests_104 p1 mem)
        exact ⟨rfl, rfl, trivial⟩
      · refine RO_iconst dc_Model_tests_100 ?_
        refine RO_goto (tgt := 105) dc_Model_tests_101 rfl ?_
        refine RO_sub ?_ (rb_Model_tests_105 p1 1 mem)
        exact ⟨rfl, rfl, trivial⟩
  · refine RO_sub ?_ (rb_Model_tests_106 p1 v2 mem)
    exact ⟨rfl, rfl, rfl, trivial⟩
def bo_Model_tests_75 (p1 : Int)  (s0 : Int) (mem : Mm) : Res := bo_Model_tests_76 p1 s0 mem
set_option maxHeartbeats 4000000 in
theorem rb_Model_tests_75 {E : EE} (p1 : Int)    (s0 : Int)  (mem : Mm) : RO E mt_Model_tests (bo_Model_tests_75 p1  s0 mem) 75 [(0, rf 203), (1, vi p1)] [vi s0] mem := by
  unfold bo_Model_tests_75
  refine RO_istore_n dc_Model_tests_75 rfl (Nat.le_of_ble_eq_true rfl) ?_
  refine RO_sub ?_ (rb_Model_tests_76 p1 s0 mem)
  exact ⟨rfl, rfl, rfl, trivial⟩
def bo_Model_tests_44 (p1 : Int)  (v2 : Int) (mem : Mm) : Res := if 0 ≤ p1 ∧ p1 < 7 then if (mem 229 p1.toNat) = 25 then (if 0 ≤ p1 ∧ p1 < 7 then if 0 ≤ p1 ∧ p1 < 7 then if (mem 228 p1.toNat) = (mem 230 p1.toNat) then (bo_Model_tests_75 p1 1 mem) else (bo_Model_tests_75 p1 0 mem) else none else none) else (bo_Model_tests_76 p1 v2 mem) else none
set_option maxHeartbeats 4000000 in
theorem rb_Model_tests_44 {E : EE} (p1 : Int)    (v2 : Int)  (mem : Mm) : RO E mt_Model_tests (bo_Model_tests_44 p1  v2 mem) 44 [(0, rf 203), (1, vi p1), (2, vi v2)] [] mem := by
  unfold bo_Model_tests_44
  refine RO_aload_n dc_Model_tests_44 rfl rfl ?_
  refine RO_getR (b := 229) gf_Model_87 lk_203 rfl dc_Model_tests_45 ?_
  refine RO_iload_n dc_Model_tests_48 rfl rfl ?_
  refine RO_chk (fun hi1 => ?_)
  refine RO_ia lk_229 hi1 dc_Model_tests_49 ?_
  refine RO_bipush dc_Model_tests_50 ?_
  refine RO_icmp_ne (tgt := 76) dc_Model_tests_52 rfl ?_ ?_
  · refine RO_aload_n dc_Model_tests_55 rfl rfl ?_
    refine RO_getR (b := 228) gf_Model_84 lk_203 rfl dc_Model_tests_56 ?_
    refine RO_iload_n dc_Model_tests_59 rfl rfl ?_
    refine RO_chk (fun hi2 => ?_)
    refine RO_ia lk_228 hi2 dc_Model_tests_60 ?_
    refine RO_aload_n dc_Model_tests_61 rfl rfl ?_
    refine RO_getR (b := 230) gf_Model_90 lk_203 rfl dc_Model_tests_62 ?_
    refine RO_iload_n dc_Model_tests_65 rfl rfl ?_
    refine RO_chk (fun hi3 => ?_)
    refine RO_ia lk_230 hi3 dc_Model_tests_66 ?_
    refine RO_icmp_ne (tgt := 74) dc_Model_tests_67 rfl ?_ ?_
    · refine RO_iconst dc_Model_tests_70 ?_
      refine RO_goto (tgt := 75) dc_Model_tests_71 rfl ?_
      refine RO_sub ?_ (rb_Model_tests_75 p1 1 mem)
      exact ⟨rfl, rfl, trivial⟩
    · refine RO_iconst dc_Model_tests_74 ?_
      refine RO_sub ?_ (rb_Model_tests_75 p1 0 mem)
      exact ⟨rfl, rfl, trivial⟩
  · refine RO_sub ?_ (rb_Model_tests_76 p1 v2 mem)
    exact ⟨rfl, rfl, rfl, trivial⟩
def bo_Model_tests_43 (p1 : Int)  (s0 : Int) (mem : Mm) : Res := bo_Model_tests_44 p1 s0 mem
set_option maxHeartbeats 4000000 in
theorem rb_Model_tests_43 {E : EE} (p1 : Int)    (s0 : Int)  (mem : Mm) : RO E mt_Model_tests (bo_Model_tests_43 p1  s0 mem) 43 [(0, rf 203), (1, vi p1)] [vi s0] mem := by
  unfold bo_Model_tests_43
  refine RO_istore_n dc_Model_tests_43 rfl (Nat.le_of_ble_eq_true rfl) ?_
  refine RO_sub ?_ (rb_Model_tests_44 p1 s0 mem)
  exact ⟨rfl, rfl, rfl, trivial⟩
def fn_Model_tests (p1 : Int) (mem : Mm) : Res := bd (fn_Model_sums p1 mem) fun r1 m2 => if 0 ≤ p1 ∧ p1 < 7 then bn (m2 230 p1.toNat) fun x4 => if 0 ≤ p1 ∧ p1 < 7 then if (m2 229 p1.toNat) = 24 then (if 0 ≤ p1 ∧ p1 < 7 then if 0 ≤ p1 ∧ p1 < 7 then if (m2 228 p1.toNat) < (m2 230 p1.toNat) then (bo_Model_tests_43 p1 1 m2) else (bo_Model_tests_43 p1 0 m2) else none else none) else (bo_Model_tests_44 p1 x4 m2) else none else none
set_option maxHeartbeats 4000000 in
theorem pf_Model_tests {E : EE} (p1 : Int)  (mem : Mm) {r : Int} {mem9 : Mm} (h : fn_Model_tests p1 mem = some (r, mem9)) : MetX E 2 yn_Model_tests cd_Model_tests 3 none [rf 203, vi p1] mem r mem9 := by
  refine RO_met (y := yn_Model_tests) (by decide +kernel) (Nat.le_of_ble_eq_true rfl) ?_ h
  show RO E mt_Model_tests (fn_Model_tests p1 mem) 0 [(0, rf 203), (1, vi p1)] [] mem
  unfold fn_Model_tests
  refine RO_aload_n dc_Model_tests_0 rfl rfl ?_
  refine RO_iload_n dc_Model_tests_1 rfl rfl ?_
  refine RO_callVv (As := [vi p1]) (rest := []) mi_Model_sums mv_Model_sums ml_Model_259 lk_203 (Nat.le_of_ble_eq_true rfl) rfl (Nat.le_of_ble_eq_true rfl) dc_Model_tests_2 (fun rq mq hq => pf_Model_sums p1  mem hq) (fun r1 m2 => ?_)
  refine RO_aload_n dc_Model_tests_5 rfl rfl ?_
  refine RO_getR (b := 230) gf_Model_90 lk_203 rfl dc_Model_tests_6 ?_
  refine RO_iload_n dc_Model_tests_9 rfl rfl ?_
  refine RO_chk (fun hi3 => ?_)
  refine RO_ia lk_230 hi3 dc_Model_tests_10 ?_
  refine RO_bnT (fun x4 => ?_)
  refine RO_istore_n dc_Model_tests_11 rfl (Nat.le_of_ble_eq_true rfl) ?_
  refine RO_aload_n dc_Model_tests_12 rfl rfl ?_
  refine RO_getR (b := 229) gf_Model_87 lk_203 rfl dc_Model_tests_13 ?_
  refine RO_iload_n dc_Model_tests_16 rfl rfl ?_
  refine RO_chk (fun hi5 => ?_)
  refine RO_ia lk_229 hi5 dc_Model_tests_17 ?_
  refine RO_bipush dc_Model_tests_18 ?_
  refine RO_icmp_ne (tgt := 44) dc_Model_tests_20 rfl ?_ ?_
  · refine RO_aload_n dc_Model_tests_23 rfl rfl ?_
    refine RO_getR (b := 228) gf_Model_84 lk_203 rfl dc_Model_tests_24 ?_
    refine RO_iload_n dc_Model_tests_27 rfl rfl ?_
    refine RO_chk (fun hi6 => ?_)
    refine RO_ia lk_228 hi6 dc_Model_tests_28 ?_
    refine RO_aload_n dc_Model_tests_29 rfl rfl ?_
    refine RO_getR (b := 230) gf_Model_90 lk_203 rfl dc_Model_tests_30 ?_
    refine RO_iload_n dc_Model_tests_33 rfl rfl ?_
    refine RO_chk (fun hi7 => ?_)
    refine RO_ia lk_230 hi7 dc_Model_tests_34 ?_
    refine RO_icmp_ge (tgt := 42) dc_Model_tests_35 rfl ?_ ?_
    · refine RO_iconst dc_Model_tests_38 ?_
      refine RO_goto (tgt := 43) dc_Model_tests_39 rfl ?_
      refine RO_sub ?_ (rb_Model_tests_43 p1 1 m2)
      exact ⟨rfl, rfl, trivial⟩
    · refine RO_iconst dc_Model_tests_42 ?_
      refine RO_sub ?_ (rb_Model_tests_43 p1 0 m2)
      exact ⟨rfl, rfl, trivial⟩
  · refine RO_sub ?_ (rb_Model_tests_44 p1 x4 m2)
    exact ⟨rfl, rfl, rfl, trivial⟩
def fn_Model_placeNamed (p1 : Int) (mem : Mm) : Res := if 0 ≤ w32 ((w32 (5 * p1)) + 0) ∧ w32 ((w32 (5 * p1)) + 0) < 10 then bd (fn_Model_named 12 206 (w32 (6 * p1)) (mem 205 (w32 ((w32 (5 * p1)) + 0)).toNat) (mem 203 7) mem) fun r2 m3 => some (r2, m3) else none
set_option maxHeartbeats 4000000 in
theorem pf_Model_placeNamed {E : EE} (p1 : Int)  (mem : Mm) {r : Int} {mem9 : Mm} (h : fn_Model_placeNamed p1 mem = some (r, mem9)) : MetX E 2 yn_Model_placeNamed cd_Model_placeNamed 2 (some .int) [rf 203, vi p1] mem r mem9 := by
  refine RO_met (y := yn_Model_placeNamed) (by decide +kernel) (Nat.le_of_ble_eq_true rfl) ?_ h
  show RO E mt_Model_placeNamed (fn_Model_placeNamed p1 mem) 0 [(0, rf 203), (1, vi p1)] [] mem
  unfold fn_Model_placeNamed
  refine RO_aload_n dc_Model_placeNamed_0 rfl rfl ?_
  refine RO_getR (b := 206) gf_Model_16 lk_203 rfl dc_Model_placeNamed_1 ?_
  refine RO_bipush dc_Model_placeNamed_4 ?_
  refine RO_iload_n dc_Model_placeNamed_6 rfl rfl ?_
  refine RO_imul dc_Model_placeNamed_7 ?_
  refine RO_aload_n dc_Model_placeNamed_8 rfl rfl ?_
  refine RO_getR (b := 205) gf_Model_13 lk_203 rfl dc_Model_placeNamed_9 ?_
  refine RO_iconst dc_Model_placeNamed_12 ?_
  refine RO_iload_n dc_Model_placeNamed_13 rfl rfl ?_
  refine RO_imul dc_Model_placeNamed_14 ?_
  refine RO_iconst dc_Model_placeNamed_15 ?_
  refine RO_iadd dc_Model_placeNamed_16 ?_
  refine RO_chk (fun hi1 => ?_)
  refine RO_ia lk_205 hi1 dc_Model_placeNamed_17 ?_
  refine RO_aload_n dc_Model_placeNamed_18 rfl rfl ?_
  refine RO_getL gf_Model_201 lk_203 dc_Model_placeNamed_19 ?_
  refine RO_callSi (As := [rf 206, vi (w32 (6 * p1)), vi (mem 205 (w32 ((w32 (5 * p1)) + 0)).toNat), vl (mem 203 7)]) (rest := []) mi_Model_named ms_Model_named ml_Model_314 (Nat.le_of_ble_eq_true rfl) rfl (Nat.le_of_ble_eq_true rfl) (fun _ => rfl) dc_Model_placeNamed_22 (fun rq mq hq => pf_Model_named 12 206 (w32 (6 * p1)) (mem 205 (w32 ((w32 (5 * p1)) + 0)).toNat) (mem 203 7) lk_206 mem hq) (fun r2 m3 => ?_)
  exact RO_iret rfl dc_Model_placeNamed_25
def fn_Model_walkerNamed (p1 : Int) (mem : Mm) : Res := if 0 ≤ w32 ((w32 (5 * p1)) + 1) ∧ w32 ((w32 (5 * p1)) + 1) < 10 then bd (fn_Model_named 12 207 (w32 (6 * p1)) (mem 205 (w32 ((w32 (5 * p1)) + 1)).toNat) (mem 203 7) mem) fun r2 m3 => some (r2, m3) else none
set_option maxHeartbeats 4000000 in
theorem pf_Model_walkerNamed {E : EE} (p1 : Int)  (mem : Mm) {r : Int} {mem9 : Mm} (h : fn_Model_walkerNamed p1 mem = some (r, mem9)) : MetX E 2 yn_Model_walkerNamed cd_Model_walkerNamed 2 (some .int) [rf 203, vi p1] mem r mem9 := by
  refine RO_met (y := yn_Model_walkerNamed) (by decide +kernel) (Nat.le_of_ble_eq_true rfl) ?_ h
  show RO E mt_Model_walkerNamed (fn_Model_walkerNamed p1 mem) 0 [(0, rf 203), (1, vi p1)] [] mem
  unfold fn_Model_walkerNamed
  refine RO_aload_n dc_Model_walkerNamed_0 rfl rfl ?_
  refine RO_getR (b := 207) gf_Model_20 lk_203 rfl dc_Model_walkerNamed_1 ?_
  refine RO_bipush dc_Model_walkerNamed_4 ?_
  refine RO_iload_n dc_Model_walkerNamed_6 rfl rfl ?_
  refine RO_imul dc_Model_walkerNamed_7 ?_
  refine RO_aload_n dc_Model_walkerNamed_8 rfl rfl ?_
  refine RO_getR (b := 205) gf_Model_13 lk_203 rfl dc_Model_walkerNamed_9 ?_
  refine RO_iconst dc_Model_walkerNamed_12 ?_
  refine RO_iload_n dc_Model_walkerNamed_13 rfl rfl ?_
  refine RO_imul dc_Model_walkerNamed_14 ?_
  refine RO_iconst dc_Model_walkerNamed_15 ?_
  refine RO_iadd dc_Model_walkerNamed_16 ?_
  refine RO_chk (fun hi1 => ?_)
  refine RO_ia lk_205 hi1 dc_Model_walkerNamed_17 ?_
  refine RO_aload_n dc_Model_walkerNamed_18 rfl rfl ?_
  refine RO_getL gf_Model_201 lk_203 dc_Model_walkerNamed_19 ?_
  refine RO_callSi (As := [rf 207, vi (w32 (6 * p1)), vi (mem 205 (w32 ((w32 (5 * p1)) + 1)).toNat), vl (mem 203 7)]) (rest := []) mi_Model_named ms_Model_named ml_Model_314 (Nat.le_of_ble_eq_true rfl) rfl (Nat.le_of_ble_eq_true rfl) (fun _ => rfl) dc_Model_walkerNamed_22 (fun rq mq hq => pf_Model_named 12 207 (w32 (6 * p1)) (mem 205 (w32 ((w32 (5 * p1)) + 1)).toNat) (mem 203 7) lk_207 mem hq) (fun r2 m3 => ?_)
  exact RO_iret rfl dc_Model_walkerNamed_25
def fn_Model_hourNamed (p1 : Int) (mem : Mm) : Res := if 0 ≤ w32 ((w32 (5 * p1)) + 2) ∧ w32 ((w32 (5 * p1)) + 2) < 10 then bd (fn_Model_named 12 208 (w32 (6 * p1)) (mem 205 (w32 ((w32 (5 * p1)) + 2)).toNat) (mem 203 7) mem) fun r2 m3 => some (r2, m3) else none
set_option maxHeartbeats 4000000 in
theorem pf_Model_hourNamed {E : EE} (p1 : Int)  (mem : Mm) {r : Int} {mem9 : Mm} (h : fn_Model_hourNamed p1 mem = some (r, mem9)) : MetX E 2 yn_Model_hourNamed cd_Model_hourNamed 2 (some .int) [rf 203, vi p1] mem r mem9 := by
  refine RO_met (y := yn_Model_hourNamed) (by decide +kernel) (Nat.le_of_ble_eq_true rfl) ?_ h
  show RO E mt_Model_hourNamed (fn_Model_hourNamed p1 mem) 0 [(0, rf 203), (1, vi p1)] [] mem
  unfold fn_Model_hourNamed
  refine RO_aload_n dc_Model_hourNamed_0 rfl rfl ?_
  refine RO_getR (b := 208) gf_Model_23 lk_203 rfl dc_Model_hourNamed_1 ?_
  refine RO_bipush dc_Model_hourNamed_4 ?_
  refine RO_iload_n dc_Model_hourNamed_6 rfl rfl ?_
  refine RO_imul dc_Model_hourNamed_7 ?_
  refine RO_aload_n dc_Model_hourNamed_8 rfl rfl ?_
  refine RO_getR (b := 205) gf_Model_13 lk_203 rfl dc_Model_hourNamed_9 ?_
  refine RO_iconst dc_Model_hourNamed_12 ?_
  refine RO_iload_n dc_Model_hourNamed_13 rfl rfl ?_
  refine RO_imul dc_Model_hourNamed_14 ?_
  refine RO_iconst dc_Model_hourNamed_15 ?_
  refine RO_iadd dc_Model_hourNamed_16 ?_
  refine RO_chk (fun hi1 => ?_)
  refine RO_ia lk_205 hi1 dc_Model_hourNamed_17 ?_
  refine RO_aload_n dc_Model_hourNamed_18 rfl rfl ?_
  refine RO_getL gf_Model_201 lk_203 dc_Model_hourNamed_19 ?_
  refine RO_callSi (As := [rf 208, vi (w32 (6 * p1)), vi (mem 205 (w32 ((w32 (5 * p1)) + 2)).toNat), vl (mem 203 7)]) (rest := []) mi_Model_named ms_Model_named ml_Model_314 (Nat.le_of_ble_eq_true rfl) rfl (Nat.le_of_ble_eq_true rfl) (fun _ => rfl) dc_Model_hourNamed_22 (fun rq mq hq => pf_Model_named 12 208 (w32 (6 * p1)) (mem 205 (w32 ((w32 (5 * p1)) + 2)).toNat) (mem 203 7) lk_208 mem hq) (fun r2 m3 => ?_)
  exact RO_iret rfl dc_Model_hourNamed_25
def fn_Model_lays  (mem : Mm) : Res := bd (fn_Model_shifts 10 205 5 mem) fun r1 m2 => bd (fn_Model_shiftsNames 12 206 6 m2) fun r3 m4 => bd (fn_Model_shiftsNames 12 207 6 m4) fun r5 m6 => bd (fn_Model_shiftsNames 12 208 6 m6) fun r7 m8 => bd (fn_Model_shifts 72 209 36 m8) fun r9 m10 => bd (fn_Model_shifts 12 210 6 m10) fun r11 m12 => bd (fn_Model_shifts 12 211 6 m12) fun r13 m14 => bd (fn_Model_shifts 12 212 6 m14) fun r15 m16 => bd (fn_Model_shifts 12 213 6 m16) fun r17 m18 => bd (fn_Model_shifts 48 214 24 m18) fun r19 m20 => bd (fn_Model_shifts 12 215 6 m20) fun r21 m22 => bd (fn_Model_shifts 72 216 36 m22) fun r23 m24 => bd (fn_Model_shifts 72 217 36 m24) fun r25 m26 => bd (fn_Model_shifts 12 218 6 m26) fun r27 m28 => bd (fn_Model_shifts 12 219 6 m28) fun r29 m30 => bd (fn_Model_shifts 12 220 6 m30) fun r31 m32 => bd (fn_Model_shifts 2000 223 1000 m32) fun r33 m34 => bn (mst m34 221 (0 : Int).toNat (w32 ((m34 221 (1 : Int).toNat) - 1000))) fun m35 => bn (mst m35 222 (0 : Int).toNat (w32 ((m35 222 (1 : Int).toNat) - 1000))) fun m36 => some (0, m36)
set_option maxHeartbeats 4000000 in
theorem pf_Model_lays {E : EE}   (mem : Mm) {r : Int} {mem9 : Mm} (h : fn_Model_lays  mem = some (r, mem9)) : MetX E 2 yn_Model_lays cd_Model_lays 1 none [rf 203] mem r mem9 := by
  refine RO_met (y := yn_Model_lays) (by decide +kernel) (Nat.le_of_ble_eq_true rfl) ?_ h
  show RO E mt_Model_lays (fn_Model_lays  mem) 0 [(0, rf 203)] [] mem
  unfold fn_Model_lays
  refine RO_aload_n dc_Model_lays_0 rfl rfl ?_
  refine RO_getR (b := 205) gf_Model_13 lk_203 rfl dc_Model_lays_1 ?_
  refine RO_iconst dc_Model_lays_4 ?_
  refine RO_callSv (As := [rf 205, vi 5]) (rest := []) mi_Model_shifts ms_Model_shifts ml_Model_394 (Nat.le_of_ble_eq_true rfl) rfl (Nat.le_of_ble_eq_true rfl) dc_Model_lays_5 (fun rq mq hq => pf_Model_shifts 10 205 5 lk_205 mem hq) (fun r1 m2 => ?_)
  refine RO_aload_n dc_Model_lays_8 rfl rfl ?_
  refine RO_getR (b := 206) gf_Model_16 lk_203 rfl dc_Model_lays_9 ?_
  refine RO_bipush dc_Model_lays_12 ?_
  refine RO_callSv (As := [rf 206, vi 6]) (rest := []) mi_Model_shiftsNames ms_Model_shiftsNames ml_Model_398 (Nat.le_of_ble_eq_true rfl) rfl (Nat.le_of_ble_eq_true rfl) dc_Model_lays_14 (fun rq mq hq => pf_Model_shiftsNames 12 206 6 lk_206 m2 hq) (fun r3 m4 => ?_)
  refine RO_aload_n dc_Model_lays_17 rfl rfl ?_
  refine RO_getR (b := 207) gf_Model_20 lk_203 rfl dc_Model_lays_18 ?_
  refine RO_bipush dc_Model_lays_21 ?_
  refine RO_callSv (As := [rf 207, vi 6]) (rest := []) mi_Model_shiftsNames ms_Model_shiftsNames ml_Model_398 (Nat.le_of_ble_eq_true rfl) rfl (Nat.le_of_ble_eq_true rfl) dc_Model_lays_23 (fun rq mq hq => pf_Model_shiftsNames 12 207 6 lk_207 m4 hq) (fun r5 m6 => ?_)
  refine RO_aload_n dc_Model_lays_26 rfl rfl ?_
  refine RO_getR (b := 208) gf_Model_23 lk_203 rfl dc_Model_lays_27 ?_
  refine RO_bipush dc_Model_lays_30 ?_
  refine RO_callSv (As := [rf 208, vi 6]) (rest := []) mi_Model_shiftsNames ms_Model_shiftsNames ml_Model_398 (Nat.le_of_ble_eq_true rfl) rfl (Nat.le_of_ble_eq_true rfl) dc_Model_lays_32 (fun rq mq hq => pf_Model_shiftsNames 12 208 6 lk_208 m6 hq) (fun r7 m8 => ?_)
  refine RO_aload_n dc_Model_lays_35 rfl rfl ?_
  refine RO_getR (b := 209) gf_Model_26 lk_203 rfl dc_Model_lays_36 ?_
  refine RO_bipush dc_Model_lays_39 ?_
  refine RO_callSv (As := [rf 209, vi 36]) (rest := []) mi_Model_shifts ms_Model_shifts ml_Model_394 (Nat.le_of_ble_eq_true rfl) rfl (Nat.le_of_ble_eq_true rfl) dc_Model_lays_41 (fun rq mq hq => pf_Model_shifts 72 209 36 lk_209 m8 hq) (fun r9 m10 => ?_)
  refine RO_aload_n dc_Model_lays_44 rfl rfl ?_
  refine RO_getR (b := 210) gf_Model_29 lk_203 rfl dc_Model_lays_45 ?_
  refine RO_bipush dc_Model_lays_48 ?_
  refine RO_callSv (As := [rf 210, vi 6]) (rest := []) mi_Model_shifts ms_Model_shifts ml_Model_394 (Nat.le_of_ble_eq_true rfl) rfl (Nat.le_of_ble_eq_true rfl) dc_Model_lays_50 (fun rq mq hq => pf_Model_shifts 12 210 6 lk_210 m10 hq) (fun r11 m12 => ?_)
  refine RO_aload_n dc_Model_lays_53 rfl rfl ?_
  refine RO_getR (b := 211) gf_Model_32 lk_203 rfl dc_Model_lays_54 ?_
  refine RO_bipush dc_Model_lays_57 ?_
  refine RO_callSv (As := [rf 211, vi 6]) (rest := []) mi_Model_shifts ms_Model_shifts ml_Model_394 (Nat.le_of_ble_eq_true rfl) rfl (Nat.le_of_ble_eq_true rfl) dc_Model_lays_59 (fun rq mq hq => pf_Model_shifts 12 211 6 lk_211 m12 hq) (fun r13 m14 => ?_)
  refine RO_aload_n dc_Model_lays_62 rfl rfl ?_
  refine RO_getR (b := 212) gf_Model_35 lk_203 rfl dc_Model_lays_63 ?_
  refine RO_bipush dc_Model_lays_66 ?_
  refine RO_callSv (As := [rf 212, vi 6]) (rest := []) mi_Model_shifts ms_Model_shifts ml_Model_394 (Nat.le_of_ble_eq_true rfl) rfl (Nat.le_of_ble_eq_true rfl) dc_Model_lays_68 (fun rq mq hq => pf_Model_shifts 12 212 6 lk_212 m14 hq) (fun r15 m16 => ?_)
  refine RO_aload_n dc_Model_lays_71 rfl rfl ?_
  refine RO_getR (b := 213) gf_Model_38 lk_203 rfl dc_Model_lays_72 ?_
  refine RO_bipush dc_Model_lays_75 ?_
  refine RO_callSv (As := [rf 213, vi 6]) (rest := []) mi_Model_shifts ms_Model_shifts ml_Model_394 (Nat.le_of_ble_eq_true rfl) rfl (Nat.le_of_ble_eq_true rfl) dc_Model_lays_77 (fun rq mq hq => pf_Model_shifts 12 213 6 lk_213 m16 hq) (fun r17 m18 => ?_)
  refine RO_aload_n dc_Model_lays_80 rfl rfl ?_
  refine RO_getR (b := 214) gf_Model_41 lk_203 rfl dc_Model_lays_81 ?_
  refine RO_bipush dc_Model_lays_84 ?_
  refine RO_callSv (As := [rf 214, vi 24]) (rest := []) mi_Model_shifts ms_Model_shifts ml_Model_394 (Nat.le_of_ble_eq_true rfl) rfl (Nat.le_of_ble_eq_true rfl) dc_Model_lays_86 (fun rq mq hq => pf_Model_shifts 48 214 24 lk_214 m18 hq) (fun r19 m20 => ?_)
  refine RO_aload_n dc_Model_lays_89 rfl rfl ?_
  refine RO_getR (b := 215) gf_Model_44 lk_203 rfl dc_Model_lays_90 ?_
  refine RO_bipush dc_Model_lays_93 ?_
  refine RO_callSv (As := [rf 215, vi 6]) (rest := []) mi_Model_shifts ms_Model_shifts ml_Model_394 (Nat.le_of_ble_eq_true rfl) rfl (Nat.le_of_ble_eq_true rfl) dc_Model_lays_95 (fun rq mq hq => pf_Model_shifts 12 215 6 lk_215 m20 hq) (fun r21 m22 => ?_)
  refine RO_aload_n dc_Model_lays_98 rfl rfl ?_
  refine RO_getR (b := 216) gf_Model_47 lk_203 rfl dc_Model_lays_99 ?_
  refine RO_bipush dc_Model_lays_102 ?_
  refine RO_callSv (As := [rf 216, vi 36]) (rest := []) mi_Model_shifts ms_Model_shifts ml_Model_394 (Nat.le_of_ble_eq_true rfl) rfl (Nat.le_of_ble_eq_true rfl) dc_Model_lays_104 (fun rq mq hq => pf_Model_shifts 72 216 36 lk_216 m22 hq) (fun r23 m24 => ?_)
  refine RO_aload_n dc_Model_lays_107 rfl rfl ?_
  refine RO_getR (b := 217) gf_Model_50 lk_203 rfl dc_Model_lays_108 ?_
  refine RO_bipush dc_Model_lays_111 ?_
  refine RO_callSv (As := [rf 217, vi 36]) (rest := []) mi_Model_shifts ms_Model_shifts ml_Model_394 (Nat.le_of_ble_eq_true rfl) rfl (Nat.le_of_ble_eq_true rfl) dc_Model_lays_113 (fun rq mq hq => pf_Model_shifts 72 217 36 lk_217 m24 hq) (fun r25 m26 => ?_)
  refine RO_aload_n dc_Model_lays_116 rfl rfl ?_
  refine RO_getR (b := 218) gf_Model_53 lk_203 rfl dc_Model_lays_117 ?_
  refine RO_bipush dc_Model_lays_120 ?_
  refine RO_callSv (As := [rf 218, vi 6]) (rest := []) mi_Model_shifts ms_Model_shifts ml_Model_394 (Nat.le_of_ble_eq_true rfl) rfl (Nat.le_of_ble_eq_true rfl) dc_Model_lays_122 (fun rq mq hq => pf_Model_shifts 12 218 6 lk_218 m26 hq) (fun r27 m28 => ?_)
  refine RO_aload_n dc_Model_lays_125 rfl rfl ?_
  refine RO_getR (b := 219) gf_Model_56 lk_203 rfl dc_Model_lays_126 ?_
  refine RO_bipush dc_Model_lays_129 ?_
  refine RO_callSv (As := [rf 219, vi 6]) (rest := []) mi_Model_shifts ms_Model_shifts ml_Model_394 (Nat.le_of_ble_eq_true rfl) rfl (Nat.le_of_ble_eq_true rfl) dc_Model_lays_131 (fun rq mq hq => pf_Model_shifts 12 219 6 lk_219 m28 hq) (fun r29 m30 => ?_)
  refine RO_aload_n dc_Model_lays_134 rfl rfl ?_
  refine RO_getR (b := 220) gf_Model_59 lk_203 rfl dc_Model_lays_135 ?_
  refine RO_bipush dc_Model_lays_138 ?_
  refine RO_callSv (As := [rf 220, vi 6]) (rest := []) mi_Model_shifts ms_Model_shifts ml_Model_394 (Nat.le_of_ble_eq_true rfl) rfl (Nat.le_of_ble_eq_true rfl) dc_Model_lays_140 (fun rq mq hq => pf_Model_shifts 12 220 6 lk_220 m30 hq) (fun r31 m32 => ?_)
  refine RO_aload_n dc_Model_lays_143 rfl rfl ?_
  refine RO_getR (b := 223) gf_Model_68 lk_203 rfl dc_Model_lays_144 ?_
  refine RO_sipush dc_Model_lays_147 ?_
  refine RO_callSv (As := [rf 223, vi 1000]) (rest := []) mi_Model_shifts ms_Model_shifts ml_Model_394 (Nat.le_of_ble_eq_true rfl) rfl (Nat.le_of_ble_eq_true rfl) dc_Model_lays_150 (fun rq mq hq => pf_Model_shifts 2000 223 1000 lk_223 m32 hq) (fun r33 m34 => ?_)
  refine RO_aload_n dc_Model_lays_153 rfl rfl ?_
  refine RO_getR (b := 221) gf_Model_62 lk_203 rfl dc_Model_lays_154 ?_
  refine RO_iconst dc_Model_lays_157 ?_
  refine RO_aload_n dc_Model_lays_158 rfl rfl ?_
  refine RO_getR (b := 221) gf_Model_62 lk_203 rfl dc_Model_lays_159 ?_
  refine RO_iconst dc_Model_lays_162 ?_
  refine RO_ia lk_221 ⟨by decide, by decide⟩ dc_Model_lays_163 ?_
  refine RO_sipush dc_Model_lays_164 ?_
  refine RO_isub dc_Model_lays_167 ?_
  refine RO_is lk_221 ⟨by decide, by decide⟩ dc_Model_lays_168 ?_
  refine RO_bnM (fun m35 => ?_)
  refine RO_aload_n dc_Model_lays_169 rfl rfl ?_
  refine RO_getR (b := 222) gf_Model_65 lk_203 rfl dc_Model_lays_170 ?_
  refine RO_iconst dc_Model_lays_173 ?_
  refine RO_aload_n dc_Model_lays_174 rfl rfl ?_
  refine RO_getR (b := 222) gf_Model_65 lk_203 rfl dc_Model_lays_175 ?_
  refine RO_iconst dc_Model_lays_178 ?_
  refine RO_ia lk_222 ⟨by decide, by decide⟩ dc_Model_lays_179 ?_
  refine RO_sipush dc_Model_lays_180 ?_
  refine RO_isub dc_Model_lays_183 ?_
  refine RO_is lk_222 ⟨by decide, by decide⟩ dc_Model_lays_184 ?_
  refine RO_bnM (fun m36 => ?_)
  exact RO_vret rfl dc_Model_lays_185
