def fn_Model_thrown  (mem : Mm) : Res := some (mem 203 0, mem)
set_option maxHeartbeats 4000000 in
theorem pf_Model_thrown {E : EE}   (mem : Mm) {r : Int} {mem9 : Mm} (h : fn_Model_thrown  mem = some (r, mem9)) : MetX E 1 yn_Model_thrown cd_Model_thrown 1 (some .int) [rf 203] mem r mem9 := by
  refine RO_met (y := yn_Model_thrown) (by decide +kernel) (Nat.le_of_ble_eq_true rfl) ?_ h
  show RO E mt_Model_thrown (fn_Model_thrown  mem) 0 [(0, rf 203)] [] mem
  unfold fn_Model_thrown
  refine RO_aload_n dc_Model_thrown_0 rfl rfl ?_
  refine RO_getI gf_Model_183 lk_203 dc_Model_thrown_1 ?_
  exact RO_iret rfl dc_Model_thrown_4
def fn_Model_within (p0 : Int) (p1 : Int) (p2 : Int) (mem : Mm) : Res := if p0 < p1 then (some (0, mem)) else (if p2 < p0 then (some (0, mem)) else (some (1, mem)))
set_option maxHeartbeats 4000000 in
theorem pf_Model_within {E : EE} (p0 : Int) (p1 : Int) (p2 : Int)  (mem : Mm) {r : Int} {mem9 : Mm} (h : fn_Model_within p0 p1 p2 mem = some (r, mem9)) : MetX E 1 yn_Model_within cd_Model_within 3 (some .boolean) [vi p0, vi p1, vi p2] mem r mem9 := by
  refine RO_met (y := yn_Model_within) (by decide +kernel) (Nat.le_of_ble_eq_true rfl) ?_ h
  show RO E mt_Model_within (fn_Model_within p0 p1 p2 mem) 0 [(0, vi p0), (1, vi p1), (2, vi p2)] [] mem
  unfold fn_Model_within
  refine RO_iload_n dc_Model_within_0 rfl rfl ?_
  refine RO_iload_n dc_Model_within_1 rfl rfl ?_
  refine RO_icmp_lt (tgt := 14) dc_Model_within_2 rfl ?_ ?_
  · refine RO_iconst dc_Model_within_14 ?_
    exact RO_zret rfl (Or.inl rfl) dc_Model_within_15
  · refine RO_iload_n dc_Model_within_5 rfl rfl ?_
    refine RO_iload_n dc_Model_within_6 rfl rfl ?_
    refine RO_icmp_gt (tgt := 14) dc_Model_within_7 rfl ?_ ?_
    · refine RO_iconst dc_Model_within_14 ?_
      exact RO_zret rfl (Or.inl rfl) dc_Model_within_15
    · refine RO_iconst dc_Model_within_10 ?_
      refine RO_goto (tgt := 15) dc_Model_within_11 rfl ?_
      exact RO_zret rfl (Or.inr rfl) dc_Model_within_15
def fn_Model_between (p0 : Int) (p1 : Int) (p2 : Int) (mem : Mm) : Res := if p0 < p1 then (some (p1, mem)) else (if p2 < p0 then (some (p2, mem)) else (some (p0, mem)))
set_option maxHeartbeats 4000000 in
theorem pf_Model_between {E : EE} (p0 : Int) (p1 : Int) (p2 : Int)  (mem : Mm) {r : Int} {mem9 : Mm} (h : fn_Model_between p0 p1 p2 mem = some (r, mem9)) : MetX E 1 yn_Model_between cd_Model_between 3 (some .int) [vi p0, vi p1, vi p2] mem r mem9 := by
  refine RO_met (y := yn_Model_between) (by decide +kernel) (Nat.le_of_ble_eq_true rfl) ?_ h
  show RO E mt_Model_between (fn_Model_between p0 p1 p2 mem) 0 [(0, vi p0), (1, vi p1), (2, vi p2)] [] mem
  unfold fn_Model_between
  refine RO_iload_n dc_Model_between_0 rfl rfl ?_
  refine RO_iload_n dc_Model_between_1 rfl rfl ?_
  refine RO_icmp_ge (tgt := 9) dc_Model_between_2 rfl ?_ ?_
  · refine RO_iload_n dc_Model_between_5 rfl rfl ?_
    refine RO_goto (tgt := 19) dc_Model_between_6 rfl ?_
    exact RO_iret rfl dc_Model_between_19
  · refine RO_iload_n dc_Model_between_9 rfl rfl ?_
    refine RO_iload_n dc_Model_between_10 rfl rfl ?_
    refine RO_icmp_le (tgt := 18) dc_Model_between_11 rfl ?_ ?_
    · refine RO_iload_n dc_Model_between_14 rfl rfl ?_
      refine RO_goto (tgt := 19) dc_Model_between_15 rfl ?_
      exact RO_iret rfl dc_Model_between_19
    · refine RO_iload_n dc_Model_between_18 rfl rfl ?_
      exact RO_iret rfl dc_Model_between_19
def fn_Model_away (p0 : Int) (p1 : Int) (mem : Mm) : Res := if p0 < p1 then (some (w32 (p1 - p0), mem)) else (some (w32 (p0 - p1), mem))
set_option maxHeartbeats 4000000 in
theorem pf_Model_away {E : EE} (p0 : Int) (p1 : Int)  (mem : Mm) {r : Int} {mem9 : Mm} (h : fn_Model_away p0 p1 mem = some (r, mem9)) : MetX E 1 yn_Model_away cd_Model_away 2 (some .int) [vi p0, vi p1] mem r mem9 := by
  refine RO_met (y := yn_Model_away) (by decide +kernel) (Nat.le_of_ble_eq_true rfl) ?_ h
  show RO E mt_Model_away (fn_Model_away p0 p1 mem) 0 [(0, vi p0), (1, vi p1)] [] mem
  unfold fn_Model_away
  refine RO_iload_n dc_Model_away_0 rfl rfl ?_
  refine RO_iload_n dc_Model_away_1 rfl rfl ?_
  refine RO_icmp_ge (tgt := 11) dc_Model_away_2 rfl ?_ ?_
  · refine RO_iload_n dc_Model_away_5 rfl rfl ?_
    refine RO_iload_n dc_Model_away_6 rfl rfl ?_
    refine RO_isub dc_Model_away_7 ?_
    refine RO_goto (tgt := 14) dc_Model_away_8 rfl ?_
    exact RO_iret rfl dc_Model_away_14
  · refine RO_iload_n dc_Model_away_11 rfl rfl ?_
    refine RO_iload_n dc_Model_away_12 rfl rfl ?_
    refine RO_isub dc_Model_away_13 ?_
    exact RO_iret rfl dc_Model_away_14
def bo_Model_bits_4 (p0 : Int) (k4 : Int → Int → Mm → Res) (v1 : Int) (v2 : Int) (mem : Mm) : Res := if v2 < 6 then (bn (w32 (v1 + (iand (ishr p0 v2) 1))) fun x1 => k4 x1 (w32 (v2 + 1)) mem) else (some (v1, mem))
set_option maxHeartbeats 4000000 in
theorem rb_Model_bits_4 {E : EE} (p0 : Int)  (k4 : Int → Int → Mm → Res) (H4 : ∀ (v1 : Int) (v2 : Int)  (mem : Mm), RO E mt_Model_bits (k4 v1 v2 mem) 4 [(0, vi p0), (1, vi v1), (2, vi v2)] [] mem) (v1 : Int) (v2 : Int)  (mem : Mm) : RO E mt_Model_bits (bo_Model_bits_4 p0 k4 v1 v2 mem) 4 [(0, vi p0), (1, vi v1), (2, vi v2)] [] mem := by
  unfold bo_Model_bits_4
  refine RO_iload_n dc_Model_bits_4 rfl rfl ?_
  refine RO_bipush dc_Model_bits_5 ?_
  refine RO_icmp_ge (tgt := 24) dc_Model_bits_7 rfl ?_ ?_
  · refine RO_iload_n dc_Model_bits_10 rfl rfl ?_
    refine RO_iload_n dc_Model_bits_11 rfl rfl ?_
    refine RO_iload_n dc_Model_bits_12 rfl rfl ?_
    refine RO_ishr dc_Model_bits_13 ?_
    refine RO_iconst dc_Model_bits_14 ?_
    refine RO_iand dc_Model_bits_15 ?_
    refine RO_iadd dc_Model_bits_16 ?_
    refine RO_bnT (fun x1 => ?_)
    refine RO_istore_n dc_Model_bits_17 rfl (Nat.le_of_ble_eq_true rfl) ?_
    refine RO_iinc dc_Model_bits_18 rfl (Nat.le_of_ble_eq_true rfl) ?_
    refine RO_goto (tgt := 4) dc_Model_bits_21 rfl ?_
    refine RO_sub ?_ (H4 x1 (w32 (v2 + 1)) mem)
    exact ⟨rfl, rfl, rfl, trivial⟩
  · refine RO_iload_n dc_Model_bits_24 rfl rfl ?_
    exact RO_iret rfl dc_Model_bits_25
def lp_Model_bits_4 (p0 : Int)  : Nat → Int → Int → Mm → Res
  | 0 => fun _ _ _ => none
  | n + 1 => bo_Model_bits_4 p0  (lp_Model_bits_4 p0  n)
theorem rp_Model_bits_4 {E : EE} (p0 : Int)    : ∀ (n : Nat) (v1 : Int) (v2 : Int)  (mem : Mm), RO E mt_Model_bits (lp_Model_bits_4 p0  n v1 v2 mem) 4 [(0, vi p0), (1, vi v1), (2, vi v2)] [] mem := by
  intro n
  induction n with
  | zero => intro v1 v2  mem; exact RO_none
  | succ n ih => intro v1 v2  mem; exact rb_Model_bits_4 p0   (lp_Model_bits_4 p0  n)  ih v1 v2  mem
def fn_Model_bits (p0 : Int) (mem : Mm) : Res := lp_Model_bits_4 p0 FU 0 0 mem
set_option maxHeartbeats 4000000 in
theorem pf_Model_bits {E : EE} (p0 : Int)  (mem : Mm) {r : Int} {mem9 : Mm} (h : fn_Model_bits p0 mem = some (r, mem9)) : MetX E 1 yn_Model_bits cd_Model_bits 3 (some .int) [vi p0] mem r mem9 := by
  refine RO_met (y := yn_Model_bits) (by decide +kernel) (Nat.le_of_ble_eq_true rfl) ?_ h
  show RO E mt_Model_bits (fn_Model_bits p0 mem) 0 [(0, vi p0)] [] mem
  unfold fn_Model_bits
  refine RO_iconst dc_Model_bits_0 ?_
  refine RO_istore_n dc_Model_bits_1 rfl (Nat.le_of_ble_eq_true rfl) ?_
  refine RO_iconst dc_Model_bits_2 ?_
  refine RO_istore_n dc_Model_bits_3 rfl (Nat.le_of_ble_eq_true rfl) ?_
  refine RO_sub ?_ (rp_Model_bits_4 p0 FU 0 0 mem)
  exact ⟨rfl, rfl, rfl, trivial⟩
def bo_Model_feed_114 (p1 : Int) (p3 : Int) (p5 : Int) (k8 : Int → Mm → Res) (v7 : Int) (mem : Mm) : Res := k8 (w32 (v7 + 1)) mem
set_option maxHeartbeats 4000000 in
theorem rb_Model_feed_114 {E : EE} (p1 : Int) (p3 : Int) (p5 : Int)  (k8 : Int → Mm → Res) (H8 : ∀ (v7 : Int)  (mem : Mm), RO E mt_Model_feed (k8 v7 mem) 8 [(0, rf 203), (1, vl p1), (3, vl p3), (5, vl p5), (7, vi v7)] [] mem) (v7 : Int)  (mem : Mm) : RO E mt_Model_feed (bo_Model_feed_114 p1 p3 p5 k8 v7 mem) 114 [(0, rf 203), (1, vl p1), (3, vl p3), (5, vl p5), (7, vi v7)] [] mem := by
  unfold bo_Model_feed_114
  refine RO_iinc dc_Model_feed_114 rfl (Nat.le_of_ble_eq_true rfl) ?_
  refine RO_goto (tgt := 8) dc_Model_feed_117 rfl ?_
  refine RO_sub ?_ (H8 (w32 (v7 + 1)) mem)
  exact ⟨rfl, rfl, rfl, rfl, rfl, trivial⟩
def bo_Model_feed_93 (p1 : Int) (p3 : Int) (p5 : Int) (k8 : Int → Mm → Res) (v7 : Int) (v10 : Int) (mem : Mm) : Res := if 0 ≤ mem 203 1 ∧ mem 203 1 < 1000 then bn (mst mem 204 (mem 203 1).toNat v10) fun m2 => bn (mst m2 203 1 (w32 ((m2 203 1) + 1))) fun m3 => bo_Model_feed_114 p1 p3 p5 k8 v7 m3 else none
set_option maxHeartbeats 4000000 in
theorem rb_Model_feed_93 {E : EE} (p1 : Int) (p3 : Int) (p5 : Int)  (k8 : Int → Mm → Res) (H8 : ∀ (v7 : Int)  (mem : Mm), RO E mt_Model_feed (k8 v7 mem) 8 [(0, rf 203), (1, vl p1), (3, vl p3), (5, vl p5), (7, vi v7)] [] mem) (v7 : Int) (v10 : Int)  (mem : Mm) : RO E mt_Model_feed (bo_Model_feed_93 p1 p3 p5 k8 v7 v10 mem) 93 [(0, rf 203), (1, vl p1), (3, vl p3), (5, vl p5), (7, vi v7), (10, vi v10)] [] mem := by
  unfold bo_Model_feed_93
  refine RO_aload_n dc_Model_feed_93 rfl rfl ?_
  refine RO_getR (b := 204) gf_Model_7 lk_203 rfl dc_Model_feed_94 ?_
  refine RO_aload_n dc_Model_feed_97 rfl rfl ?_
  refine RO_getI gf_Model_189 lk_203 dc_Model_feed_98 ?_
  refine RO_iload dc_Model_feed_101 rfl ?_
  refine RO_chk (fun hi1 => ?_)
  refine RO_is lk_204 hi1 dc_Model_feed_103 ?_
  refine RO_bnM (fun m2 => ?_)
  refine RO_aload_n dc_Model_feed_104 rfl rfl ?_
  refine RO_dup dc_Model_feed_105 (nt2 _) ?_
  refine RO_getI gf_Model_189 lk_203 dc_Model_feed_106 ?_
  refine RO_iconst dc_Model_feed_109 ?_
  refine RO_iadd dc_Model_feed_110 ?_
  refine RO_putI gp_Model_189 lk_203 dc_Model_feed_111 ?_
  refine RO_bnM (fun m3 => ?_)
  refine RO_sub ?_ (rb_Model_feed_114 p1 p3 p5 k8 H8 v7 m3)
  exact ⟨rfl, rfl, rfl, rfl, rfl, trivial⟩
def bo_Model_feed_39 (p1 : Int) (p3 : Int) (p5 : Int) (k8 : Int → Mm → Res) (v7 : Int) (s0 : Int) (mem : Mm) : Res := bn (w32 (land (lushr s0 (w32 (56 - (w32 (8 * (iand v7 7)))))) 255)) fun x1 => if (mem 203 1) < 1000 then (if x1 = 10 then (bo_Model_feed_93 p1 p3 p5 k8 v7 x1 mem) else (if x1 < 32 then (bo_Model_feed_114 p1 p3 p5 k8 v7 mem) else (if 126 < x1 then (bo_Model_feed_114 p1 p3 p5 k8 v7 mem) else (bo_Model_feed_93 p1 p3 p5 k8 v7 x1 mem)))) else (bo_Model_feed_114 p1 p3 p5 k8 v7 mem)
set_option maxHeartbeats 4000000 in
theorem rb_Model_feed_39 {E : EE} (p1 : Int) (p3 : Int) (p5 : Int)  (k8 : Int → Mm → Res) (H8 : ∀ (v7 : Int)  (mem : Mm), RO E mt_Model_feed (k8 v7 mem) 8 [(0, rf 203), (1, vl p1), (3, vl p3), (5, vl p5), (7, vi v7)] [] mem) (v7 : Int) (s0 : Int)  (mem : Mm) : RO E mt_Model_feed (bo_Model_feed_39 p1 p3 p5 k8 v7 s0 mem) 39 [(0, rf 203), (1, vl p1), (3, vl p3), (5, vl p5), (7, vi v7)] [vl s0] mem := by
  unfold bo_Model_feed_39
  refine RO_lstore dc_Model_feed_39 (Nat.le_of_ble_eq_true rfl) ?_
  refine RO_lload dc_Model_feed_41 rfl ?_
  refine RO_bipush dc_Model_feed_43 ?_
  refine RO_bipush dc_Model_feed_45 ?_
  refine RO_iload dc_Model_feed_47 rfl ?_
  refine RO_bipush dc_Model_feed_49 ?_
  refine RO_iand dc_Model_feed_51 ?_
  refine RO_imul dc_Model_feed_52 ?_
  refine RO_isub dc_Model_feed_53 ?_
  refine RO_lushr dc_Model_feed_54 ?_
  refine RO_ldc2 (x := 255) c2_Model_187 ⟨by decide, ⟨by decide, by decide⟩⟩ dc_Model_feed_55 ?_
  refine RO_land dc_Model_feed_58 ?_
  refine RO_l2i dc_Model_feed_59 ?_
  refine RO_bnT (fun x1 => ?_)
  refine RO_istore dc_Model_feed_60 (Nat.le_of_ble_eq_true rfl) ?_
  refine RO_aload_n dc_Model_feed_62 rfl rfl ?_
  refine RO_getI gf_Model_189 lk_203 dc_Model_feed_63 ?_
  refine RO_sipush dc_Model_feed_66 ?_
  refine RO_icmp_ge (tgt := 114) dc_Model_feed_69 rfl ?_ ?_
  · refine RO_iload dc_Model_feed_72 rfl ?_
    refine RO_bipush dc_Model_feed_74 ?_
    refine RO_icmp_eq (tgt := 93) dc_Model_feed_76 rfl ?_ ?_
    · refine RO_sub ?_ (rb_Model_feed_93 p1 p3 p5 k8 H8 v7 x1 mem)
      exact ⟨rfl, rfl, rfl, rfl, rfl, rfl, trivial⟩
    · refine RO_iload dc_Model_feed_79 rfl ?_
      refine RO_bipush dc_Model_feed_81 ?_
      refine RO_icmp_lt (tgt := 114) dc_Model_feed_83 rfl ?_ ?_
      · refine RO_sub ?_ (rb_Model_feed_114 p1 p3 p5 k8 H8 v7 mem)
        exact ⟨rfl, rfl, rfl, rfl, rfl, trivial⟩
      · refine RO_iload dc_Model_feed_86 rfl ?_
        refine RO_bipush dc_Model_feed_88 ?_
        refine RO_icmp_gt (tgt := 114) dc_Model_feed_90 rfl ?_ ?_
        · refine RO_sub ?_ (rb_Model_feed_114 p1 p3 p5 k8 H8 v7 mem)
          exact ⟨rfl, rfl, rfl, rfl, rfl, trivial⟩
        · refine RO_sub ?_ (rb_Model_feed_93 p1 p3 p5 k8 H8 v7 x1 mem)
          exact ⟨rfl, rfl, rfl, rfl, rfl, rfl, trivial⟩
  · refine RO_sub ?_ (rb_Model_feed_114 p1 p3 p5 k8 H8 v7 mem)
    exact ⟨rfl, rfl, rfl, rfl, rfl, trivial⟩
def bo_Model_feed_8 (p1 : Int) (p3 : Int) (p5 : Int) (k8 : Int → Mm → Res) (v7 : Int) (mem : Mm) : Res := if v7 < 24 then (if v7 < 8 then (bo_Model_feed_39 p1 p3 p5 k8 v7 p1 mem) else (if v7 < 16 then (bo_Model_feed_39 p1 p3 p5 k8 v7 p3 mem) else (bo_Model_feed_39 p1 p3 p5 k8 v7 p5 mem))) else (some (mem 203 1, mem))
set_option maxHeartbeats 4000000 in
theorem rb_Model_feed_8 {E : EE} (p1 : Int) (p3 : Int) (p5 : Int)  (k8 : Int → Mm → Res) (H8 : ∀ (v7 : Int)  (mem : Mm), RO E mt_Model_feed (k8 v7 mem) 8 [(0, rf 203), (1, vl p1), (3, vl p3), (5, vl p5), (7, vi v7)] [] mem) (v7 : Int)  (mem : Mm) : RO E mt_Model_feed (bo_Model_feed_8 p1 p3 p5 k8 v7 mem) 8 [(0, rf 203), (1, vl p1), (3, vl p3), (5, vl p5), (7, vi v7)] [] mem := by
  unfold bo_Model_feed_8
  refine RO_iload dc_Model_feed_8 rfl ?_
  refine RO_bipush dc_Model_feed_10 ?_
  refine RO_icmp_ge (tgt := 120) dc_Model_feed_12 rfl ?_ ?_
  · refine RO_iload dc_Model_feed_15 rfl ?_
    refine RO_bipush dc_Model_feed_17 ?_
    refine RO_icmp_ge (tgt := 26) dc_Model_feed_19 rfl ?_ ?_
    · refine RO_lload_n dc_Model_feed_22 rfl rfl ?_
      refine RO_goto (tgt := 39) dc_Model_feed_23 rfl ?_
      refine RO_sub ?_ (rb_Model_feed_39 p1 p3 p5 k8 H8 v7 p1 mem)
      exact ⟨rfl, rfl, rfl, rfl, rfl, trivial⟩
    · refine RO_iload dc_Model_feed_26 rfl ?_
      refine RO_bipush dc_Model_feed_28 ?_
      refine RO_icmp_ge (tgt := 37) dc_Model_feed_30 rfl ?_ ?_
      · refine RO_lload_n dc_Model_feed_33 rfl rfl ?_
        refine RO_goto (tgt := 39) dc_Model_feed_34 rfl ?_
        refine RO_sub ?_ (rb_Model_feed_39 p1 p3 p5 k8 H8 v7 p3 mem)
        exact ⟨rfl, rfl, rfl, rfl, rfl, trivial⟩
      · refine RO_lload dc_Model_feed_37 rfl ?_
        refine RO_sub ?_ (rb_Model_feed_39 p1 p3 p5 k8 H8 v7 p5 mem)
        exact ⟨rfl, rfl, rfl, rfl, rfl, trivial⟩
  · refine RO_aload_n dc_Model_feed_120 rfl rfl ?_
    refine RO_getI gf_Model_189 lk_203 dc_Model_feed_121 ?_
    exact RO_iret rfl dc_Model_feed_124
def lp_Model_feed_8 (p1 : Int) (p3 : Int) (p5 : Int)  : Nat → Int → Mm → Res
  | 0 => fun _ _ => none
  | n + 1 => bo_Model_feed_8 p1 p3 p5  (lp_Model_feed_8 p1 p3 p5  n)
theorem rp_Model_feed_8 {E : EE} (p1 : Int) (p3 : Int) (p5 : Int)    : ∀ (n : Nat) (v7 : Int)  (mem : Mm), RO E mt_Model_feed (lp_Model_feed_8 p1 p3 p5  n v7 mem) 8 [(0, rf 203), (1, vl p1), (3, vl p3), (5, vl p5), (7, vi v7)] [] mem := by
  intro n
  induction n with
  | zero => intro v7  mem; exact RO_none
  | succ n ih => intro v7  mem; exact rb_Model_feed_8 p1 p3 p5   (lp_Model_feed_8 p1 p3 p5  n)  ih v7  mem
def fn_Model_feed (p1 : Int) (p3 : Int) (p5 : Int) (mem : Mm) : Res := bn (mst mem 203 0 0) fun m1 => lp_Model_feed_8 p1 p3 p5 FU 0 m1
set_option maxHeartbeats 4000000 in
theorem pf_Model_feed {E : EE} (p1 : Int) (p3 : Int) (p5 : Int)  (mem : Mm) {r : Int} {mem9 : Mm} (h : fn_Model_feed p1 p3 p5 mem = some (r, mem9)) : MetX E 1 yn_Model_feed cd_Model_feed 11 (some .int) [rf 203, vl p1, vl p3, vl p5] mem r mem9 := by
  refine RO_met (y := yn_Model_feed) (by decide +kernel) (Nat.le_of_ble_eq_true rfl) ?_ h
  show RO E mt_Model_feed (fn_Model_feed p1 p3 p5 mem) 0 [(0, rf 203), (1, vl p1), (3, vl p3), (5, vl p5)] [] mem
  unfold fn_Model_feed
  refine RO_aload_n dc_Model_feed_0 rfl rfl ?_
  refine RO_iconst dc_Model_feed_1 ?_
  refine RO_putI gp_Model_183 lk_203 dc_Model_feed_2 ?_
  refine RO_bnM (fun m1 => ?_)
  refine RO_iconst dc_Model_feed_5 ?_
  refine RO_istore dc_Model_feed_6 (Nat.le_of_ble_eq_true rfl) ?_
  refine RO_sub ?_ (rp_Model_feed_8 p1 p3 p5 FU 0 m1)
  exact ⟨rfl, rfl, rfl, rfl, rfl, trivial⟩
def fn_Model_signAt (p1 : Int) (mem : Mm) : Res := if p1 < (mem 203 3) then (if 0 ≤ p1 ∧ p1 < 1000 then some (mem 204 p1.toNat, mem) else none) else (some (0, mem))
set_option maxHeartbeats 4000000 in
theorem pf_Model_signAt {E : EE} (p1 : Int)  (mem : Mm) {r : Int} {mem9 : Mm} (h : fn_Model_signAt p1 mem = some (r, mem9)) : MetX E 1 yn_Model_signAt cd_Model_signAt 2 (some .int) [rf 203, vi p1] mem r mem9 := by
  refine RO_met (y := yn_Model_signAt) (by decide +kernel) (Nat.le_of_ble_eq_true rfl) ?_ h
  show RO E mt_Model_signAt (fn_Model_signAt p1 mem) 0 [(0, rf 203), (1, vi p1)] [] mem
  unfold fn_Model_signAt
  refine RO_iload_n dc_Model_signAt_0 rfl rfl ?_
  refine RO_aload_n dc_Model_signAt_1 rfl rfl ?_
  refine RO_getI gf_Model_192 lk_203 dc_Model_signAt_2 ?_
  refine RO_icmp_ge (tgt := 17) dc_Model_signAt_5 rfl ?_ ?_
  · refine RO_aload_n dc_Model_signAt_8 rfl rfl ?_
    refine RO_getR (b := 204) gf_Model_7 lk_203 rfl dc_Model_signAt_9 ?_
    refine RO_iload_n dc_Model_signAt_12 rfl rfl ?_
    refine RO_chk (fun hi1 => ?_)
    refine RO_ia lk_204 hi1 dc_Model_signAt_13 ?_
    refine RO_goto (tgt := 18) dc_Model_signAt_14 rfl ?_
    exact RO_iret rfl dc_Model_signAt_18
  · refine RO_iconst dc_Model_signAt_17 ?_
    exact RO_iret rfl dc_Model_signAt_18
def fn_Model_isWord (p1 : Int) (mem : Mm) : Res := if (mem 203 6) = 1 then (if (lcm (mem 203 7) p1) = 0 then (some (1, mem)) else (some (0, mem))) else (some (0, mem))
set_option maxHeartbeats 4000000 in
theorem pf_Model_isWord {E : EE} (p1 : Int)  (mem : Mm) {r : Int} {mem9 : Mm} (h : fn_Model_isWord p1 mem = some (r, mem9)) : MetX E 1 yn_Model_isWord cd_Model_isWord 3 (some .boolean) [rf 203, vl p1] mem r mem9 := by
  refine RO_met (y := yn_Model_isWord) (by decide +kernel) (Nat.le_of_ble_eq_true rfl) ?_ h
  show RO E mt_Model_isWord (fn_Model_isWord p1 mem) 0 [(0, rf 203), (1, vl p1)] [] mem
  unfold fn_Model_isWord
  refine RO_aload_n dc_Model_isWord_0 rfl rfl ?_
  refine RO_getI gf_Model_208 lk_203 dc_Model_isWord_1 ?_
  refine RO_iconst dc_Model_isWord_4 ?_
  refine RO_icmp_ne (tgt := 21) dc_Model_isWord_5 rfl ?_ ?_
  · refine RO_aload_n dc_Model_isWord_8 rfl rfl ?_
    refine RO_getL gf_Model_201 lk_203 dc_Model_isWord_9 ?_
    refine RO_lload_n dc_Model_isWord_12 rfl rfl ?_
    refine RO_lcmp dc_Model_isWord_13 ?_
    refine RO_if_ne (tgt := 21) dc_Model_isWord_14 rfl ?_ ?_
    · refine RO_iconst dc_Model_isWord_17 ?_
      refine RO_goto (tgt := 22) dc_Model_isWord_18 rfl ?_
      exact RO_zret rfl (Or.inr rfl) dc_Model_isWord_22
    · refine RO_iconst dc_Model_isWord_21 ?_
      exact RO_zret rfl (Or.inl rfl) dc_Model_isWord_22
  · refine RO_iconst dc_Model_isWord_21 ?_
    exact RO_zret rfl (Or.inl rfl) dc_Model_isWord_22
def fn_Model_isSign (p1 : Int) (mem : Mm) : Res := if (mem 203 6) = 3 then (if 0 ≤ mem 203 5 ∧ mem 203 5 < 1000 then if (mem 204 (mem 203 5).toNat) = p1 then (some (1, mem)) else (some (0, mem)) else none) else (some (0, mem))
set_option maxHeartbeats 4000000 in
theorem pf_Model_isSign {E : EE} (p1 : Int)  (mem : Mm) {r : Int} {mem9 : Mm} (h : fn_Model_isSign p1 mem = some (r, mem9)) : MetX E 1 yn_Model_isSign cd_Model_isSign 2 (some .boolean) [rf 203, vi p1] mem r mem9 := by
  refine RO_met (y := yn_Model_isSign) (by decide +kernel) (Nat.le_of_ble_eq_true rfl) ?_ h
  show RO E mt_Model_isSign (fn_Model_isSign p1 mem) 0 [(0, rf 203), (1, vi p1)] [] mem
  unfold fn_Model_isSign
  refine RO_aload_n dc_Model_isSign_0 rfl rfl ?_
  refine RO_getI gf_Model_208 lk_203 dc_Model_isSign_1 ?_
  refine RO_iconst dc_Model_isSign_4 ?_
  refine RO_icmp_ne (tgt := 25) dc_Model_isSign_5 rfl ?_ ?_
  · refine RO_aload_n dc_Model_isSign_8 rfl rfl ?_
    refine RO_getR (b := 204) gf_Model_7 lk_203 rfl dc_Model_isSign_9 ?_
    refine RO_aload_n dc_Model_isSign_12 rfl rfl ?_
    refine RO_getI gf_Model_198 lk_203 dc_Model_isSign_13 ?_
    refine RO_chk (fun hi1 => ?_)
    refine RO_ia lk_204 hi1 dc_Model_isSign_16 ?_
    refine RO_iload_n dc_Model_isSign_17 rfl rfl ?_
    refine RO_icmp_ne (tgt := 25) dc_Model_isSign_18 rfl ?_ ?_
    · refine RO_iconst dc_Model_isSign_21 ?_
      refine RO_goto (tgt := 26) dc_Model_isSign_22 rfl ?_
      exact RO_zret rfl (Or.inr rfl) dc_Model_isSign_26
    · refine RO_iconst dc_Model_isSign_25 ?_
      exact RO_zret rfl (Or.inl rfl) dc_Model_isSign_26
  · refine RO_iconst dc_Model_isSign_25 ?_
    exact RO_zret rfl (Or.inl rfl) dc_Model_isSign_26
def fn_Model_fails (p1 : Int) (mem : Mm) : Res := bn (mst mem 203 9 (w32 (p1 + (w32 (16 * (mem 203 5)))))) fun m1 => some (0, m1)
set_option maxHeartbeats 4000000 in
theorem pf_Model_fails {E : EE} (p1 : Int)  (mem : Mm) {r : Int} {mem9 : Mm} (h : fn_Model_fails p1 mem = some (r, mem9)) : MetX E 1 yn_Model_fails cd_Model_fails 2 (some .boolean) [rf 203, vi p1] mem r mem9 := by
  refine RO_met (y := yn_Model_fails) (by decide +kernel) (Nat.le_of_ble_eq_true rfl) ?_ h
  show RO E mt_Model_fails (fn_Model_fails p1 mem) 0 [(0, rf 203), (1, vi p1)] [] mem
  unfold fn_Model_fails
  refine RO_aload_n dc_Model_fails_0 rfl rfl ?_
  refine RO_iload_n dc_Model_fails_1 rfl rfl ?_
  refine RO_bipush dc_Model_fails_2 ?_
  refine RO_aload_n dc_Model_fails_4 rfl rfl ?_
  refine RO_getI gf_Model_198 lk_203 dc_Model_fails_5 ?_
  refine RO_imul dc_Model_fails_8 ?_
  refine RO_iadd dc_Model_fails_9 ?_
  refine RO_putI gp_Model_219 lk_203 dc_Model_fails_10 ?_
  refine RO_bnM (fun m1 => ?_)
  refine RO_iconst dc_Model_fails_13 ?_
  exact RO_zret rfl (Or.inl rfl) dc_Model_fails_14
def fn_Model_puts (p1 : Int) (mem : Mm) : Res := if 0 ≤ mem 203 29 ∧ mem 203 29 < 2000 then bn (mst mem 223 (mem 203 29).toNat p1) fun m2 => bn (mst m2 203 29 (w32 ((m2 203 29) + 1))) fun m3 => some (0, m3) else none
set_option maxHeartbeats 4000000 in
theorem pf_Model_puts {E : EE} (p1 : Int)  (mem : Mm) {r : Int} {mem9 : Mm} (h : fn_Model_puts p1 mem = some (r, mem9)) : MetX E 1 yn_Model_puts cd_Model_puts 2 none [rf 203, vi p1] mem r mem9 := by
  refine RO_met (y := yn_Model_puts) (by decide +kernel) (Nat.le_of_ble_eq_true rfl) ?_ h
  show RO E mt_Model_puts (fn_Model_puts p1 mem) 0 [(0, rf 203), (1, vi p1)] [] mem
  unfold fn_Model_puts
  refine RO_aload_n dc_Model_puts_0 rfl rfl ?_
  refine RO_getR (b := 223) gf_Model_68 lk_203 rfl dc_Model_puts_1 ?_
  refine RO_aload_n dc_Model_puts_4 rfl rfl ?_
  refine RO_getI gf_Model_222 lk_203 dc_Model_puts_5 ?_
  refine RO_iload_n dc_Model_puts_8 rfl rfl ?_
  refine RO_chk (fun hi1 => ?_)
  refine RO_is lk_223 hi1 dc_Model_puts_9 ?_
  refine RO_bnM (fun m2 => ?_)
  refine RO_aload_n dc_Model_puts_10 rfl rfl ?_
  refine RO_dup dc_Model_puts_11 (nt2 _) ?_
  refine RO_getI gf_Model_222 lk_203 dc_Model_puts_12 ?_
  refine RO_iconst dc_Model_puts_15 ?_
  refine RO_iadd dc_Model_puts_16 ?_
  refine RO_putI gp_Model_222 lk_203 dc_Model_puts_17 ?_
  refine RO_bnM (fun m3 => ?_)
  exact RO_vret rfl dc_Model_puts_20
def fn_Model_fact  (mem : Mm) : Res := if (mem 203 6) = 1 then (if (lcm (mem 203 7) 11103) = 0 then (some (1, mem)) else (if (lcm (mem 203 7) 286880) = 0 then (some (2, mem)) else (if (lcm (mem 203 7) 80155) = 0 then (some (3, mem)) else (some (0, mem))))) else (some (0, mem))
set_option maxHeartbeats 4000000 in
theorem pf_Model_fact {E : EE}   (mem : Mm) {r : Int} {mem9 : Mm} (h : fn_Model_fact  mem = some (r, mem9)) : MetX E 1 yn_Model_fact cd_Model_fact 1 (some .int) [rf 203] mem r mem9 := by
  refine RO_met (y := yn_Model_fact) (by decide +kernel) (Nat.le_of_ble_eq_true rfl) ?_ h
  show RO E mt_Model_fact (fn_Model_fact  mem) 0 [(0, rf 203)] [] mem
  unfold fn_Model_fact
  refine RO_aload_n dc_Model_fact_0 rfl rfl ?_
  refine RO_getI gf_Model_208 lk_203 dc_Model_fact_1 ?_
  refine RO_iconst dc_Model_fact_4 ?_
  refine RO_icmp_eq (tgt := 10) dc_Model_fact_5 rfl ?_ ?_
  · refine RO_aload_n dc_Model_fact_10 rfl rfl ?_
    refine RO_getL gf_Model_201 lk_203 dc_Model_fact_11 ?_
    refine RO_ldc2 (x := 11103) c2_Model_225 ⟨by decide, ⟨by decide, by decide⟩⟩ dc_Model_fact_14 ?_
    refine RO_lcmp dc_Model_fact_17 ?_
    refine RO_if_ne (tgt := 25) dc_Model_fact_18 rfl ?_ ?_
    · refine RO_iconst dc_Model_fact_21 ?_
      refine RO_goto (tgt := 56) dc_Model_fact_22 rfl ?_
      exact RO_iret rfl dc_Model_fact_56
    · refine RO_aload_n dc_Model_fact_25 rfl rfl ?_
      refine RO_getL gf_Model_201 lk_203 dc_Model_fact_26 ?_
      refine RO_ldc2 (x := 286880) c2_Model_227 ⟨by decide, ⟨by decide, by decide⟩⟩ dc_Model_fact_29 ?_
      refine RO_lcmp dc_Model_fact_32 ?_
      refine RO_if_ne (tgt := 40) dc_Model_fact_33 rfl ?_ ?_
      · refine RO_iconst dc_Model_fact_36 ?_
        refine RO_goto (tgt := 56) dc_Model_fact_37 rfl ?_
        exact RO_iret rfl dc_Model_fact_56
      · refine RO_aload_n dc_Model_fact_40 rfl rfl ?_
        refine RO_getL gf_Model_201 lk_203 dc_Model_fact_41 ?_
        refine RO_ldc2 (x := 80155) c2_Model_229 ⟨by decide, ⟨by decide, by decide⟩⟩ dc_Model_fact_44 ?_
        refine RO_lcmp dc_Model_fact_47 ?_
        refine RO_if_ne (tgt := 55) dc_Model_fact_48 rfl ?_ ?_
        · refine RO_iconst dc_Model_fact_51 ?_
          refine RO_goto (tgt := 56) dc_Model_fact_52 rfl ?_
          exact RO_iret rfl dc_Model_fact_56
        · refine RO_iconst dc_Model_fact_55 ?_
          exact RO_iret rfl dc_Model_fact_56
  · refine RO_iconst dc_Model_fact_8 ?_
    exact RO_iret rfl dc_Model_fact_9
def fn_Model_opens (p1 : Int) (mem : Mm) : Res := if 0 ≤ p1 ∧ p1 < 7 then bn (mst mem 227 p1.toNat 0) fun m2 => if 0 ≤ p1 ∧ p1 < 7 then bn (mst m2 229 p1.toNat 0) fun m4 => if 0 ≤ p1 ∧ p1 < 7 then bn (mst m4 230 p1.toNat 0) fun m6 => if 0 ≤ p1 ∧ p1 < 7 then bn (mst m6 231 p1.toNat 20) fun m8 => if 0 ≤ p1 ∧ p1 < 7 then bn (mst m8 233 p1.toNat 0) fun m10 => some (0, m10) else none else none else none else none else none
set_option maxHeartbeats 4000000 in
theorem pf_Model_opens {E : EE} (p1 : Int)  (mem : Mm) {r : Int} {mem9 : Mm} (h : fn_Model_opens p1 mem = some (r, mem9)) : MetX E 1 yn_Model_opens cd_Model_opens 2 none [rf 203, vi p1] mem r mem9 := by
  refine RO_met (y := yn_Model_opens) (by decide +kernel) (Nat.le_of_ble_eq_true rfl) ?_ h
  show RO E mt_Model_opens (fn_Model_opens p1 mem) 0 [(0, rf 203), (1, vi p1)] [] mem
  unfold fn_Model_opens
  refine RO_aload_n dc_Model_opens_0 rfl rfl ?_
  refine RO_getR (b := 227) gf_Model_81 lk_203 rfl dc_Model_opens_1 ?_
  refine RO_iload_n dc_Model_opens_4 rfl rfl ?_
  refine RO_iconst dc_Model_opens_5 ?_
  refine RO_chk (fun hi1 => ?_)
  refine RO_is lk_227 hi1 dc_Model_opens_6 ?_
  refine RO_bnM (fun m2 => ?_)
  refine RO_aload_n dc_Model_opens_7 rfl rfl ?_
  refine RO_getR (b := 229) gf_Model_87 lk_203 rfl dc_Model_opens_8 ?_
  refine RO_iload_n dc_Model_opens_11 rfl rfl ?_
  refine RO_iconst dc_Model_opens_12 ?_
  refine RO_chk (fun hi3 => ?_)
  refine RO_is lk_229 hi3 dc_Model_opens_13 ?_
  refine RO_bnM (fun m4 => ?_)
  refine RO_aload_n dc_Model_opens_14 rfl rfl ?_
  refine RO_getR (b := 230) gf_Model_90 lk_203 rfl dc_Model_opens_15 ?_
  refine RO_iload_n dc_Model_opens_18 rfl rfl ?_
  refine RO_iconst dc_Model_opens_19 ?_
  refine RO_chk (fun hi5 => ?_)
  refine RO_is lk_230 hi5 dc_Model_opens_20 ?_
  refine RO_bnM (fun m6 => ?_)
  refine RO_aload_n dc_Model_opens_21 rfl rfl ?_
  refine RO_getR (b := 231) gf_Model_93 lk_203 rfl dc_Model_opens_22 ?_
  refine RO_iload_n dc_Model_opens_25 rfl rfl ?_
  refine RO_bipush dc_Model_opens_26 ?_
  refine RO_chk (fun hi7 => ?_)
  refine RO_is lk_231 hi7 dc_Model_opens_28 ?_
  refine RO_bnM (fun m8 => ?_)
  refine RO_aload_n dc_Model_opens_29 rfl rfl ?_
  refine RO_getR (b := 233) gf_Model_99 lk_203 rfl dc_Model_opens_30 ?_
  refine RO_iload_n dc_Model_opens_33 rfl rfl ?_
  refine RO_iconst dc_Model_opens_34 ?_
  refine RO_chk (fun hi9 => ?_)
  refine RO_is lk_233 hi9 dc_Model_opens_35 ?_
  refine RO_bnM (fun m10 => ?_)
  exact RO_vret rfl dc_Model_opens_36
def bo_Model_sums_45 (p1 : Int)  (s1 : Int) (s2 : Int) (mem : Mm) : Res := if 0 ≤ s1 ∧ s1 < 7 then bn (mst mem 230 s1.toNat s2) fun m2 => if 0 ≤ p1 ∧ p1 < 7 then bn (mst m2 233 p1.toNat 0) fun m4 => some (0, m4) else none else none
set_option maxHeartbeats 4000000 in
theorem rb_Model_sums_45 {E : EE} (p1 : Int)    (s1 : Int) (s2 : Int)  (mem : Mm) : RO E mt_Model_sums (bo_Model_sums_45 p1  s1 s2 mem) 45 [(0, rf 203), (1, vi p1)] [vi s2, vi s1, rf 230] mem := by
  unfold bo_Model_sums_45
  refine RO_chk (fun hi1 => ?_)
  refine RO_is lk_230 hi1 dc_Model_sums_45 ?_
  refine RO_bnM (fun m2 => ?_)
  refine RO_aload_n dc_Model_sums_46 rfl rfl ?_
  refine RO_getR (b := 233) gf_Model_99 lk_203 rfl dc_Model_sums_47 ?_
  refine RO_iload_n dc_Model_sums_50 rfl rfl ?_
  refine RO_iconst dc_Model_sums_51 ?_
  refine RO_chk (fun hi3 => ?_)
  refine RO_is lk_233 hi3 dc_Model_sums_52 ?_
  refine RO_bnM (fun m4 => ?_)
  exact RO_vret rfl dc_Model_sums_53
def fn_Model_sums (p1 : Int) (mem : Mm) : Res := if 0 ≤ p1 ∧ p1 < 7 then if (mem 231 p1.toNat) = 21 then (if 0 ≤ p1 ∧ p1 < 7 then if 0 ≤ p1 ∧ p1 < 7 then bo_Model_sums_45 p1 p1 (w32 ((mem 230 p1.toNat) - (mem 232 p1.toNat))) mem else none else none) else (if 0 ≤ p1 ∧ p1 < 7 then if 0 ≤ p1 ∧ p1 < 7 then bo_Model_sums_45 p1 p1 (w32 ((mem 230 p1.toNat) + (mem 232 p1.toNat))) mem else none else none) else none
set_option maxHeartbeats 4000000 in
theorem pf_Model_sums {E : EE} (p1 : Int)  (mem : Mm) {r : Int} {mem9 : Mm} (h : fn_Model_sums p1 mem = some (r, mem9)) : MetX E 1 yn_Model_sums cd_Model_sums 2 none [rf 203, vi p1] mem r mem9 := by
  refine RO_met (y := yn_Model_sums) (by decide +kernel) (Nat.le_of_ble_eq_true rfl) ?_ h
  show RO E mt_Model_sums (fn_Model_sums p1 mem) 0 [(0, rf 203), (1, vi p1)] [] mem
  unfold fn_Model_sums
  refine RO_aload_n dc_Model_sums_0 rfl rfl ?_
  refine RO_getR (b := 230) gf_Model_90 lk_203 rfl dc_Model_sums_1 ?_
  refine RO_iload_n dc_Model_sums_4 rfl rfl ?_
  refine RO_aload_n dc_Model_sums_5 rfl rfl ?_
  refine RO_getR (b := 231) gf_Model_93 lk_203 rfl dc_Model_sums_6 ?_
  refine RO_iload_n dc_Model_sums_9 rfl rfl ?_
  refine RO_chk (fun hi1 => ?_)
  refine RO_ia lk_231 hi1 dc_Model_sums_10 ?_
  refine RO_bipush dc_Model_sums_11 ?_
  refine RO_icmp_ne (tgt := 32) dc_Model_sums_13 rfl ?_ ?_
  · refine RO_aload_n dc_Model_sums_16 rfl rfl ?_
    refine RO_getR (b := 230) gf_Model_90 lk_203 rfl dc_Model_sums_17 ?_
    refine RO_iload_n dc_Model_sums_20 rfl rfl ?_
    refine RO_chk (fun hi2 => ?_)
    refine RO_ia lk_230 hi2 dc_Model_sums_21 ?_
    refine RO_aload_n dc_Model_sums_22 rfl rfl ?_
    refine RO_getR (b := 232) gf_Model_96 lk_203 rfl dc_Model_sums_23 ?_
    refine RO_iload_n dc_Model_sums_26 rfl rfl ?_
    refine RO_chk (fun hi3 => ?_)
    refine RO_ia lk_232 hi3 dc_Model_sums_27 ?_
    refine RO_isub dc_Model_sums_28 ?_
    refine RO_goto (tgt := 45) dc_Model_sums_29 rfl ?_
    refine RO_sub ?_ (rb_Model_sums_45 p1 p1 (w32 ((mem 230 p1.toNat) - (mem 232 p1.toNat))) mem)
    exact ⟨rfl, rfl, trivial⟩
  · refine RO_aload_n dc_Model_sums_32 rfl rfl ?_
    refine RO_getR (b := 230) gf_Model_90 lk_203 rfl dc_Model_sums_33 ?_
    refine RO_iload_n dc_Model_sums_36 rfl rfl ?_
    refine RO_chk (fun hi4 => ?_)
    refine RO_ia lk_230 hi4 dc_Model_sums_37 ?_
    refine RO_aload_n dc_Model_sums_38 rfl rfl ?_
    refine RO_getR (b := 232) gf_Model_96 lk_203 rfl dc_Model_sums_39 ?_
    refine RO_iload_n dc_Model_sums_42 rfl rfl ?_
    refine RO_chk (fun hi5 => ?_)
    refine RO_ia lk_232 hi5 dc_Model_sums_43 ?_
    refine RO_iadd dc_Model_sums_44 ?_
    refine RO_sub ?_ (rb_Model_sums_45 p1 p1 (w32 ((mem 230 p1.toNat) + (mem 232 p1.toNat))) mem)
    exact ⟨rfl, rfl, trivial⟩
def fn_Model_isKept  (mem : Mm) : Res := if (mem 203 6) = 1 then (if (lcm (mem 203 7) 8740067) = 0 then (some (1, mem)) else (if (lcm (mem 203 7) 316205) = 0 then (some (1, mem)) else (if (lcm (mem 203 7) 330800670) = 0 then (some (1, mem)) else (if (lcm (mem 203 7) 10492274) = 0 then (some (1, mem)) else (if (lcm (mem 203 7) 315743) = 0 then (some (1, mem)) else (if (lcm (mem 203 7) 158537) = 0 then (some (1, mem)) else (if (lcm (mem 203 7) 9876874) = 0 then (some (1, mem)) else (if (lcm (mem 203 7) 12249946) = 0 then (some (1, mem)) else (if (lcm (mem 203 7) 47) = 0 then (some (1, mem)) else (if (lcm (mem 203 7) 4797) = 0 then (some (1, mem)) else (if (lcm (mem 203 7) 168984) = 0 then (some (1, mem)) else (if (lcm (mem 203 7) 79) = 0 then (some (1, mem)) else (if (lcm (mem 203 7) 262) = 0 then (some (1, mem)) else (if (lcm (mem 203 7) 191706727) = 0 then (some (1, mem)) else (if (lcm (mem 203 7) 237470) = 0 then (some (1, mem)) else (if (lcm (mem 203 7) 85447) = 0 then (some (1, mem)) else (if (lcm (mem 203 7) 60383635) = 0 then (some (1, mem)) else (if (lcm (mem 203 7) 384611) = 0 then (some (1, mem)) else (if (lcm (mem 203 7) 2968) = 0 then (some (1, mem)) else (if (lcm (mem 203 7) 8740238) = 0 then (some (1, mem)) else (if (lcm (mem 203 7) 383153) = 0 then (some (1, mem)) else (if (lcm (mem 203 7) 180392) = 0 then (some (1, mem)) else (if (lcm (mem 203 7) 1424261) = 0 then (some (1, mem)) else (if (lcm (mem 203 7) 10631) = 0 then (some (1, mem)) else (if (lcm (mem 203 7) 1111) = 0 then (some (1, mem)) else (if (lcm (mem 203 7) 423) = 0 then (some (1, mem)) else (some (0, mem)))))))))))))))))))))))))))) else (some (1, mem))
set_option maxHeartbeats 4000000 in
theorem pf_Model_isKept {E : EE}   (mem : Mm) {r : Int} {mem9 : Mm} (h : fn_Model_isKept  mem = some (r, mem9)) : MetX E 1 yn_Model_isKept cd_Model_isKept 1 (some .boolean) [rf 203] mem r mem9 := by
  refine RO_met (y := yn_Model_isKept) (by decide +kernel) (Nat.le_of_ble_eq_true rfl) ?_ h
  show RO E mt_Model_isKept (fn_Model_isKept  mem) 0 [(0, rf 203)] [] mem
  unfold fn_Model_isKept
  refine RO_aload_n dc_Model_isKept_0 rfl rfl ?_
  refine RO_getI gf_Model_208 lk_203 dc_Model_isKept_1 ?_
  refine RO_iconst dc_Model_isKept_4 ?_
  refine RO_icmp_eq (tgt := 10) dc_Model_isKept_5 rfl ?_ ?_
  · refine RO_aload_n dc_Model_isKept_10 rfl rfl ?_
    refine RO_getL gf_Model_201 lk_203 dc_Model_isKept_11 ?_
    refine RO_ldc2 (x := 8740067) c2_Model_268 ⟨by decide, ⟨by decide, by decide⟩⟩ dc_Model_isKept_14 ?_
    refine RO_lcmp dc_Model_isKept_17 ?_
    refine RO_if_eq (tgt := 296) dc_Model_isKept_18 rfl ?_ ?_
    · refine RO_iconst dc_Model_isKept_296 ?_
      refine RO_goto (tgt := 301) dc_Model_isKept_297 rfl ?_
      exact RO_zret rfl (Or.inr rfl) dc_Model_isKept_301
    · refine RO_aload_n dc_Model_isKept_21 rfl rfl ?_
      refine RO_getL gf_Model_201 lk_203 dc_Model_isKept_22 ?_
      refine RO_ldc2 (x := 316205) c2_Model_270 ⟨by decide, ⟨by decide, by decide⟩⟩ dc_Model_isKept_25 ?_
      refine RO_lcmp dc_Model_isKept_28 ?_
      refine RO_if_eq (tgt := 296) dc_Model_isKept_29 rfl ?_ ?_
      · refine RO_iconst dc_Model_isKept_296 ?_
        refine RO_goto (tgt := 301) dc_Model_isKept_297 rfl ?_
        exact RO_zret rfl (Or.inr rfl) dc_Model_isKept_301
      · refine RO_aload_n dc_Model_isKept_32 rfl rfl ?_
        refine RO_getL gf_Model_201 lk_203 dc_Model_isKept_33 ?_
        refine RO_ldc2 (x := 330800670) c2_Model_272 ⟨by decide, ⟨by decide, by decide⟩⟩ dc_Model_isKept_36 ?_
        refine RO_lcmp dc_Model_isKept_39 ?_
        refine RO_if_eq (tgt := 296) dc_Model_isKept_40 rfl ?_ ?_
        · refine RO_iconst dc_Model_isKept_296 ?_
          refine RO_goto (tgt := 301) dc_Model_isKept_297 rfl ?_
          exact RO_zret rfl (Or.inr rfl) dc_Model_isKept_301
        · refine RO_aload_n dc_Model_isKept_43 rfl rfl ?_
          refine RO_getL gf_Model_201 lk_203 dc_Model_isKept_44 ?_
          refine RO_ldc2 (x := 10492274) c2_Model_274 ⟨by decide, ⟨by decide, by decide⟩⟩ dc_Model_isKept_47 ?_
          refine RO_lcmp dc_Model_isKept_50 ?_
          refine RO_if_eq (tgt := 296) dc_Model_isKept_51 rfl ?_ ?_
          · refine RO_iconst dc_Model_isKept_296 ?_
            refine RO_goto (tgt := 301) dc_Model_isKept_297 rfl ?_
            exact RO_zret rfl (Or.inr rfl) dc_Model_isKept_301
          · refine RO_aload_n dc_Model_isKept_54 rfl rfl ?_
            refine RO_getL gf_Model_201 lk_203 dc_Model_isKept_55 ?_
            refine RO_ldc2 (x := 315743) c2_Model_276 ⟨by decide, ⟨by decide, by decide⟩⟩ dc_Model_isKept_58 ?_
            refine RO_lcmp dc_Model_isKept_61 ?_
            refine RO_if_eq (tgt := 296) dc_Model_isKept_62 rfl ?_ ?_
            · refine RO_iconst dc_Model_isKept_296 ?_
              refine RO_goto (tgt := 301) dc_Model_isKept_297 rfl ?_
              exact RO_zret rfl (Or.inr rfl) dc_Model_isKept_301
            · refine RO_aload_n dc_Model_isKept_65 rfl rfl ?_
              refine RO_getL gf_Model_201 lk_203 dc_Model_isKept_66 ?_
              refine RO_ldc2 (x := 158537) c2_Model_278 ⟨by decide, ⟨by decide, by decide⟩⟩ dc_Model_isKept_69 ?_
              refine RO_lcmp dc_Model_isKept_72 ?_
              refine RO_if_eq (tgt := 296) dc_Model_isKept_73 rfl ?_ ?_
              · refine RO_iconst dc_Model_isKept_296 ?_
                refine RO_goto (tgt := 301) dc_Model_isKept_297 rfl ?_
                exact RO_zret rfl (Or.inr rfl) dc_Model_isKept_301
              · refine RO_aload_n dc_Model_isKept_76 rfl rfl ?_
                refine RO_getL gf_Model_201 lk_203 dc_Model_isKept_77 ?_
                refine RO_ldc2 (x := 9876874) c2_Model_280 ⟨by decide, ⟨by decide, by decide⟩⟩ dc_Model_isKept_80 ?_
                refine RO_lcmp dc_Model_isKept_83 ?_
                refine RO_if_eq (tgt := 296) dc_Model_isKept_84 rfl ?_ ?_
                · refine RO_iconst dc_Model_isKept_296 ?_
                  refine RO_goto (tgt := 301) dc_Model_isKept_297 rfl ?_
                  exact RO_zret rfl (Or.inr rfl) dc_Model_isKept_301
                · refine RO_aload_n dc_Model_isKept_87 rfl rfl ?_
                  refine RO_getL gf_Model_201 lk_203 dc_Model_isKept_88 ?_
                  refine RO_ldc2 (x := 12249946) c2_Model_282 ⟨by decide, ⟨by decide, by decide⟩⟩ dc_Model_isKept_91 ?_
                  refine RO_lcmp dc_Model_isKept_94 ?_
                  refine RO_if_eq (tgt := 296) dc_Model_isKept_95 rfl ?_ ?_
                  · refine RO_iconst dc_Model_isKept_296 ?_
                    refine RO_goto (tgt := 301) dc_Model_isKept_297 rfl ?_
                    exact RO_zret rfl (Or.inr rfl) dc_Model_isKept_301
                  · refine RO_aload_n dc_Model_isKept_98 rfl rfl ?_
                    refine RO_getL gf_Model_201 lk_203 dc_Model_isKept_99 ?_
                    refine RO_ldc2 (x := 47) c2_Model_284 ⟨by decide, ⟨by decide, by decide⟩⟩ dc_Model_isKept_102 ?_
                    refine RO_lcmp dc_Model_isKept_105 ?_
                    refine RO_if_eq (tgt := 296) dc_Model_isKept_106 rfl ?_ ?_
                    · refine RO_iconst dc_Model_isKept_296 ?_
                      refine RO_goto (tgt := 301) dc_Model_isKept_297 rfl ?_
                      exact RO_zret rfl (Or.inr rfl) dc_Model_isKept_301
                    · refine RO_aload_n dc_Model_isKept_109 rfl rfl ?_
                      refine RO_getL gf_Model_201 lk_203 dc_Model_isKept_110 ?_
                      refine RO_ldc2 (x := 4797) c2_Model_286 ⟨by decide, ⟨by decide, by decide⟩⟩ dc_Model_isKept_113 ?_
                      refine RO_lcmp dc_Model_isKept_116 ?_
                      refine RO_if_eq (tgt := 296) dc_Model_isKept_117 rfl ?_ ?_
                      · refine RO_iconst dc_Model_isKept_296 ?_
                        refine RO_goto (tgt := 301) dc_Model_isKept_297 rfl ?_
                        exact RO_zret rfl (Or.inr rfl) dc_Model_isKept_301
                      · refine RO_aload_n dc_Model_isKept_120 rfl rfl ?_
                        refine RO_getL gf_Model_201 lk_203 dc_Model_isKept_121 ?_
                        refine RO_ldc2 (x := 168984) c2_Model_288 ⟨by decide, ⟨by decide, by decide⟩⟩ dc_Model_isKept_124 ?_
                        refine RO_lcmp dc_Model_isKept_127 ?_
                        refine RO_if_eq (tgt := 296) dc_Model_isKept_128 rfl ?_ ?_
                        · refine RO_iconst dc_Model_isKept_296 ?_
                          refine RO_goto (tgt := 301) dc_Model_isKept_297 rfl ?_
                          exact RO_zret rfl (Or.inr rfl) dc_Model_isKept_301
                        · refine RO_aload_n dc_Model_isKept_131 rfl rfl ?_
                          refine RO_getL gf_Model_201 lk_203 dc_Model_isKept_132 ?_
                          refine RO_ldc2 (x := 79) c2_Model_290 ⟨by decide, ⟨by decide, by decide⟩⟩ dc_Model_isKept_135 ?_
                          refine RO_lcmp dc_Model_isKept_138 ?_
                          refine RO_if_eq (tgt := 296) dc_Model_isKept_139 rfl ?_ ?_
                          · refine RO_iconst dc_Model_isKept_296 ?_
                            refine RO_goto (tgt := 301) dc_Model_isKept_297 rfl ?_
                            exact RO_zret rfl (Or.inr rfl) dc_Model_isKept_301
                          · refine RO_aload_n dc_Model_isKept_142 rfl rfl ?_
                            refine RO_getL gf_Model_201 lk_203 dc_Model_isKept_143 ?_
                            refine RO_ldc2 (x := 262) c2_Model_292 ⟨by decide, ⟨by decide, by decide⟩⟩ dc_Model_isKept_146 ?_
                            refine RO_lcmp dc_Model_isKept_149 ?_
                            refine RO_if_eq (tgt := 296) dc_Model_isKept_150 rfl ?_ ?_
                            · refine RO_iconst dc_Model_isKept_296 ?_
                              refine RO_goto (tgt := 301) dc_Model_isKept_297 rfl ?_
                              exact RO_zret rfl (Or.inr rfl) dc_Model_isKept_301
                            · refine RO_aload_n dc_Model_isKept_153 rfl rfl ?_
                              refine RO_getL gf_Model_201 lk_203 dc_Model_isKept_154 ?_
                              refine RO_ldc2 (x := 191706727) c2_Model_294 ⟨by decide, ⟨by decide, by decide⟩⟩ dc_Model_isKept_157 ?_
                              refine RO_lcmp dc_Model_isKept_160 ?_
                              refine RO_if_eq (tgt := 296) dc_Model_isKept_161 rfl ?_ ?_
                              · refine RO_iconst dc_Model_isKept_296 ?_
                                refine RO_goto (tgt := 301) dc_Model_isKept_297 rfl ?_
                                exact RO_zret rfl (Or.inr rfl) dc_Model_isKept_301
                              · refine RO_aload_n dc_Model_isKept_164 rfl rfl ?_
                                refine RO_getL gf_Model_201 lk_203 dc_Model_isKept_165 ?_
                                refine RO_ldc2 (x := 237470) c2_Model_296 ⟨by decide, ⟨by decide, by decide⟩⟩ dc_Model_isKept_168 ?_
                                refine RO_lcmp dc_Model_isKept_171 ?_
                                refine RO_if_eq (tgt := 296) dc_Model_isKept_172 rfl ?_ ?_
                                · refine RO_iconst dc_Model_isKept_296 ?_
                                  refine RO_goto (tgt := 301) dc_Model_isKept_297 rfl ?_
                                  exact RO_zret rfl (Or.inr rfl) dc_Model_isKept_301
                                · refine RO_aload_n dc_Model_isKept_175 rfl rfl ?_
                                  refine RO_getL gf_Model_201 lk_203 dc_Model_isKept_176 ?_
                                  refine RO_ldc2 (x := 85447) c2_Model_298 ⟨by decide, ⟨by decide, by decide⟩⟩ dc_Model_isKept_179 ?_
                                  refine RO_lcmp dc_Model_isKept_182 ?_
                                  refine RO_if_eq (tgt := 296) dc_Model_isKept_183 rfl ?_ ?_
                                  · refine RO_iconst dc_Model_isKept_296 ?_
                                    refine RO_goto (tgt := 301) dc_Model_isKept_297 rfl ?_
                                    exact RO_zret rfl (Or.inr rfl) dc_Model_isKept_301
                                  · refine RO_aload_n dc_Model_isKept_186 rfl rfl ?_
                                    refine RO_getL gf_Model_201 lk_203 dc_Model_isKept_187 ?_
                                    refine RO_ldc2 (x := 60383635) c2_Model_300 ⟨by decide, ⟨by decide, by decide⟩⟩ dc_Model_isKept_190 ?_
                                    refine RO_lcmp dc_Model_isKept_193 ?_
                                    refine RO_if_eq (tgt := 296) dc_Model_isKept_194 rfl ?_ ?_
                                    · refine RO_iconst dc_Model_isKept_296 ?_
                                      refine RO_goto (tgt := 301) dc_Model_isKept_297 rfl ?_
                                      exact RO_zret rfl (Or.inr rfl) dc_Model_isKept_301
                                    · refine RO_aload_n dc_Model_isKept_197 rfl rfl ?_
                                      refine RO_getL gf_Model_201 lk_203 dc_Model_isKept_198 ?_
                                      refine RO_ldc2 (x := 384611) c2_Model_302 ⟨by decide, ⟨by decide, by decide⟩⟩ dc_Model_isKept_201 ?_
                                      refine RO_lcmp dc_Model_isKept_204 ?_
                                      refine RO_if_eq (tgt := 296) dc_Model_isKept_205 rfl ?_ ?_
                                      · refine RO_iconst dc_Model_isKept_296 ?_
                                        refine RO_goto (tgt := 301) dc_Model_isKept_297 rfl ?_
                                        exact RO_zret rfl (Or.inr rfl) dc_Model_isKept_301
                                      · refine RO_aload_n dc_Model_isKept_208 rfl rfl ?_
                                        refine RO_getL gf_Model_201 lk_203 dc_Model_isKept_209 ?_
                                        refine RO_ldc2 (x := 2968) c2_Model_304 ⟨by decide, ⟨by decide, by decide⟩⟩ dc_Model_isKept_212 ?_
                                        refine RO_lcmp dc_Model_isKept_215 ?_
                                        refine RO_if_eq (tgt := 296) dc_Model_isKept_216 rfl ?_ ?_
                                        · refine RO_iconst dc_Model_isKept_296 ?_
                                          refine RO_goto (tgt := 301) dc_Model_isKept_297 rfl ?_
                                          exact RO_zret rfl (Or.inr rfl) dc_Model_isKept_301
                                        · refine RO_aload_n dc_Model_isKept_219 rfl rfl ?_
                                          refine RO_getL gf_Model_201 lk_203 dc_Model_isKept_220 ?_
                                          refine RO_ldc2 (x := 8740238) c2_Model_306 ⟨by decide, ⟨by decide, by decide⟩⟩ dc_Model_isKept_223 ?_
                                          refine RO_lcmp dc_Model_isKept_226 ?_
                                          refine RO_if_eq (tgt := 296) dc_Model_isKept_227 rfl ?_ ?_
                                          · refine RO_iconst dc_Model_isKept_296 ?_
                                            refine RO_goto (tgt := 301) dc_Model_isKept_297 rfl ?_
                                            exact RO_zret rfl (Or.inr rfl) dc_Model_isKept_301
                                          · refine RO_aload_n dc_Model_isKept_230 rfl rfl ?_
                                            refine RO_getL gf_Model_201 lk_203 dc_Model_isKept_231 ?_
                                            refine RO_ldc2 (x := 383153) c2_Model_308 ⟨by decide, ⟨by decide, by decide⟩⟩ dc_Model_isKept_234 ?_
                                            refine RO_lcmp dc_Model_isKept_237 ?_
                                            refine RO_if_eq (tgt := 296) dc_Model_isKept_238 rfl ?_ ?_
                                            · refine RO_iconst dc_Model_isKept_296 ?_
                                              refine RO_goto (tgt := 301) dc_Model_isKept_297 rfl ?_
                                              exact RO_zret rfl (Or.inr rfl) dc_Model_isKept_301
                                            · refine RO_aload_n dc_Model_isKept_241 rfl rfl ?_
                                              refine RO_getL gf_Model_201 lk_203 dc_Model_isKept_242 ?_
                                              refine RO_ldc2 (x := 180392) c2_Model_310 ⟨by decide, ⟨by decide, by decide⟩⟩ dc_Model_isKept_245 ?_
                                              refine RO_lcmp dc_Model_isKept_248 ?_
                                              refine RO_if_eq (tgt := 296) dc_Model_isKept_249 rfl ?_ ?_
                                              · refine RO_iconst dc_Model_isKept_296 ?_
                                                refine RO_goto (tgt := 301) dc_Model_isKept_297 rfl ?_
                                                exact RO_zret rfl (Or.inr rfl) dc_Model_isKept_301
                                              · refine RO_aload_n dc_Model_isKept_252 rfl rfl ?_
                                                refine RO_getL gf_Model_201 lk_203 dc_Model_isKept_253 ?_
                                                refine RO_ldc2 (x := 1424261) c2_Model_312 ⟨by decide, ⟨by decide, by decide⟩⟩ dc_Model_isKept_256 ?_
                                                refine RO_lcmp dc_Model_isKept_259 ?_
                                                refine RO_if_eq (tgt := 296) dc_Model_isKept_260 rfl ?_ ?_
                                                · refine RO_iconst dc_Model_isKept_296 ?_
                                                  refine RO_goto (tgt := 301) dc_Model_isKept_297 rfl ?_
                                                  exact RO_zret rfl (Or.inr rfl) dc_Model_isKept_301
                                                · refine RO_aload_n dc_Model_isKept_263 rfl rfl ?_
                                                  refine RO_getL gf_Model_201 lk_203 dc_Model_isKept_264 ?_
                                                  refine RO_ldc2 (x := 10631) c2_Model_235 ⟨by decide, ⟨by decide, by decide⟩⟩ dc_Model_isKept_267 ?_
                                                  refine RO_lcmp dc_Model_isKept_270 ?_
                                                  refine RO_if_eq (tgt := 296) dc_Model_isKept_271 rfl ?_ ?_
                                                  · refine RO_iconst dc_Model_isKept_296 ?_
                                                    refine RO_goto (tgt := 301) dc_Model_isKept_297 rfl ?_
                                                    exact RO_zret rfl (Or.inr rfl) dc_Model_isKept_301
                                                  · refine RO_aload_n dc_Model_isKept_274 rfl rfl ?_
                                                    refine RO_getL gf_Model_201 lk_203 dc_Model_isKept_275 ?_
                                                    refine RO_ldc2 (x := 1111) c2_Model_255 ⟨by decide, ⟨by decide, by decide⟩⟩ dc_Model_isKept_278 ?_
                                                    refine RO_lcmp dc_Model_isKept_281 ?_
                                                    refine RO_if_eq (tgt := 296) dc_Model_isKept_282 rfl ?_ ?_
                                                    · refine RO_iconst dc_Model_isKept_296 ?_
                                                      refine RO_goto (tgt := 301) dc_Model_isKept_297 rfl ?_
                                                      exact RO_zret rfl (Or.inr rfl) dc_Model_isKept_301
                                                    · refine RO_aload_n dc_Model_isKept_285 rfl rfl ?_
                                                      refine RO_getL gf_Model_201 lk_203 dc_Model_isKept_286 ?_
                                                      refine RO_ldc2 (x := 423) c2_Model_257 ⟨by decide, ⟨by decide, by decide⟩⟩ dc_Model_isKept_289 ?_
                                                      refine RO_lcmp dc_Model_isKept_292 ?_
                                                      refine RO_if_ne (tgt := 300) dc_Model_isKept_293 rfl ?_ ?_
                                                      · refine RO_iconst dc_Model_isKept_296 ?_
                                                        refine RO_goto (tgt := 301) dc_Model_isKept_297 rfl ?_
                                                        exact RO_zret rfl (Or.inr rfl) dc_Model_isKept_301
                                                      · refine RO_iconst dc_Model_isKept_300 ?_
                                                        exact RO_zret rfl (Or.inl rfl) dc_Model_isKept_301
  · refine RO_iconst dc_Model_isKept_8 ?_
    exact RO_zret rfl (Or.inr rfl) dc_Model_isKept_9
def bo_Model_named_3 (n_p0 : Nat) (p0 : Nat) (p1 : Int) (p2 : Int) (p3 : Int) (k3 : Int → Mm → Res) (v5 : Int) (mem : Mm) : Res := if v5 < (w32 (p1 + p2)) then (if 0 ≤ v5 ∧ v5 < (n_p0 : Int) then if (lcm (mem p0 v5.toNat) p3) = 0 then (some (w32 (v5 - p1), mem)) else (k3 (w32 (v5 + 1)) mem) else none) else (some ((-1), mem))
set_option maxHeartbeats 4000000 in
theorem rb_Model_named_3 {E : EE} (n_p0 : Nat) (p0 : Nat) (p1 : Int) (p2 : Int) (p3 : Int) (hk_p0 : ly_k p0 = (13, n_p0)) (k3 : Int → Mm → Res) (H3 : ∀ (v5 : Int)  (mem : Mm), RO E mt_Model_named (k3 v5 mem) 3 [(0, rf p0), (1, vi p1), (2, vi p2), (3, vl p3), (5, vi v5)] [] mem) (v5 : Int)  (mem : Mm) : RO E mt_Model_named (bo_Model_named_3 n_p0 p0 p1 p2 p3 k3 v5 mem) 3 [(0, rf p0), (1, vi p1), (2, vi p2), (3, vl p3), (5, vi v5)] [] mem := by
  unfold bo_Model_named_3
  refine RO_iload dc_Model_named_3 rfl ?_
  refine RO_iload_n dc_Model_named_5 rfl rfl ?_
  refine RO_iload_n dc_Model_named_6 rfl rfl ?_
  refine RO_iadd dc_Model_named_7 ?_
  refine RO_icmp_ge (tgt := 31) dc_Model_named_8 rfl ?_ ?_
  · refine RO_aload_n dc_Model_named_11 rfl rfl ?_
    refine RO_iload dc_Model_named_12 rfl ?_
    refine RO_chk (fun hi1 => ?_)
    refine RO_la hk_p0 hi1 dc_Model_named_14 ?_
    refine RO_lload_n dc_Model_named_15 rfl rfl ?_
    refine RO_lcmp dc_Model_named_16 ?_
    refine RO_if_ne (tgt := 25) dc_Model_named_17 rfl ?_ ?_
    · refine RO_iload dc_Model_named_20 rfl ?_
      refine RO_iload_n dc_Model_named_22 rfl rfl ?_
      refine RO_isub dc_Model_named_23 ?_
      exact RO_iret rfl dc_Model_named_24
    · refine RO_iinc dc_Model_named_25 rfl (Nat.le_of_ble_eq_true rfl) ?_
      refine RO_goto (tgt := 3) dc_Model_named_28 rfl ?_
      refine RO_sub ?_ (H3 (w32 (v5 + 1)) mem)
      exact ⟨rfl, rfl, rfl, rfl, rfl, trivial⟩
  · refine RO_iconst dc_Model_named_31 ?_
    exact RO_iret rfl dc_Model_named_32
def lp_Model_named_3 (n_p0 : Nat) (p0 : Nat) (p1 : Int) (p2 : Int) (p3 : Int)  : Nat → Int → Mm → Res
  | 0 => fun _ _ => none
  | n + 1 => bo_Model_named_3 n_p0 p0 p1 p2 p3  (lp_Model_named_3 n_p0 p0 p1 p2 p3  n)
theorem rp_Model_named_3 {E : EE} (n_p0 : Nat) (p0 : Nat) (p1 : Int) (p2 : Int) (p3 : Int) (hk_p0 : ly_k p0 = (13, n_p0))   : ∀ (n : Nat) (v5 : Int)  (mem : Mm), RO E mt_Model_named (lp_Model_named_3 n_p0 p0 p1 p2 p3  n v5 mem) 3 [(0, rf p0), (1, vi p1), (2, vi p2), (3, vl p3), (5, vi v5)] [] mem := by
  intro n
  induction n with
  | zero => intro v5  mem; exact RO_none
  | succ n ih => intro v5  mem; exact rb_Model_named_3 n_p0 p0 p1 p2 p3 hk_p0  (lp_Model_named_3 n_p0 p0 p1 p2 p3  n)  ih v5  mem
def fn_Model_named (n_p0 : Nat) (p0 : Nat) (p1 : Int) (p2 : Int) (p3 : Int) (mem : Mm) : Res := lp_Model_named_3 n_p0 p0 p1 p2 p3 FU p1 mem
set_option maxHeartbeats 4000000 in
theorem pf_Model_named {E : EE} (n_p0 : Nat) (p0 : Nat) (p1 : Int) (p2 : Int) (p3 : Int) (hk_p0 : ly_k p0 = (13, n_p0)) (mem : Mm) {r : Int} {mem9 : Mm} (h : fn_Model_named n_p0 p0 p1 p2 p3 mem = some (r, mem9)) : MetX E 1 yn_Model_named cd_Model_named 6 (some .int) [rf p0, vi p1, vi p2, vl p3] mem r mem9 := by
  refine RO_met (y := yn_Model_named) (by decide +kernel) (Nat.le_of_ble_eq_true rfl) ?_ h
  show RO E mt_Model_named (fn_Model_named n_p0 p0 p1 p2 p3 mem) 0 [(0, rf p0), (1, vi p1), (2, vi p2), (3, vl p3)] [] mem
  unfold fn_Model_named
  refine RO_iload_n dc_Model_named_0 rfl rfl ?_
  refine RO_istore dc_Model_named_1 (Nat.le_of_ble_eq_true rfl) ?_
  refine RO_sub ?_ (rp_Model_named_3 n_p0 p0 p1 p2 p3 hk_p0 FU p1 mem)
  exact ⟨rfl, rfl, rfl, rfl, rfl, trivial⟩
def bo_Model_isOf_3 (p1 : Int) (p2 : Int) (p3 : Int) (k3 : Int → Mm → Res) (v4 : Int) (mem : Mm) : Res := if 0 ≤ w32 ((w32 (6 * p1)) + p2) ∧ w32 ((w32 (6 * p1)) + p2) < 12 then if v4 < (mem 215 (w32 ((w32 (6 * p1)) + p2)).toNat) then (if 0 ≤ w32 ((w32 ((w32 (24 * p1)) + (w32 (4 * p2)))) + v4) ∧ w32 ((w32 ((w32 (24 * p1)) + (w32 (4 * p2)))) + v4) < 48 then if (mem 214 (w32 ((w32 ((w32 (24 * p1)) + (w32 (4 * p2)))) + v4)).toNat) = p3 then (some (1, mem)) else (k3 (w32 (v4 + 1)) mem) else none) else (some (0, mem)) else none
set_option maxHeartbeats 4000000 in
theorem rb_Model_isOf_3 {E : EE} (p1 : Int) (p2 : Int) (p3 : Int)  (k3 : Int → Mm → Res) (H3 : ∀ (v4 : Int)  (mem : Mm), RO E mt_Model_isOf (k3 v4 mem) 3 [(0, rf 203), (1, vi p1), (2, vi p2), (3, vi p3), (4, vi v4)] [] mem) (v4 : Int)  (mem : Mm) : RO E mt_Model_isOf (bo_Model_isOf_3 p1 p2 p3 k3 v4 mem) 3 [(0, rf 203), (1, vi p1), (2, vi p2), (3, vi p3), (4, vi v4)] [] mem := by
  unfold bo_Model_isOf_3
  refine RO_iload dc_Model_isOf_3 rfl ?_
  refine RO_aload_n dc_Model_isOf_5 rfl rfl ?_
  refine RO_getR (b := 215) gf_Model_44 lk_203 rfl dc_Model_isOf_6 ?_
  refine RO_bipush dc_Model_isOf_9 ?_
  refine RO_iload_n dc_Model_isOf_11 rfl rfl ?_
  refine RO_imul dc_Model_isOf_12 ?_
  refine RO_iload_n dc_Model_isOf_13 rfl rfl ?_
  refine RO_iadd dc_Model_isOf_14 ?_
  refine RO_chk (fun hi1 => ?_)
  refine RO_ia lk_215 hi1 dc_Model_isOf_15 ?_
  refine RO_icmp_ge (tgt := 47) dc_Model_isOf_16 rfl ?_ ?_
  · refine RO_aload_n dc_Model_isOf_19 rfl rfl ?_
    refine RO_getR (b := 214) gf_Model_41 lk_203 rfl dc_Model_isOf_20 ?_
    refine RO_bipush dc_Model_isOf_23 ?_
    refine RO_iload_n dc_Model_isOf_25 rfl rfl ?_
    refine RO_imul dc_Model_isOf_26 ?_
    refine RO_iconst dc_Model_isOf_27 ?_
    refine RO_iload_n dc_Model_isOf_28 rfl rfl ?_
    refine RO_imul dc_Model_isOf_29 ?_
    refine RO_iadd dc_Model_isOf_30 ?_
    refine RO_iload dc_Model_isOf_31 rfl ?_
    refine RO_iadd dc_Model_isOf_33 ?_
    refine RO_chk (fun hi2 => ?_)
    refine RO_ia lk_214 hi2 dc_Model_isOf_34 ?_
    refine RO_iload_n dc_Model_isOf_35 rfl rfl ?_
    refine RO_icmp_ne (tgt := 41) dc_Model_isOf_36 rfl ?_ ?_
    · refine RO_iconst dc_Model_isOf_39 ?_
      exact RO_zret rfl (Or.inr rfl) dc_Model_isOf_40
    · refine RO_iinc dc_Model_isOf_41 rfl (Nat.le_of_ble_eq_true rfl) ?_
      refine RO_goto (tgt := 3) dc_Model_isOf_44 rfl ?_
      refine RO_sub ?_ (H3 (w32 (v4 + 1)) mem)
      exact ⟨rfl, rfl, rfl, rfl, rfl, trivial⟩
  · refine RO_iconst dc_Model_isOf_47 ?_
    exact RO_zret rfl (Or.inl rfl) dc_Model_isOf_48
def lp_Model_isOf_3 (p1 : Int) (p2 : Int) (p3 : Int)  : Nat → Int → Mm → Res
  | 0 => fun _ _ => none
  | n + 1 => bo_Model_isOf_3 p1 p2 p3  (lp_Model_isOf_3 p1 p2 p3  n)
theorem rp_Model_isOf_3 {E : EE} (p1 : Int) (p2 : Int) (p3 : Int)    : ∀ (n : Nat) (v4 : Int)  (mem : Mm), RO E mt_Model_isOf (lp_Model_isOf_3 p1 p2 p3  n v4 mem) 3 [(0, rf 203), (1, vi p1), (2, vi p2), (3, vi p3), (4, vi v4)] [] mem := by
  intro n
  induction n with
  | zero => intro v4  mem; exact RO_none
  | succ n ih => intro v4  mem; exact rb_Model_isOf_3 p1 p2 p3   (lp_Model_isOf_3 p1 p2 p3  n)  ih v4  mem
def fn_Model_isOf (p1 : Int) (p2 : Int) (p3 : Int) (mem : Mm) : Res := lp_Model_isOf_3 p1 p2 p3 FU 0 mem
set_option maxHeartbeats 4000000 in
theorem pf_Model_isOf {E : EE} (p1 : Int) (p2 : Int) (p3 : Int)  (mem : Mm) {r : Int} {mem9 : Mm} (h : fn_Model_isOf p1 p2 p3 mem = some (r, mem9)) : MetX E 1 yn_Model_isOf cd_Model_isOf 5 (some .boolean) [rf 203, vi p1, vi p2, vi p3] mem r mem9 := by
  refine RO_met (y := yn_Model_isOf) (by decide +kernel) (Nat.le_of_ble_eq_true rfl) ?_ h
  show RO E mt_Model_isOf (fn_Model_isOf p1 p2 p3 mem) 0 [(0, rf 203), (1, vi p1), (2, vi p2), (3, vi p3)] [] mem
  unfold fn_Model_isOf
  refine RO_iconst dc_Model_isOf_0 ?_
  refine RO_istore dc_Model_isOf_1 (Nat.le_of_ble_eq_true rfl) ?_
  refine RO_sub ?_ (rp_Model_isOf_3 p1 p2 p3 FU 0 mem)
  exact ⟨rfl, rfl, rfl, rfl, rfl, trivial⟩
def bo_Model_shifts_2 (n_p0 : Nat) (p0 : Nat) (p1 : Int) (k2 : Int → Mm → Res) (v2 : Int) (mem : Mm) : Res := if v2 < p1 then (if 0 ≤ w32 (p1 + v2) ∧ w32 (p1 + v2) < (n_p0 : Int) then if 0 ≤ v2 ∧ v2 < (n_p0 : Int) then bn (mst mem p0 v2.toNat (mem p0 (w32 (p1 + v2)).toNat)) fun m3 => k2 (w32 (v2 + 1)) m3 else none else none) else (some (0, mem))
set_option maxHeartbeats 4000000 in
theorem rb_Model_shifts_2 {E : EE} (n_p0 : Nat) (p0 : Nat) (p1 : Int) (hk_p0 : ly_k p0 = (12, n_p0)) (k2 : Int → Mm → Res) (H2 : ∀ (v2 : Int)  (mem : Mm), RO E mt_Model_shifts (k2 v2 mem) 2 [(0, rf p0), (1, vi p1), (2, vi v2)] [] mem) (v2 : Int)  (mem : Mm) : RO E mt_Model_shifts (bo_Model_shifts_2 n_p0 p0 p1 k2 v2 mem) 2 [(0, rf p0), (1, vi p1), (2, vi v2)] [] mem := by
  unfold bo_Model_shifts_2
  refine RO_iload_n dc_Model_shifts_2 rfl rfl ?_
  refine RO_iload_n dc_Model_shifts_3 rfl rfl ?_
  refine RO_icmp_ge (tgt := 21) dc_Model_shifts_4 rfl ?_ ?_
  · refine RO_aload_n dc_Model_shifts_7 rfl rfl ?_
    refine RO_iload_n dc_Model_shifts_8 rfl rfl ?_
    refine RO_aload_n dc_Model_shifts_9 rfl rfl ?_
    refine RO_iload_n dc_Model_shifts_10 rfl rfl ?_
    refine RO_iload_n dc_Model_shifts_11 rfl rfl ?_
    refine RO_iadd dc_Model_shifts_12 ?_
    refine RO_chk (fun hi1 => ?_)
    refine RO_ia hk_p0 hi1 dc_Model_shifts_13 ?_
    refine RO_chk (fun hi2 => ?_)
    refine RO_is hk_p0 hi2 dc_Model_shifts_14 ?_
    refine RO_bnM (fun m3 => ?_)
    refine RO_iinc dc_Model_shifts_15 rfl (Nat.le_of_ble_eq_true rfl) ?_
    refine RO_goto (tgt := 2) dc_Model_shifts_18 rfl ?_
    refine RO_sub ?_ (H2 (w32 (v2 + 1)) m3)
    exact ⟨rfl, rfl, rfl, trivial⟩
  · exact RO_vret rfl dc_Model_shifts_21
def lp_Model_shifts_2 (n_p0 : Nat) (p0 : Nat) (p1 : Int)  : Nat → Int → Mm → Res
  | 0 => fun _ _ => none
  | n + 1 => bo_Model_shifts_2 n_p0 p0 p1  (lp_Model_shifts_2 n_p0 p0 p1  n)
theorem rp_Model_shifts_2 {E : EE} (n_p0 : Nat) (p0 : Nat) (p1 : Int) (hk_p0 : ly_k p0 = (12, n_p0))   : ∀ (n : Nat) (v2 : Int)  (mem : Mm), RO E mt_Model_shifts (lp_Model_shifts_2 n_p0 p0 p1  n v2 mem) 2 [(0, rf p0), (1, vi p1), (2, vi v2)] [] mem := by
  intro n
  induction n with
  | zero => intro v2  mem; exact RO_none
  | succ n ih => intro v2  mem; exact rb_Model_shifts_2 n_p0 p0 p1 hk_p0  (lp_Model_shifts_2 n_p0 p0 p1  n)  ih v2  mem
def fn_Model_shifts (n_p0 : Nat) (p0 : Nat) (p1 : Int) (mem : Mm) : Res := lp_Model_shifts_2 n_p0 p0 p1 FU 0 mem
set_option maxHeartbeats 4000000 in
theorem pf_Model_shifts {E : EE} (n_p0 : Nat) (p0 : Nat) (p1 : Int) (hk_p0 : ly_k p0 = (12, n_p0)) (mem : Mm) {r : Int} {mem9 : Mm} (h : fn_Model_shifts n_p0 p0 p1 mem = some (r, mem9)) : MetX E 1 yn_Model_shifts cd_Model_shifts 3 none [rf p0, vi p1] mem r mem9 := by
  refine RO_met (y := yn_Model_shifts) (by decide +kernel) (Nat.le_of_ble_eq_true rfl) ?_ h
  show RO E mt_Model_shifts (fn_Model_shifts n_p0 p0 p1 mem) 0 [(0, rf p0), (1, vi p1)] [] mem
  unfold fn_Model_shifts
  refine RO_iconst dc_Model_shifts_0 ?_
  refine RO_istore_n dc_Model_shifts_1 rfl (Nat.le_of_ble_eq_true rfl) ?_
  refine RO_sub ?_ (rp_Model_shifts_2 n_p0 p0 p1 hk_p0 FU 0 mem)
  exact ⟨rfl, rfl, rfl, trivial⟩
def bo_Model_shiftsNames_2 (n_p0 : Nat) (p0 : Nat) (p1 : Int) (k2 : Int → Mm → Res) (v2 : Int) (mem : Mm) : Res := if v2 < p1 then (if 0 ≤ w32 (p1 + v2) ∧ w32 (p1 + v2) < (n_p0 : Int) then if 0 ≤ v2 ∧ v2 < (n_p0 : Int) then bn (mst mem p0 v2.toNat (mem p0 (w32 (p1 + v2)).toNat)) fun m3 => k2 (w32 (v2 + 1)) m3 else none else none) else (some (0, mem))
set_option maxHeartbeats 4000000 in
theorem rb_Model_shiftsNames_2 {E : EE} (n_p0 : Nat) (p0 : Nat) (p1 : Int) (hk_p0 : ly_k p0 = (13, n_p0)) (k2 : Int → Mm → Res) (H2 : ∀ (v2 : Int)  (mem : Mm), RO E mt_Model_shiftsNames (k2 v2 mem) 2 [(0, rf p0), (1, vi p1), (2, vi v2)] [] mem) (v2 : Int)  (mem : Mm) : RO E mt_Model_shiftsNames (bo_Model_shiftsNames_2 n_p0 p0 p1 k2 v2 mem) 2 [(0, rf p0), (1, vi p1), (2, vi v2)] [] mem := by
  unfold bo_Model_shiftsNames_2
  refine RO_iload_n dc_Model_shiftsNames_2 rfl rfl ?_
  refine RO_iload_n dc_Model_shiftsNames_3 rfl rfl ?_
  refine RO_icmp_ge (tgt := 21) dc_Model_shiftsNames_4 rfl ?_ ?_
  · refine RO_aload_n dc_Model_shiftsNames_7 rfl rfl ?_
    refine RO_iload_n dc_Model_shiftsNames_8 rfl rfl ?_
    refine RO_aload_n dc_Model_shiftsNames_9 rfl rfl ?_
    refine RO_iload_n dc_Model_shiftsNames_10 rfl rfl ?_
    refine RO_iload_n dc_Model_shiftsNames_11 rfl rfl ?_
    refine RO_iadd dc_Model_shiftsNames_12 ?_
    refine RO_chk (fun hi1 => ?_)
    refine RO_la hk_p0 hi1 dc_Model_shiftsNames_13 ?_
    refine RO_chk (fun hi2 => ?_)
    refine RO_lst hk_p0 hi2 dc_Model_shiftsNames_14 ?_
    refine RO_bnM (fun m3 => ?_)
    refine RO_iinc dc_Model_shiftsNames_15 rfl (Nat.le_of_ble_eq_true rfl) ?_
    refine RO_goto (tgt := 2) dc_Model_shiftsNames_18 rfl ?_
    refine RO_sub ?_ (H2 (w32 (v2 + 1)) m3)
    exact ⟨rfl, rfl, rfl, trivial⟩
  · exact RO_vret rfl dc_Model_shiftsNames_21
def lp_Model_shiftsNames_2 (n_p0 : Nat) (p0 : Nat) (p1 : Int)  : Nat → Int → Mm → Res
  | 0 => fun _ _ => none
  | n + 1 => bo_Model_shiftsNames_2 n_p0 p0 p1  (lp_Model_shiftsNames_2 n_p0 p0 p1  n)
theorem rp_Model_shiftsNames_2 {E : EE} (n_p0 : Nat) (p0 : Nat) (p1 : Int) (hk_p0 : ly_k p0 = (13, n_p0))   : ∀ (n : Nat) (v2 : Int)  (mem : Mm), RO E mt_Model_shiftsNames (lp_Model_shiftsNames_2 n_p0 p0 p1  n v2 mem) 2 [(0, rf p0), (1, vi p1), (2, vi v2)] [] mem := by
  intro n
  induction n with
  | zero => intro v2  mem; exact RO_none
  | succ n ih => intro v2  mem; exact rb_Model_shiftsNames_2 n_p0 p0 p1 hk_p0  (lp_Model_shiftsNames_2 n_p0 p0 p1  n)  ih v2  mem
def fn_Model_shiftsNames (n_p0 : Nat) (p0 : Nat) (p1 : Int) (mem : Mm) : Res := lp_Model_shiftsNames_2 n_p0 p0 p1 FU 0 mem
set_option maxHeartbeats 4000000 in
theorem pf_Model_shiftsNames {E : EE} (n_p0 : Nat) (p0 : Nat) (p1 : Int) (hk_p0 : ly_k p0 = (13, n_p0)) (mem : Mm) {r : Int} {mem9 : Mm} (h : fn_Model_shiftsNames n_p0 p0 p1 mem = some (r, mem9)) : MetX E 1 yn_Model_shiftsNames cd_Model_shiftsNames 3 none [rf p0, vi p1] mem r mem9 := by
  refine RO_met (y := yn_Model_shiftsNames) (by decide +kernel) (Nat.le_of_ble_eq_true rfl) ?_ h
  show RO E mt_Model_shiftsNames (fn_Model_shiftsNames n_p0 p0 p1 mem) 0 [(0, rf p0), (1, vi p1)] [] mem
  unfold fn_Model_shiftsNames
  refine RO_iconst dc_Model_shiftsNames_0 ?_
  refine RO_istore_n dc_Model_shiftsNames_1 rfl (Nat.le_of_ble_eq_true rfl) ?_
  refine RO_sub ?_ (rp_Model_shiftsNames_2 n_p0 p0 p1 hk_p0 FU 0 mem)
  exact ⟨rfl, rfl, rfl, trivial⟩
def bo_Model_copies_3 (n_p0 : Nat) (p0 : Nat) (p1 : Int) (n_p2 : Nat) (p2 : Nat) (p3 : Int) (k3 : Int → Mm → Res) (v4 : Int) (mem : Mm) : Res := if v4 < 16 then (if 0 ≤ w32 (p1 + v4) ∧ w32 (p1 + v4) < (n_p0 : Int) then if 0 ≤ w32 (p3 + v4) ∧ w32 (p3 + v4) < (n_p2 : Int) then bn (mst mem p2 (w32 (p3 + v4)).toNat (mem p0 (w32 (p1 + v4)).toNat)) fun m3 => k3 (w32 (v4 + 1)) m3 else none else none) else (some (0, mem))
set_option maxHeartbeats 4000000 in
theorem rb_Model_copies_3 {E : EE} (n_p0 : Nat) (p0 : Nat) (p1 : Int) (n_p2 : Nat) (p2 : Nat) (p3 : Int) (hk_p0 : ly_k p0 = (12, n_p0)) (hk_p2 : ly_k p2 = (12, n_p2)) (k3 : Int → Mm → Res) (H3 : ∀ (v4 : Int)  (mem : Mm), RO E mt_Model_copies (k3 v4 mem) 3 [(0, rf p0), (1, vi p1), (2, rf p2), (3, vi p3), (4, vi v4)] [] mem) (v4 : Int)  (mem : Mm) : RO E mt_Model_copies (bo_Model_copies_3 n_p0 p0 p1 n_p2 p2 p3 k3 v4 mem) 3 [(0, rf p0), (1, vi p1), (2, rf p2), (3, vi p3), (4, vi v4)] [] mem := by
  unfold bo_Model_copies_3
  refine RO_iload dc_Model_copies_3 rfl ?_
  refine RO_bipush dc_Model_copies_5 ?_
  refine RO_icmp_ge (tgt := 28) dc_Model_copies_7 rfl ?_ ?_
  · refine RO_aload_n dc_Model_copies_10 rfl rfl ?_
    refine RO_iload_n dc_Model_copies_11 rfl rfl ?_
    refine RO_iload dc_Model_copies_12 rfl ?_
    refine RO_iadd dc_Model_copies_14 ?_
    refine RO_aload_n dc_Model_copies_15 rfl rfl ?_
    refine RO_iload_n dc_Model_copies_16 rfl rfl ?_
    refine RO_iload dc_Model_copies_17 rfl ?_
    refine RO_iadd dc_Model_copies_19 ?_
    refine RO_chk (fun hi1 => ?_)
    refine RO_ia hk_p0 hi1 dc_Model_copies_20 ?_
    refine RO_chk (fun hi2 => ?_)
    refine RO_is hk_p2 hi2 dc_Model_copies_21 ?_
    refine RO_bnM (fun m3 => ?_)
    refine RO_iinc dc_Model_copies_22 rfl (Nat.le_of_ble_eq_true rfl) ?_
    refine RO_goto (tgt := 3) dc_Model_copies_25 rfl ?_
    refine RO_sub ?_ (H3 (w32 (v4 + 1)) m3)
    exact ⟨rfl, rfl, rfl, rfl, rfl, trivial⟩
  · exact RO_vret rfl dc_Model_copies_28
def lp_Model_copies_3 (n_p0 : Nat) (p0 : Nat) (p1 : Int) (n_p2 : Nat) (p2 : Nat) (p3 : Int)  : Nat → Int → Mm → Res
  | 0 => fun _ _ => none
  | n + 1 => bo_Model_copies_3 n_p0 p0 p1 n_p2 p2 p3  (lp_Model_copies_3 n_p0 p0 p1 n_p2 p2 p3  n)
theorem rp_Model_copies_3 {E : EE} (n_p0 : Nat) (p0 : Nat) (p1 : Int) (n_p2 : Nat) (p2 : Nat) (p3 : Int) (hk_p0 : ly_k p0 = (12, n_p0)) (hk_p2 : ly_k p2 = (12, n_p2))   : ∀ (n : Nat) (v4 : Int)  (mem : Mm), RO E mt_Model_copies (lp_Model_copies_3 n_p0 p0 p1 n_p2 p2 p3  n v4 mem) 3 [(0, rf p0), (1, vi p1), (2, rf p2), (3, vi p3), (4, vi v4)] [] mem := by
  intro n
  induction n with
  | zero => intro v4  mem; exact RO_none
  | succ n ih => intro v4  mem; exact rb_Model_copies_3 n_p0 p0 p1 n_p2 p2 p3 hk_p0 hk_p2  (lp_Model_copies_3 n_p0 p0 p1 n_p2 p2 p3  n)  ih v4  mem
def fn_Model_copies (n_p0 : Nat) (p0 : Nat) (p1 : Int) (n_p2 : Nat) (p2 : Nat) (p3 : Int) (mem : Mm) : Res := lp_Model_copies_3 n_p0 p0 p1 n_p2 p2 p3 FU 0 mem
set_option maxHeartbeats 4000000 in
theorem pf_Model_copies {E : EE} (n_p0 : Nat) (p0 : Nat) (p1 : Int) (n_p2 : Nat) (p2 : Nat) (p3 : Int) (hk_p0 : ly_k p0 = (12, n_p0)) (hk_p2 : ly_k p2 = (12, n_p2)) (mem : Mm) {r : Int} {mem9 : Mm} (h : fn_Model_copies n_p0 p0 p1 n_p2 p2 p3 mem = some (r, mem9)) : MetX E 1 yn_Model_copies cd_Model_copies 5 none [rf p0, vi p1, rf p2, vi p3] mem r mem9 := by
  refine RO_met (y := yn_Model_copies) (by decide +kernel) (Nat.le_of_ble_eq_true rfl) ?_ h
  show RO E mt_Model_copies (fn_Model_copies n_p0 p0 p1 n_p2 p2 p3 mem) 0 [(0, rf p0), (1, vi p1), (2, rf p2), (3, vi p3)] [] mem
  unfold fn_Model_copies
  refine RO_iconst dc_Model_copies_0 ?_
  refine RO_istore dc_Model_copies_1 (Nat.le_of_ble_eq_true rfl) ?_
  refine RO_sub ?_ (rp_Model_copies_3 n_p0 p0 p1 n_p2 p2 p3 hk_p0 hk_p2 FU 0 mem)
  exact ⟨rfl, rfl, rfl, rfl, rfl, trivial⟩
