def bo_Model_laysLines_14 (p1 : Int) (p2 : Int) (k14 : Int → Mm → Res) (v3 : Int) (mem : Mm) : Res := if v3 < 30 then (if 0 ≤ w32 ((w32 (30 * p1)) + v3) ∧ w32 ((w32 (30 * p1)) + v3) < 180 then if 0 ≤ w32 ((w32 (30 * p2)) + v3) ∧ w32 ((w32 (30 * p2)) + v3) < 180 then bn (mst mem 237 (w32 ((w32 (30 * p2)) + v3)).toNat (mem 237 (w32 ((w32 (30 * p1)) + v3)).toNat)) fun m3 => if 0 ≤ w32 ((w32 (30 * p1)) + v3) ∧ w32 ((w32 (30 * p1)) + v3) < 180 then if 0 ≤ w32 ((w32 (30 * p2)) + v3) ∧ w32 ((w32 (30 * p2)) + v3) < 180 then bn (mst m3 238 (w32 ((w32 (30 * p2)) + v3)).toNat (m3 238 (w32 ((w32 (30 * p1)) + v3)).toNat)) fun m6 => if 0 ≤ w32 ((w32 (30 * p1)) + v3) ∧ w32 ((w32 (30 * p1)) + v3) < 180 then if 0 ≤ w32 ((w32 (30 * p2)) + v3) ∧ w32 ((w32 (30 * p2)) + v3) < 180 then bn (mst m6 239 (w32 ((w32 (30 * p2)) + v3)).toNat (m6 239 (w32 ((w32 (30 * p1)) + v3)).toNat)) fun m9 => k14 (w32 (v3 + 1)) m9 else none else none else none else none else none else none) else (some (0, mem))
set_option maxHeartbeats 4000000 in
theorem rb_Model_laysLines_14 {E : EE} (p1 : Int) (p2 : Int)  (k14 : Int → Mm → Res) (H14 : ∀ (v3 : Int)  (mem : Mm), RO E mt_Model_laysLines (k14 v3 mem) 14 [(0, rf 203), (1, vi p1), (2, vi p2), (3, vi v3)] [] mem) (v3 : Int)  (mem : Mm) : RO E mt_Model_laysLines (bo_Model_laysLines_14 p1 p2 k14 v3 mem) 14 [(0, rf 203), (1, vi p1), (2, vi p2), (3, vi v3)] [] mem := by
  unfold bo_Model_laysLines_14
  refine RO_iload_n dc_Model_laysLines_14 rfl rfl ?_
  refine RO_bipush dc_Model_laysLines_15 ?_
  refine RO_icmp_ge (tgt := 92) dc_Model_laysLines_17 rfl ?_ ?_
  · refine RO_aload_n dc_Model_laysLines_20 rfl rfl ?_
    refine RO_getR (b := 237) gf_Model_111 lk_203 rfl dc_Model_laysLines_21 ?_
    refine RO_bipush dc_Model_laysLines_24 ?_
    refine RO_iload_n dc_Model_laysLines_26 rfl rfl ?_
    refine RO_imul dc_Model_laysLines_27 ?_
    refine RO_iload_n dc_Model_laysLines_28 rfl rfl ?_
    refine RO_iadd dc_Model_laysLines_29 ?_
    refine RO_aload_n dc_Model_laysLines_30 rfl rfl ?_
    refine RO_getR (b := 237) gf_Model_111 lk_203 rfl dc_Model_laysLines_31 ?_
    refine RO_bipush dc_Model_laysLines_34 ?_
    refine RO_iload_n dc_Model_laysLines_36 rfl rfl ?_
    refine RO_imul dc_Model_laysLines_37 ?_
    refine RO_iload_n dc_Model_laysLines_38 rfl rfl ?_
    refine RO_iadd dc_Model_laysLines_39 ?_
    refine RO_chk (fun hi1 => ?_)
    refine RO_ia lk_237 hi1 dc_Model_laysLines_40 ?_
    refine RO_chk (fun hi2 => ?_)
    refine RO_is lk_237 hi2 dc_Model_laysLines_41 ?_
    refine RO_bnM (fun m3 => ?_)
    refine RO_aload_n dc_Model_laysLines_42 rfl rfl ?_
    refine RO_getR (b := 238) gf_Model_114 lk_203 rfl dc_Model_laysLines_43 ?_
    refine RO_bipush dc_Model_laysLines_46 ?_
    refine RO_iload_n dc_Model_laysLines_48 rfl rfl ?_
    refine RO_imul dc_Model_laysLines_49 ?_
    refine RO_iload_n dc_Model_laysLines_50 rfl rfl ?_
    refine RO_iadd dc_Model_laysLines_51 ?_
    refine RO_aload_n dc_Model_laysLines_52 rfl rfl ?_
    refine RO_getR (b := 238) gf_Model_114 lk_203 rfl dc_Model_laysLines_53 ?_
    refine RO_bipush dc_Model_laysLines_56 ?_
    refine RO_iload_n dc_Model_laysLines_58 rfl rfl ?_
    refine RO_imul dc_Model_laysLines_59 ?_
    refine RO_iload_n dc_Model_laysLines_60 rfl rfl ?_
    refine RO_iadd dc_Model_laysLines_61 ?_
    refine RO_chk (fun hi4 => ?_)
    refine RO_ia lk_238 hi4 dc_Model_laysLines_62 ?_
    refine RO_chk (fun hi5 => ?_)
    refine RO_is lk_238 hi5 dc_Model_laysLines_63 ?_
    refine RO_bnM (fun m6 => ?_)
    refine RO_aload_n dc_Model_laysLines_64 rfl rfl ?_
    refine RO_getR (b := 239) gf_Model_117 lk_203 rfl dc_Model_laysLines_65 ?_
    refine RO_bipush dc_Model_laysLines_68 ?_
    refine RO_iload_n dc_Model_laysLines_70 rfl rfl ?_
    refine RO_imul dc_Model_laysLines_71 ?_
    refine RO_iload_n dc_Model_laysLines_72 rfl rfl ?_
    refine RO_iadd dc_Model_laysLines_73 ?_
    refine RO_aload_n dc_Model_laysLines_74 rfl rfl ?_
    refine RO_getR (b := 239) gf_Model_117 lk_203 rfl dc_Model_laysLines_75 ?_
    refine RO_bipush dc_Model_laysLines_78 ?_
    refine RO_iload_n dc_Model_laysLines_80 rfl rfl ?_
    refine RO_imul dc_Model_laysLines_81 ?_
    refine RO_iload_n dc_Model_laysLines_82 rfl rfl ?_
    refine RO_iadd dc_Model_laysLines_83 ?_
    refine RO_chk (fun hi7 => ?_)
    refine RO_ia lk_239 hi7 dc_Model_laysLines_84 ?_
    refine RO_chk (fun hi8 => ?_)
    refine RO_is lk_239 hi8 dc_Model_laysLines_85 ?_
    refine RO_bnM (fun m9 => ?_)
    refine RO_iinc dc_Model_laysLines_86 rfl (Nat.le_of_ble_eq_true rfl) ?_
    refine RO_goto (tgt := 14) dc_Model_laysLines_89 rfl ?_
    refine RO_sub ?_ (H14 (w32 (v3 + 1)) m9)
    exact ⟨rfl, rfl, rfl, rfl, trivial⟩
  · exact RO_vret rfl dc_Model_laysLines_92
def lp_Model_laysLines_14 (p1 : Int) (p2 : Int)  : Nat → Int → Mm → Res
  | 0 => fun _ _ => none
  | n + 1 => bo_Model_laysLines_14 p1 p2  (lp_Model_laysLines_14 p1 p2  n)
theorem rp_Model_laysLines_14 {E : EE} (p1 : Int) (p2 : Int)    : ∀ (n : Nat) (v3 : Int)  (mem : Mm), RO E mt_Model_laysLines (lp_Model_laysLines_14 p1 p2  n v3 mem) 14 [(0, rf 203), (1, vi p1), (2, vi p2), (3, vi v3)] [] mem := by
  intro n
  induction n with
  | zero => intro v3  mem; exact RO_none
  | succ n ih => intro v3  mem; exact rb_Model_laysLines_14 p1 p2   (lp_Model_laysLines_14 p1 p2  n)  ih v3  mem
def fn_Model_laysLines (p1 : Int) (p2 : Int) (mem : Mm) : Res := if 0 ≤ p1 ∧ p1 < 6 then if 0 ≤ p2 ∧ p2 < 6 then bn (mst mem 236 p2.toNat (mem 236 p1.toNat)) fun m3 => lp_Model_laysLines_14 p1 p2 FU 0 m3 else none else none
set_option maxHeartbeats 4000000 in
theorem pf_Model_laysLines {E : EE} (p1 : Int) (p2 : Int)  (mem : Mm) {r : Int} {mem9 : Mm} (h : fn_Model_laysLines p1 p2 mem = some (r, mem9)) : MetX E 1 yn_Model_laysLines cd_Model_laysLines 4 none [rf 203, vi p1, vi p2] mem r mem9 := by
  refine RO_met (y := yn_Model_laysLines) (by decide +kernel) (Nat.le_of_ble_eq_true rfl) ?_ h
  show RO E mt_Model_laysLines (fn_Model_laysLines p1 p2 mem) 0 [(0, rf 203), (1, vi p1), (2, vi p2)] [] mem
  unfold fn_Model_laysLines
  refine RO_aload_n dc_Model_laysLines_0 rfl rfl ?_
  refine RO_getR (b := 236) gf_Model_108 lk_203 rfl dc_Model_laysLines_1 ?_
  refine RO_iload_n dc_Model_laysLines_4 rfl rfl ?_
  refine RO_aload_n dc_Model_laysLines_5 rfl rfl ?_
  refine RO_getR (b := 236) gf_Model_108 lk_203 rfl dc_Model_laysLines_6 ?_
  refine RO_iload_n dc_Model_laysLines_9 rfl rfl ?_
  refine RO_chk (fun hi1 => ?_)
  refine RO_ia lk_236 hi1 dc_Model_laysLines_10 ?_
  refine RO_chk (fun hi2 => ?_)
  refine RO_is lk_236 hi2 dc_Model_laysLines_11 ?_
  refine RO_bnM (fun m3 => ?_)
  refine RO_iconst dc_Model_laysLines_12 ?_
  refine RO_istore_n dc_Model_laysLines_13 rfl (Nat.le_of_ble_eq_true rfl) ?_
  refine RO_sub ?_ (rp_Model_laysLines_14 p1 p2 FU 0 m3)
  exact ⟨rfl, rfl, rfl, rfl, trivial⟩
def bo_Model_laysTold_94 (p1 : Int) (p2 : Int) (k94 : Int → Mm → Res) (v3 : Int) (mem : Mm) : Res := if v3 < 6 then (if 0 ≤ w32 ((w32 (6 * p1)) + v3) ∧ w32 ((w32 (6 * p1)) + v3) < 30 then if 0 ≤ w32 ((w32 (6 * p2)) + v3) ∧ w32 ((w32 (6 * p2)) + v3) < 30 then bn (mst mem 244 (w32 ((w32 (6 * p2)) + v3)).toNat (mem 244 (w32 ((w32 (6 * p1)) + v3)).toNat)) fun m3 => k94 (w32 (v3 + 1)) m3 else none else none) else (some (0, mem))
set_option maxHeartbeats 4000000 in
theorem rb_Model_laysTold_94 {E : EE} (p1 : Int) (p2 : Int)  (k94 : Int → Mm → Res) (H94 : ∀ (v3 : Int)  (mem : Mm), RO E mt_Model_laysTold (k94 v3 mem) 94 [(0, rf 203), (1, vi p1), (2, vi p2), (3, vi v3)] [] mem) (v3 : Int)  (mem : Mm) : RO E mt_Model_laysTold (bo_Model_laysTold_94 p1 p2 k94 v3 mem) 94 [(0, rf 203), (1, vi p1), (2, vi p2), (3, vi v3)] [] mem := by
  unfold bo_Model_laysTold_94
  refine RO_iload_n dc_Model_laysTold_94 rfl rfl ?_
  refine RO_bipush dc_Model_laysTold_95 ?_
  refine RO_icmp_ge (tgt := 128) dc_Model_laysTold_97 rfl ?_ ?_
  · refine RO_aload_n dc_Model_laysTold_100 rfl rfl ?_
    refine RO_getR (b := 244) gf_Model_132 lk_203 rfl dc_Model_laysTold_101 ?_
    refine RO_bipush dc_Model_laysTold_104 ?_
    refine RO_iload_n dc_Model_laysTold_106 rfl rfl ?_
    refine RO_imul dc_Model_laysTold_107 ?_
    refine RO_iload_n dc_Model_laysTold_108 rfl rfl ?_
    refine RO_iadd dc_Model_laysTold_109 ?_
    refine RO_aload_n dc_Model_laysTold_110 rfl rfl ?_
    refine RO_getR (b := 244) gf_Model_132 lk_203 rfl dc_Model_laysTold_111 ?_
    refine RO_bipush dc_Model_laysTold_114 ?_
    refine RO_iload_n dc_Model_laysTold_116 rfl rfl ?_
    refine RO_imul dc_Model_laysTold_117 ?_
    refine RO_iload_n dc_Model_laysTold_118 rfl rfl ?_
    refine RO_iadd dc_Model_laysTold_119 ?_
    refine RO_chk (fun hi1 => ?_)
    refine RO_ia lk_244 hi1 dc_Model_laysTold_120 ?_
    refine RO_chk (fun hi2 => ?_)
    refine RO_is lk_244 hi2 dc_Model_laysTold_121 ?_
    refine RO_bnM (fun m3 => ?_)
    refine RO_iinc dc_Model_laysTold_122 rfl (Nat.le_of_ble_eq_true rfl) ?_
    refine RO_goto (tgt := 94) dc_Model_laysTold_125 rfl ?_
    refine RO_sub ?_ (H94 (w32 (v3 + 1)) m3)
    exact ⟨rfl, rfl, rfl, rfl, trivial⟩
  · exact RO_vret rfl dc_Model_laysTold_128
def lp_Model_laysTold_94 (p1 : Int) (p2 : Int)  : Nat → Int → Mm → Res
  | 0 => fun _ _ => none
  | n + 1 => bo_Model_laysTold_94 p1 p2  (lp_Model_laysTold_94 p1 p2  n)
theorem rp_Model_laysTold_94 {E : EE} (p1 : Int) (p2 : Int)    : ∀ (n : Nat) (v3 : Int)  (mem : Mm), RO E mt_Model_laysTold (lp_Model_laysTold_94 p1 p2  n v3 mem) 94 [(0, rf 203), (1, vi p1), (2, vi p2), (3, vi v3)] [] mem := by
  intro n
  induction n with
  | zero => intro v3  mem; exact RO_none
  | succ n ih => intro v3  mem; exact rb_Model_laysTold_94 p1 p2   (lp_Model_laysTold_94 p1 p2  n)  ih v3  mem
def bo_Model_laysTold_92 (p1 : Int) (p2 : Int)   (mem : Mm) : Res := lp_Model_laysTold_94 p1 p2 FU 0 mem
set_option maxHeartbeats 4000000 in
theorem rb_Model_laysTold_92 {E : EE} (p1 : Int) (p2 : Int)      (mem : Mm) : RO E mt_Model_laysTold (bo_Model_laysTold_92 p1 p2   mem) 92 [(0, rf 203), (1, vi p1), (2, vi p2)] [] mem := by
  unfold bo_Model_laysTold_92
  refine RO_iconst dc_Model_laysTold_92 ?_
  refine RO_istore_n dc_Model_laysTold_93 rfl (Nat.le_of_ble_eq_true rfl) ?_
  refine RO_sub ?_ (rp_Model_laysTold_94 p1 p2 FU 0 mem)
  exact ⟨rfl, rfl, rfl, rfl, trivial⟩
def bo_Model_laysTold_14 (p1 : Int) (p2 : Int) (k14 : Int → Mm → Res) (v3 : Int) (mem : Mm) : Res := if v3 < 8 then (if 0 ≤ w32 ((w32 (8 * p1)) + v3) ∧ w32 ((w32 (8 * p1)) + v3) < 40 then if 0 ≤ w32 ((w32 (8 * p2)) + v3) ∧ w32 ((w32 (8 * p2)) + v3) < 40 then bn (mst mem 241 (w32 ((w32 (8 * p2)) + v3)).toNat (mem 241 (w32 ((w32 (8 * p1)) + v3)).toNat)) fun m3 => if 0 ≤ w32 ((w32 (8 * p1)) + v3) ∧ w32 ((w32 (8 * p1)) + v3) < 40 then if 0 ≤ w32 ((w32 (8 * p2)) + v3) ∧ w32 ((w32 (8 * p2)) + v3) < 40 then bn (mst m3 242 (w32 ((w32 (8 * p2)) + v3)).toNat (m3 242 (w32 ((w32 (8 * p1)) + v3)).toNat)) fun m6 => if 0 ≤ w32 ((w32 (8 * p1)) + v3) ∧ w32 ((w32 (8 * p1)) + v3) < 40 then if 0 ≤ w32 ((w32 (8 * p2)) + v3) ∧ w32 ((w32 (8 * p2)) + v3) < 40 then if m6 243 (w32 ((w32 (8 * p1)) + v3)).toNat = 0 ∨ m6 243 (w32 ((w32 (8 * p1)) + v3)).toNat = 1 then bn (mst m6 243 (w32 ((w32 (8 * p2)) + v3)).toNat (m6 243 (w32 ((w32 (8 * p1)) + v3)).toNat)) fun m10 => k14 (w32 (v3 + 1)) m10 else none else none else none else none else none else none else none) else (bo_Model_laysTold_92 p1 p2 mem)
set_option maxHeartbeats 4000000 in
theorem rb_Model_laysTold_14 {E : EE} (p1 : Int) (p2 : Int)  (k14 : Int → Mm → Res) (H14 : ∀ (v3 : Int)  (mem : Mm), RO E mt_Model_laysTold (k14 v3 mem) 14 [(0, rf 203), (1, vi p1), (2, vi p2), (3, vi v3)] [] mem) (v3 : Int)  (mem : Mm) : RO E mt_Model_laysTold (bo_Model_laysTold_14 p1 p2 k14 v3 mem) 14 [(0, rf 203), (1, vi p1), (2, vi p2), (3, vi v3)] [] mem := by
  unfold bo_Model_laysTold_14
  refine RO_iload_n dc_Model_laysTold_14 rfl rfl ?_
  refine RO_bipush dc_Model_laysTold_15 ?_
  refine RO_icmp_ge (tgt := 92) dc_Model_laysTold_17 rfl ?_ ?_
  · refine RO_aload_n dc_Model_laysTold_20 rfl rfl ?_
    refine RO_getR (b := 241) gf_Model_123 lk_203 rfl dc_Model_laysTold_21 ?_
    refine RO_bipush dc_Model_laysTold_24 ?_
    refine RO_iload_n dc_Model_laysTold_26 rfl rfl ?_
    refine RO_imul dc_Model_laysTold_27 ?_
    refine RO_iload_n dc_Model_laysTold_28 rfl rfl ?_
    refine RO_iadd dc_Model_laysTold_29 ?_
    refine RO_aload_n dc_Model_laysTold_30 rfl rfl ?_
    refine RO_getR (b := 241) gf_Model_123 lk_203 rfl dc_Model_laysTold_31 ?_
    refine RO_bipush dc_Model_laysTold_34 ?_
    refine RO_iload_n dc_Model_laysTold_36 rfl rfl ?_
    refine RO_imul dc_Model_laysTold_37 ?_
    refine RO_iload_n dc_Model_laysTold_38 rfl rfl ?_
    refine RO_iadd dc_Model_laysTold_39 ?_
    refine RO_chk (fun hi1 => ?_)
    refine RO_ia lk_241 hi1 dc_Model_laysTold_40 ?_
    refine RO_chk (fun hi2 => ?_)
    refine RO_is lk_241 hi2 dc_Model_laysTold_41 ?_
    refine RO_bnM (fun m3 => ?_)
    refine RO_aload_n dc_Model_laysTold_42 rfl rfl ?_
    refine RO_getR (b := 242) gf_Model_126 lk_203 rfl dc_Model_laysTold_43 ?_
    refine RO_bipush dc_Model_laysTold_46 ?_
    refine RO_iload_n dc_Model_laysTold_48 rfl rfl ?_
    refine RO_imul dc_Model_laysTold_49 ?_
    refine RO_iload_n dc_Model_laysTold_50 rfl rfl ?_
    refine RO_iadd dc_Model_laysTold_51 ?_
    refine RO_aload_n dc_Model_laysTold_52 rfl rfl ?_
    refine RO_getR (b := 242) gf_Model_126 lk_203 rfl dc_Model_laysTold_53 ?_
    refine RO_bipush dc_Model_laysTold_56 ?_
    refine RO_iload_n dc_Model_laysTold_58 rfl rfl ?_
    refine RO_imul dc_Model_laysTold_59 ?_
    refine RO_iload_n dc_Model_laysTold_60 rfl rfl ?_
    refine RO_iadd dc_Model_laysTold_61 ?_
    refine RO_chk (fun hi4 => ?_)
    refine RO_ia lk_242 hi4 dc_Model_laysTold_62 ?_
    refine RO_chk (fun hi5 => ?_)
    refine RO_is lk_242 hi5 dc_Model_laysTold_63 ?_
    refine RO_bnM (fun m6 => ?_)
    refine RO_aload_n dc_Model_laysTold_64 rfl rfl ?_
    refine RO_getR (b := 243) gf_Model_129 lk_203 rfl dc_Model_laysTold_65 ?_
    refine RO_bipush dc_Model_laysTold_68 ?_
    refine RO_iload_n dc_Model_laysTold_70 rfl rfl ?_
    refine RO_imul dc_Model_laysTold_71 ?_
    refine RO_iload_n dc_Model_laysTold_72 rfl rfl ?_
    refine RO_iadd dc_Model_laysTold_73 ?_
    refine RO_aload_n dc_Model_laysTold_74 rfl rfl ?_
    refine RO_getR (b := 243) gf_Model_129 lk_203 rfl dc_Model_laysTold_75 ?_
    refine RO_bipush dc_Model_laysTold_78 ?_
    refine RO_iload_n dc_Model_laysTold_80 rfl rfl ?_
    refine RO_imul dc_Model_laysTold_81 ?_
    refine RO_iload_n dc_Model_laysTold_82 rfl rfl ?_
    refine RO_iadd dc_Model_laysTold_83 ?_
    refine RO_chk (fun hi7 => ?_)
    refine RO_za lk_243 hi7 dc_Model_laysTold_84 ?_
    refine RO_chk (fun hi8 => ?_)
    refine RO_chk (fun hz9 => ?_)
    refine RO_zs lk_243 hi8 hz9 dc_Model_laysTold_85 ?_
    refine RO_bnM (fun m10 => ?_)
    refine RO_iinc dc_Model_laysTold_86 rfl (Nat.le_of_ble_eq_true rfl) ?_
    refine RO_goto (tgt := 14) dc_Model_laysTold_89 rfl ?_
    refine RO_sub ?_ (H14 (w32 (v3 + 1)) m10)
    exact ⟨rfl, rfl, rfl, rfl, trivial⟩
  · refine RO_sub ?_ (rb_Model_laysTold_92 p1 p2 mem)
    exact ⟨rfl, rfl, rfl, trivial⟩
def lp_Model_laysTold_14 (p1 : Int) (p2 : Int)  : Nat → Int → Mm → Res
  | 0 => fun _ _ => none
  | n + 1 => bo_Model_laysTold_14 p1 p2  (lp_Model_laysTold_14 p1 p2  n)
theorem rp_Model_laysTold_14 {E : EE} (p1 : Int) (p2 : Int)    : ∀ (n : Nat) (v3 : Int)  (mem : Mm), RO E mt_Model_laysTold (lp_Model_laysTold_14 p1 p2  n v3 mem) 14 [(0, rf 203), (1, vi p1), (2, vi p2), (3, vi v3)] [] mem := by
  intro n
  induction n with
  | zero => intro v3  mem; exact RO_none
  | succ n ih => intro v3  mem; exact rb_Model_laysTold_14 p1 p2   (lp_Model_laysTold_14 p1 p2  n)  ih v3  mem
def fn_Model_laysTold (p1 : Int) (p2 : Int) (mem : Mm) : Res := if 0 ≤ p1 ∧ p1 < 5 then if 0 ≤ p2 ∧ p2 < 5 then bn (mst mem 240 p2.toNat (mem 240 p1.toNat)) fun m3 => lp_Model_laysTold_14 p1 p2 FU 0 m3 else none else none
set_option maxHeartbeats 4000000 in
theorem pf_Model_laysTold {E : EE} (p1 : Int) (p2 : Int)  (mem : Mm) {r : Int} {mem9 : Mm} (h : fn_Model_laysTold p1 p2 mem = some (r, mem9)) : MetX E 1 yn_Model_laysTold cd_Model_laysTold 4 none [rf 203, vi p1, vi p2] mem r mem9 := by
  refine RO_met (y := yn_Model_laysTold) (by decide +kernel) (Nat.le_of_ble_eq_true rfl) ?_ h
  show RO E mt_Model_laysTold (fn_Model_laysTold p1 p2 mem) 0 [(0, rf 203), (1, vi p1), (2, vi p2)] [] mem
  unfold fn_Model_laysTold
  refine RO_aload_n dc_Model_laysTold_0 rfl rfl ?_
  refine RO_getR (b := 240) gf_Model_120 lk_203 rfl dc_Model_laysTold_1 ?_
  refine RO_iload_n dc_Model_laysTold_4 rfl rfl ?_
  refine RO_aload_n dc_Model_laysTold_5 rfl rfl ?_
  refine RO_getR (b := 240) gf_Model_120 lk_203 rfl dc_Model_laysTold_6 ?_
  refine RO_iload_n dc_Model_laysTold_9 rfl rfl ?_
  refine RO_chk (fun hi1 => ?_)
  refine RO_ia lk_240 hi1 dc_Model_laysTold_10 ?_
  refine RO_chk (fun hi2 => ?_)
  refine RO_is lk_240 hi2 dc_Model_laysTold_11 ?_
  refine RO_bnM (fun m3 => ?_)
  refine RO_iconst dc_Model_laysTold_12 ?_
  refine RO_istore_n dc_Model_laysTold_13 rfl (Nat.le_of_ble_eq_true rfl) ?_
  refine RO_sub ?_ (rp_Model_laysTold_14 p1 p2 FU 0 m3)
  exact ⟨rfl, rfl, rfl, rfl, trivial⟩
def fn_Model_allWalkers  (mem : Mm) : Res := some (w32 ((ishl 1 (mem 205 (1 : Int).toNat)) - 1), mem)
set_option maxHeartbeats 4000000 in
theorem pf_Model_allWalkers {E : EE}   (mem : Mm) {r : Int} {mem9 : Mm} (h : fn_Model_allWalkers  mem = some (r, mem9)) : MetX E 1 yn_Model_allWalkers cd_Model_allWalkers 1 (some .int) [rf 203] mem r mem9 := by
  refine RO_met (y := yn_Model_allWalkers) (by decide +kernel) (Nat.le_of_ble_eq_true rfl) ?_ h
  show RO E mt_Model_allWalkers (fn_Model_allWalkers  mem) 0 [(0, rf 203)] [] mem
  unfold fn_Model_allWalkers
  refine RO_iconst dc_Model_allWalkers_0 ?_
  refine RO_aload_n dc_Model_allWalkers_1 rfl rfl ?_
  refine RO_getR (b := 205) gf_Model_13 lk_203 rfl dc_Model_allWalkers_2 ?_
  refine RO_iconst dc_Model_allWalkers_5 ?_
  refine RO_ia lk_205 ⟨by decide, by decide⟩ dc_Model_allWalkers_6 ?_
  refine RO_ishl dc_Model_allWalkers_7 ?_
  refine RO_iconst dc_Model_allWalkers_8 ?_
  refine RO_isub dc_Model_allWalkers_9 ?_
  exact RO_iret rfl dc_Model_allWalkers_10
def bo_Model_forgets_9  (k9 : Int → Mm → Res) (v1 : Int) (mem : Mm) : Res := if v1 < 6 then (if 0 ≤ v1 ∧ v1 < 30 then bn (mst mem 244 v1.toNat (-2)) fun m2 => k9 (w32 (v1 + 1)) m2 else none) else (some (0, mem))
set_option maxHeartbeats 4000000 in
theorem rb_Model_forgets_9 {E : EE}   (k9 : Int → Mm → Res) (H9 : ∀ (v1 : Int)  (mem : Mm), RO E mt_Model_forgets (k9 v1 mem) 9 [(0, rf 203), (1, vi v1)] [] mem) (v1 : Int)  (mem : Mm) : RO E mt_Model_forgets (bo_Model_forgets_9  k9 v1 mem) 9 [(0, rf 203), (1, vi v1)] [] mem := by
  unfold bo_Model_forgets_9
  refine RO_iload_n dc_Model_forgets_9 rfl rfl ?_
  refine RO_bipush dc_Model_forgets_10 ?_
  refine RO_icmp_ge (tgt := 29) dc_Model_forgets_12 rfl ?_ ?_
  · refine RO_aload_n dc_Model_forgets_15 rfl rfl ?_
    refine RO_getR (b := 244) gf_Model_132 lk_203 rfl dc_Model_forgets_16 ?_
    refine RO_iload_n dc_Model_forgets_19 rfl rfl ?_
    refine RO_bipush dc_Model_forgets_20 ?_
    refine RO_chk (fun hi1 => ?_)
    refine RO_is lk_244 hi1 dc_Model_forgets_22 ?_
    refine RO_bnM (fun m2 => ?_)
    refine RO_iinc dc_Model_forgets_23 rfl (Nat.le_of_ble_eq_true rfl) ?_
    refine RO_goto (tgt := 9) dc_Model_forgets_26 rfl ?_
    refine RO_sub ?_ (H9 (w32 (v1 + 1)) m2)
    exact ⟨rfl, rfl, trivial⟩
  · exact RO_vret rfl dc_Model_forgets_29
def lp_Model_forgets_9   : Nat → Int → Mm → Res
  | 0 => fun _ _ => none
  | n + 1 => bo_Model_forgets_9   (lp_Model_forgets_9   n)
theorem rp_Model_forgets_9 {E : EE}     : ∀ (n : Nat) (v1 : Int)  (mem : Mm), RO E mt_Model_forgets (lp_Model_forgets_9   n v1 mem) 9 [(0, rf 203), (1, vi v1)] [] mem := by
  intro n
  induction n with
  | zero => intro v1  mem; exact RO_none
  | succ n ih => intro v1  mem; exact rb_Model_forgets_9    (lp_Model_forgets_9   n)  ih v1  mem
def fn_Model_forgets  (mem : Mm) : Res := bn (mst mem 240 (0 : Int).toNat 0) fun m1 => lp_Model_forgets_9 FU 0 m1
set_option maxHeartbeats 4000000 in
theorem pf_Model_forgets {E : EE}   (mem : Mm) {r : Int} {mem9 : Mm} (h : fn_Model_forgets  mem = some (r, mem9)) : MetX E 1 yn_Model_forgets cd_Model_forgets 2 none [rf 203] mem r mem9 := by
  refine RO_met (y := yn_Model_forgets) (by decide +kernel) (Nat.le_of_ble_eq_true rfl) ?_ h
  show RO E mt_Model_forgets (fn_Model_forgets  mem) 0 [(0, rf 203)] [] mem
  unfold fn_Model_forgets
  refine RO_aload_n dc_Model_forgets_0 rfl rfl ?_
  refine RO_getR (b := 240) gf_Model_120 lk_203 rfl dc_Model_forgets_1 ?_
  refine RO_iconst dc_Model_forgets_4 ?_
  refine RO_iconst dc_Model_forgets_5 ?_
  refine RO_is lk_240 ⟨by decide, by decide⟩ dc_Model_forgets_6 ?_
  refine RO_bnM (fun m1 => ?_)
  refine RO_iconst dc_Model_forgets_7 ?_
  refine RO_istore_n dc_Model_forgets_8 rfl (Nat.le_of_ble_eq_true rfl) ?_
  refine RO_sub ?_ (rp_Model_forgets_9 FU 0 m1)
  exact ⟨rfl, rfl, trivial⟩
def fn_Model_isPlace (p1 : Int) (mem : Mm) : Res := if p1 < 0 then (some (0, mem)) else (if p1 < (mem 205 (0 : Int).toNat) then (some (1, mem)) else (some (0, mem)))
set_option maxHeartbeats 4000000 in
theorem pf_Model_isPlace {E : EE} (p1 : Int)  (mem : Mm) {r : Int} {mem9 : Mm} (h : fn_Model_isPlace p1 mem = some (r, mem9)) : MetX E 1 yn_Model_isPlace cd_Model_isPlace 2 (some .boolean) [rf 203, vi p1] mem r mem9 := by
  refine RO_met (y := yn_Model_isPlace) (by decide +kernel) (Nat.le_of_ble_eq_true rfl) ?_ h
  show RO E mt_Model_isPlace (fn_Model_isPlace p1 mem) 0 [(0, rf 203), (1, vi p1)] [] mem
  unfold fn_Model_isPlace
  refine RO_iload_n dc_Model_isPlace_0 rfl rfl ?_
  refine RO_if_lt (tgt := 18) dc_Model_isPlace_1 rfl ?_ ?_
  · refine RO_iconst dc_Model_isPlace_18 ?_
    exact RO_zret rfl (Or.inl rfl) dc_Model_isPlace_19
  · refine RO_iload_n dc_Model_isPlace_4 rfl rfl ?_
    refine RO_aload_n dc_Model_isPlace_5 rfl rfl ?_
    refine RO_getR (b := 205) gf_Model_13 lk_203 rfl dc_Model_isPlace_6 ?_
    refine RO_iconst dc_Model_isPlace_9 ?_
    refine RO_ia lk_205 ⟨by decide, by decide⟩ dc_Model_isPlace_10 ?_
    refine RO_icmp_ge (tgt := 18) dc_Model_isPlace_11 rfl ?_ ?_
    · refine RO_iconst dc_Model_isPlace_14 ?_
      refine RO_goto (tgt := 19) dc_Model_isPlace_15 rfl ?_
      exact RO_zret rfl (Or.inr rfl) dc_Model_isPlace_19
    · refine RO_iconst dc_Model_isPlace_18 ?_
      exact RO_zret rfl (Or.inl rfl) dc_Model_isPlace_19
def fn_Model_isWalker (p1 : Int) (mem : Mm) : Res := if p1 < 0 then (some (0, mem)) else (if p1 < (mem 205 (1 : Int).toNat) then (some (1, mem)) else (some (0, mem)))
set_option maxHeartbeats 4000000 in
theorem pf_Model_isWalker {E : EE} (p1 : Int)  (mem : Mm) {r : Int} {mem9 : Mm} (h : fn_Model_isWalker p1 mem = some (r, mem9)) : MetX E 1 yn_Model_isWalker cd_Model_isWalker 2 (some .boolean) [rf 203, vi p1] mem r mem9 := by
  refine RO_met (y := yn_Model_isWalker) (by decide +kernel) (Nat.le_of_ble_eq_true rfl) ?_ h
  show RO E mt_Model_isWalker (fn_Model_isWalker p1 mem) 0 [(0, rf 203), (1, vi p1)] [] mem
  unfold fn_Model_isWalker
  refine RO_iload_n dc_Model_isWalker_0 rfl rfl ?_
  refine RO_if_lt (tgt := 18) dc_Model_isWalker_1 rfl ?_ ?_
  · refine RO_iconst dc_Model_isWalker_18 ?_
    exact RO_zret rfl (Or.inl rfl) dc_Model_isWalker_19
  · refine RO_iload_n dc_Model_isWalker_4 rfl rfl ?_
    refine RO_aload_n dc_Model_isWalker_5 rfl rfl ?_
    refine RO_getR (b := 205) gf_Model_13 lk_203 rfl dc_Model_isWalker_6 ?_
    refine RO_iconst dc_Model_isWalker_9 ?_
    refine RO_ia lk_205 ⟨by decide, by decide⟩ dc_Model_isWalker_10 ?_
    refine RO_icmp_ge (tgt := 18) dc_Model_isWalker_11 rfl ?_ ?_
    · refine RO_iconst dc_Model_isWalker_14 ?_
      refine RO_goto (tgt := 19) dc_Model_isWalker_15 rfl ?_
      exact RO_zret rfl (Or.inr rfl) dc_Model_isWalker_19
    · refine RO_iconst dc_Model_isWalker_18 ?_
      exact RO_zret rfl (Or.inl rfl) dc_Model_isWalker_19
def fn_Model_isHour (p1 : Int) (mem : Mm) : Res := if p1 < 0 then (some (0, mem)) else (if p1 < (mem 205 (2 : Int).toNat) then (some (1, mem)) else (some (0, mem)))
set_option maxHeartbeats 4000000 in
theorem pf_Model_isHour {E : EE} (p1 : Int)  (mem : Mm) {r : Int} {mem9 : Mm} (h : fn_Model_isHour p1 mem = some (r, mem9)) : MetX E 1 yn_Model_isHour cd_Model_isHour 2 (some .boolean) [rf 203, vi p1] mem r mem9 := by
  refine RO_met (y := yn_Model_isHour) (by decide +kernel) (Nat.le_of_ble_eq_true rfl) ?_ h
  show RO E mt_Model_isHour (fn_Model_isHour p1 mem) 0 [(0, rf 203), (1, vi p1)] [] mem
  unfold fn_Model_isHour
  refine RO_iload_n dc_Model_isHour_0 rfl rfl ?_
  refine RO_if_lt (tgt := 18) dc_Model_isHour_1 rfl ?_ ?_
  · refine RO_iconst dc_Model_isHour_18 ?_
    exact RO_zret rfl (Or.inl rfl) dc_Model_isHour_19
  · refine RO_iload_n dc_Model_isHour_4 rfl rfl ?_
    refine RO_aload_n dc_Model_isHour_5 rfl rfl ?_
    refine RO_getR (b := 205) gf_Model_13 lk_203 rfl dc_Model_isHour_6 ?_
    refine RO_iconst dc_Model_isHour_9 ?_
    refine RO_ia lk_205 ⟨by decide, by decide⟩ dc_Model_isHour_10 ?_
    refine RO_icmp_ge (tgt := 18) dc_Model_isHour_11 rfl ?_ ?_
    · refine RO_iconst dc_Model_isHour_14 ?_
      refine RO_goto (tgt := 19) dc_Model_isHour_15 rfl ?_
      exact RO_zret rfl (Or.inr rfl) dc_Model_isHour_19
    · refine RO_iconst dc_Model_isHour_18 ?_
      exact RO_zret rfl (Or.inl rfl) dc_Model_isHour_19
def bo_Model_laysWays_122  (k58 : Int → Mm → Res) (v1 : Int) (mem : Mm) : Res := k58 (w32 (v1 + 1)) mem
set_option maxHeartbeats 4000000 in
theorem rb_Model_laysWays_122 {E : EE}   (k58 : Int → Mm → Res) (H58 : ∀ (v1 : Int)  (mem : Mm), RO E mt_Model_laysWays (k58 v1 mem) 58 [(0, rf 203), (1, vi v1)] [] mem) (v1 : Int)  (mem : Mm) : RO E mt_Model_laysWays (bo_Model_laysWays_122  k58 v1 mem) 122 [(0, rf 203), (1, vi v1)] [] mem := by
  unfold bo_Model_laysWays_122
  refine RO_iinc dc_Model_laysWays_122 rfl (Nat.le_of_ble_eq_true rfl) ?_
  refine RO_goto (tgt := 58) dc_Model_laysWays_125 rfl ?_
  refine RO_sub ?_ (H58 (w32 (v1 + 1)) mem)
  exact ⟨rfl, rfl, trivial⟩
def bo_Model_laysWays_66  (k58 : Int → Mm → Res) (k66 : Int → Int → Mm → Res) (v1 : Int) (v2 : Int) (mem : Mm) : Res := if v2 < 36 then (if 0 ≤ v2 ∧ v2 < 36 then if 0 ≤ w32 ((w32 ((idv v2 6) * 6)) + v1) ∧ w32 ((w32 ((idv v2 6) * 6)) + v1) < 36 then if 0 ≤ w32 ((w32 (v1 * 6)) + (irm v2 6)) ∧ w32 ((w32 (v1 * 6)) + (irm v2 6)) < 36 then if 0 ≤ v2 ∧ v2 < 36 then bn (mst mem 250 v2.toNat (imn (mem 250 v2.toNat) (w32 ((mem 250 (w32 ((w32 ((idv v2 6) * 6)) + v1)).toNat) + (mem 250 (w32 ((w32 (v1 * 6)) + (irm v2 6))).toNat))))) fun m5 => k66 v1 (w32 (v2 + 1)) m5 else none else none else none else none) else (bo_Model_laysWays_122 k58 v1 mem)
set_option maxHeartbeats 4000000 in
theorem rb_Model_laysWays_66 {E : EE}   (k58 : Int → Mm → Res) (k66 : Int → Int → Mm → Res) (H58 : ∀ (v1 : Int)  (mem : Mm), RO E mt_Model_laysWays (k58 v1 mem) 58 [(0, rf 203), (1, vi v1)] [] mem) (H66 : ∀ (v1 : Int) (v2 : Int)  (mem : Mm), RO E mt_Model_laysWays (k66 v1 v2 mem) 66 [(0, rf 203), (1, vi v1), (2, vi v2)] [] mem) (v1 : Int) (v2 : Int)  (mem : Mm) : RO E mt_Model_laysWays (bo_Model_laysWays_66  k58 k66 v1 v2 mem) 66 [(0, rf 203), (1, vi v1), (2, vi v2)] [] mem := by
  unfold bo_Model_laysWays_66
  refine RO_iload_n dc_Model_laysWays_66 rfl rfl ?_
  refine RO_bipush dc_Model_laysWays_67 ?_
  refine RO_icmp_ge (tgt := 122) dc_Model_laysWays_69 rfl ?_ ?_
  · refine RO_aload_n dc_Model_laysWays_72 rfl rfl ?_
    refine RO_getR (b := 250) gf_Model_150 lk_203 rfl dc_Model_laysWays_73 ?_
    refine RO_iload_n dc_Model_laysWays_76 rfl rfl ?_
    refine RO_aload_n dc_Model_laysWays_77 rfl rfl ?_
    refine RO_getR (b := 250) gf_Model_150 lk_203 rfl dc_Model_laysWays_78 ?_
    refine RO_iload_n dc_Model_laysWays_81 rfl rfl ?_
    refine RO_chk (fun hi1 => ?_)
    refine RO_ia lk_250 hi1 dc_Model_laysWays_82 ?_
    refine RO_aload_n dc_Model_laysWays_83 rfl rfl ?_
    refine RO_getR (b := 250) gf_Model_150 lk_203 rfl dc_Model_laysWays_84 ?_
    refine RO_iload_n dc_Model_laysWays_87 rfl rfl ?_
    refine RO_bipush dc_Model_laysWays_88 ?_
    refine RO_idivc (by decide) dc_Model_laysWays_90 ?_
    refine RO_bipush dc_Model_laysWays_91 ?_
    refine RO_imul dc_Model_laysWays_93 ?_
    refine RO_iload_n dc_Model_laysWays_94 rfl rfl ?_
    refine RO_iadd dc_Model_laysWays_95 ?_
    refine RO_chk (fun hi2 => ?_)
    refine RO_ia lk_250 hi2 dc_Model_laysWays_96 ?_
    refine RO_aload_n dc_Model_laysWays_97 rfl rfl ?_
    refine RO_getR (b := 250) gf_Model_150 lk_203 rfl dc_Model_laysWays_98 ?_
    refine RO_iload_n dc_Model_laysWays_101 rfl rfl ?_
    refine RO_bipush dc_Model_laysWays_102 ?_
    refine RO_imul dc_Model_laysWays_104 ?_
    refine RO_iload_n dc_Model_laysWays_105 rfl rfl ?_
    refine RO_bipush dc_Model_laysWays_106 ?_
    refine RO_iremc (by decide) dc_Model_laysWays_108 ?_
    refine RO_iadd dc_Model_laysWays_109 ?_
    refine RO_chk (fun hi3 => ?_)
    refine RO_ia lk_250 hi3 dc_Model_laysWays_110 ?_
    refine RO_iadd dc_Model_laysWays_111 ?_
    refine RO_min mw_min ml_Model_427 (Nat.le_of_ble_eq_true rfl) (Nat.le_of_ble_eq_true rfl) dc_Model_laysWays_112 ?_
    refine RO_chk (fun hi4 => ?_)
    refine RO_is lk_250 hi4 dc_Model_laysWays_115 ?_
    refine RO_bnM (fun m5 => ?_)
    refine RO_iinc dc_Model_laysWays_116 rfl (Nat.le_of_ble_eq_true rfl) ?_
    refine RO_goto (tgt := 66) dc_Model_laysWays_119 rfl ?_
    refine RO_sub ?_ (H66 v1 (w32 (v2 + 1)) m5)
    exact ⟨rfl, rfl, rfl, trivial⟩
  · refine RO_sub ?_ (rb_Model_laysWays_122 k58 H58 v1 mem)
    exact ⟨rfl, rfl, trivial⟩
def lp_Model_laysWays_66  (k58 : Int → Mm → Res) : Nat → Int → Int → Mm → Res
  | 0 => fun _ _ _ => none
  | n + 1 => bo_Model_laysWays_66  k58 (lp_Model_laysWays_66  k58 n)
theorem rp_Model_laysWays_66 {E : EE}   (k58 : Int → Mm → Res) (H58 : ∀ (v1 : Int)  (mem : Mm), RO E mt_Model_laysWays (k58 v1 mem) 58 [(0, rf 203), (1, vi v1)] [] mem) : ∀ (n : Nat) (v1 : Int) (v2 : Int)  (mem : Mm), RO E mt_Model_laysWays (lp_Model_laysWays_66  k58 n v1 v2 mem) 66 [(0, rf 203), (1, vi v1), (2, vi v2)] [] mem := by
  intro n
  induction n with
  | zero => intro v1 v2  mem; exact RO_none
  | succ n ih => intro v1 v2  mem; exact rb_Model_laysWays_66   k58 (lp_Model_laysWays_66  k58 n) H58 ih v1 v2  mem
def bo_Model_laysWays_58  (k58 : Int → Mm → Res) (v1 : Int) (mem : Mm) : Res := if v1 < 6 then (lp_Model_laysWays_66 k58 FU v1 0 mem) else (some (0, mem))
set_option maxHeartbeats 4000000 in
theorem rb_Model_laysWays_58 {E : EE}   (k58 : Int → Mm → Res) (H58 : ∀ (v1 : Int)  (mem : Mm), RO E mt_Model_laysWays (k58 v1 mem) 58 [(0, rf 203), (1, vi v1)] [] mem) (v1 : Int)  (mem : Mm) : RO E mt_Model_laysWays (bo_Model_laysWays_58  k58 v1 mem) 58 [(0, rf 203), (1, vi v1)] [] mem := by
  unfold bo_Model_laysWays_58
  refine RO_iload_n dc_Model_laysWays_58 rfl rfl ?_
  refine RO_bipush dc_Model_laysWays_59 ?_
  refine RO_icmp_ge (tgt := 128) dc_Model_laysWays_61 rfl ?_ ?_
  · refine RO_iconst dc_Model_laysWays_64 ?_
    refine RO_istore_n dc_Model_laysWays_65 rfl (Nat.le_of_ble_eq_true rfl) ?_
    refine RO_sub ?_ (rp_Model_laysWays_66 k58 H58 FU v1 0 mem)
    exact ⟨rfl, rfl, rfl, trivial⟩
  · exact RO_vret rfl dc_Model_laysWays_128
def lp_Model_laysWays_58   : Nat → Int → Mm → Res
  | 0 => fun _ _ => none
  | n + 1 => bo_Model_laysWays_58   (lp_Model_laysWays_58   n)
theorem rp_Model_laysWays_58 {E : EE}     : ∀ (n : Nat) (v1 : Int)  (mem : Mm), RO E mt_Model_laysWays (lp_Model_laysWays_58   n v1 mem) 58 [(0, rf 203), (1, vi v1)] [] mem := by
  intro n
  induction n with
  | zero => intro v1  mem; exact RO_none
  | succ n ih => intro v1  mem; exact rb_Model_laysWays_58    (lp_Model_laysWays_58   n)  ih v1  mem
def bo_Model_laysWays_56    (mem : Mm) : Res := lp_Model_laysWays_58 FU 0 mem
set_option maxHeartbeats 4000000 in
theorem rb_Model_laysWays_56 {E : EE}       (mem : Mm) : RO E mt_Model_laysWays (bo_Model_laysWays_56    mem) 56 [(0, rf 203)] [] mem := by
  unfold bo_Model_laysWays_56
  refine RO_iconst dc_Model_laysWays_56 ?_
  refine RO_istore_n dc_Model_laysWays_57 rfl (Nat.le_of_ble_eq_true rfl) ?_
  refine RO_sub ?_ (rp_Model_laysWays_58 FU 0 mem)
  exact ⟨rfl, rfl, trivial⟩
def bo_Model_laysWays_49  (k2 : Int → Mm → Res) (v1 : Int) (s1 : Int) (s2 : Int) (mem : Mm) : Res := if 0 ≤ s1 ∧ s1 < 36 then bn (mst mem 250 s1.toNat s2) fun m2 => k2 (w32 (v1 + 1)) m2 else none
set_option maxHeartbeats 4000000 in
theorem rb_Model_laysWays_49 {E : EE}   (k2 : Int → Mm → Res) (H2 : ∀ (v1 : Int)  (mem : Mm), RO E mt_Model_laysWays (k2 v1 mem) 2 [(0, rf 203), (1, vi v1)] [] mem) (v1 : Int) (s1 : Int) (s2 : Int)  (mem : Mm) : RO E mt_Model_laysWays (bo_Model_laysWays_49  k2 v1 s1 s2 mem) 49 [(0, rf 203), (1, vi v1)] [vi s2, vi s1, rf 250] mem := by
  unfold bo_Model_laysWays_49
  refine RO_chk (fun hi1 => ?_)
  refine RO_is lk_250 hi1 dc_Model_laysWays_49 ?_
  refine RO_bnM (fun m2 => ?_)
  refine RO_iinc dc_Model_laysWays_50 rfl (Nat.le_of_ble_eq_true rfl) ?_
  refine RO_goto (tgt := 2) dc_Model_laysWays_53 rfl ?_
  refine RO_sub ?_ (H2 (w32 (v1 + 1)) m2)
  exact ⟨rfl, rfl, trivial⟩
def bo_Model_laysWays_2  (k2 : Int → Mm → Res) (v1 : Int) (mem : Mm) : Res := if v1 < 36 then (if (idv v1 6) = (irm v1 6) then (bo_Model_laysWays_49 k2 v1 v1 0 mem) else (if 0 ≤ v1 ∧ v1 < 72 then if 0 < (mem 209 v1.toNat) then (if 0 ≤ v1 ∧ v1 < 72 then bo_Model_laysWays_49 k2 v1 v1 (mem 209 v1.toNat) mem else none) else (bo_Model_laysWays_49 k2 v1 v1 100000 mem) else none)) else (bo_Model_laysWays_56 mem)
set_option maxHeartbeats 4000000 in
theorem rb_Model_laysWays_2 {E : EE}   (k2 : Int → Mm → Res) (H2 : ∀ (v1 : Int)  (mem : Mm), RO E mt_Model_laysWays (k2 v1 mem) 2 [(0, rf 203), (1, vi v1)] [] mem) (v1 : Int)  (mem : Mm) : RO E mt_Model_laysWays (bo_Model_laysWays_2  k2 v1 mem) 2 [(0, rf 203), (1, vi v1)] [] mem := by
  unfold bo_Model_laysWays_2
  refine RO_iload_n dc_Model_laysWays_2 rfl rfl ?_
  refine RO_bipush dc_Model_laysWays_3 ?_
  refine RO_icmp_ge (tgt := 56) dc_Model_laysWays_5 rfl ?_ ?_
  · refine RO_aload_n dc_Model_laysWays_8 rfl rfl ?_
    refine RO_getR (b := 250) gf_Model_150 lk_203 rfl dc_Model_laysWays_9 ?_
    refine RO_iload_n dc_Model_laysWays_12 rfl rfl ?_
    refine RO_iload_n dc_Model_laysWays_13 rfl rfl ?_
    refine RO_bipush dc_Model_laysWays_14 ?_
    refine RO_idivc (by decide) dc_Model_laysWays_16 ?_
    refine RO_iload_n dc_Model_laysWays_17 rfl rfl ?_
    refine RO_bipush dc_Model_laysWays_18 ?_
    refine RO_iremc (by decide) dc_Model_laysWays_20 ?_
    refine RO_icmp_ne (tgt := 28) dc_Model_laysWays_21 rfl ?_ ?_
    · refine RO_iconst dc_Model_laysWays_24 ?_
      refine RO_goto (tgt := 49) dc_Model_laysWays_25 rfl ?_
      refine RO_sub ?_ (rb_Model_laysWays_49 k2 H2 v1 v1 0 mem)
      exact ⟨rfl, rfl, trivial⟩
    · refine RO_aload_n dc_Model_laysWays_28 rfl rfl ?_
      refine RO_getR (b := 209) gf_Model_26 lk_203 rfl dc_Model_laysWays_29 ?_
      refine RO_iload_n dc_Model_laysWays_32 rfl rfl ?_
      refine RO_chk (fun hi1 => ?_)
      refine RO_ia lk_209 hi1 dc_Model_laysWays_33 ?_
      refine RO_if_le (tgt := 46) dc_Model_laysWays_34 rfl ?_ ?_
      · refine RO_aload_n dc_Model_laysWays_37 rfl rfl ?_
        refine RO_getR (b := 209) gf_Model_26 lk_203 rfl dc_Model_laysWays_38 ?_
        refine RO_iload_n dc_Model_laysWays_41 rfl rfl ?_
        refine RO_chk (fun hi2 => ?_)
        refine RO_ia lk_209 hi2 dc_Model_laysWays_42 ?_
        refine RO_goto (tgt := 49) dc_Model_laysWays_43 rfl ?_
        refine RO_sub ?_ (rb_Model_laysWays_49 k2 H2 v1 v1 (mem 209 v1.toNat) mem)
        exact ⟨rfl, rfl, trivial⟩
      · refine RO_ldcw (x := 100000) c1_Model_426 ⟨by decide, ⟨by decide, by decide⟩⟩ dc_Model_laysWays_46 ?_
        refine RO_sub ?_ (rb_Model_laysWays_49 k2 H2 v1 v1 100000 mem)
        exact ⟨rfl, rfl, trivial⟩
  · refine RO_sub ?_ (rb_Model_laysWays_56 mem)
    exact ⟨rfl, trivial⟩
def lp_Model_laysWays_2   : Nat → Int → Mm → Res
  | 0 => fun _ _ => none
  | n + 1 => bo_Model_laysWays_2   (lp_Model_laysWays_2   n)
theorem rp_Model_laysWays_2 {E : EE}     : ∀ (n : Nat) (v1 : Int)  (mem : Mm), RO E mt_Model_laysWays (lp_Model_laysWays_2   n v1 mem) 2 [(0, rf 203), (1, vi v1)] [] mem := by
  intro n
  induction n with
  | zero => intro v1  mem; exact RO_none
  | succ n ih => intro v1  mem; exact rb_Model_laysWays_2    (lp_Model_laysWays_2   n)  ih v1  mem
def fn_Model_laysWays  (mem : Mm) : Res := lp_Model_laysWays_2 FU 0 mem
set_option maxHeartbeats 4000000 in
theorem pf_Model_laysWays {E : EE}   (mem : Mm) {r : Int} {mem9 : Mm} (h : fn_Model_laysWays  mem = some (r, mem9)) : MetX E 1 yn_Model_laysWays cd_Model_laysWays 3 none [rf 203] mem r mem9 := by
  refine RO_met (y := yn_Model_laysWays) (by decide +kernel) (Nat.le_of_ble_eq_true rfl) ?_ h
  show RO E mt_Model_laysWays (fn_Model_laysWays  mem) 0 [(0, rf 203)] [] mem
  unfold fn_Model_laysWays
  refine RO_iconst dc_Model_laysWays_0 ?_
  refine RO_istore_n dc_Model_laysWays_1 rfl (Nat.le_of_ble_eq_true rfl) ?_
  refine RO_sub ?_ (rp_Model_laysWays_2 FU 0 mem)
  exact ⟨rfl, rfl, trivial⟩
def fn_Model_placeIn (p1 : Int) (mem : Mm) : Res := if 0 ≤ p1 ∧ p1 < 6 then if 0 ≤ w32 ((w32 (4 * p1)) + (mem 252 p1.toNat)) ∧ w32 ((w32 (4 * p1)) + (mem 252 p1.toNat)) < 48 then some (mem 214 (w32 ((w32 (4 * p1)) + (mem 252 p1.toNat))).toNat, mem) else none else none
set_option maxHeartbeats 4000000 in
theorem pf_Model_placeIn {E : EE} (p1 : Int)  (mem : Mm) {r : Int} {mem9 : Mm} (h : fn_Model_placeIn p1 mem = some (r, mem9)) : MetX E 1 yn_Model_placeIn cd_Model_placeIn 2 (some .int) [rf 203, vi p1] mem r mem9 := by
  refine RO_met (y := yn_Model_placeIn) (by decide +kernel) (Nat.le_of_ble_eq_true rfl) ?_ h
  show RO E mt_Model_placeIn (fn_Model_placeIn p1 mem) 0 [(0, rf 203), (1, vi p1)] [] mem
  unfold fn_Model_placeIn
  refine RO_aload_n dc_Model_placeIn_0 rfl rfl ?_
  refine RO_getR (b := 214) gf_Model_41 lk_203 rfl dc_Model_placeIn_1 ?_
  refine RO_iconst dc_Model_placeIn_4 ?_
  refine RO_iload_n dc_Model_placeIn_5 rfl rfl ?_
  refine RO_imul dc_Model_placeIn_6 ?_
  refine RO_aload_n dc_Model_placeIn_7 rfl rfl ?_
  refine RO_getR (b := 252) gf_Model_156 lk_203 rfl dc_Model_placeIn_8 ?_
  refine RO_iload_n dc_Model_placeIn_11 rfl rfl ?_
  refine RO_chk (fun hi1 => ?_)
  refine RO_ia lk_252 hi1 dc_Model_placeIn_12 ?_
  refine RO_iadd dc_Model_placeIn_13 ?_
  refine RO_chk (fun hi2 => ?_)
  refine RO_ia lk_214 hi2 dc_Model_placeIn_14 ?_
  exact RO_iret rfl dc_Model_placeIn_15
def bo_Model_firstAt_2 (p1 : Int) (p2 : Int) (k2 : Int → Mm → Res) (v3 : Int) (mem : Mm) : Res := if v3 < 240 then (if 0 ≤ w32 ((w32 (240 * p1)) + v3) ∧ w32 ((w32 (240 * p1)) + v3) < 1440 then if (mem 251 (w32 ((w32 (240 * p1)) + v3)).toNat) = p2 then (some (v3, mem)) else (k2 (w32 (v3 + 1)) mem) else none) else (some ((-1), mem))
set_option maxHeartbeats 4000000 in
theorem rb_Model_firstAt_2 {E : EE} (p1 : Int) (p2 : Int)  (k2 : Int → Mm → Res) (H2 : ∀ (v3 : Int)  (mem : Mm), RO E mt_Model_firstAt (k2 v3 mem) 2 [(0, rf 203), (1, vi p1), (2, vi p2), (3, vi v3)] [] mem) (v3 : Int)  (mem : Mm) : RO E mt_Model_firstAt (bo_Model_firstAt_2 p1 p2 k2 v3 mem) 2 [(0, rf 203), (1, vi p1), (2, vi p2), (3, vi v3)] [] mem := by
  unfold bo_Model_firstAt_2
  refine RO_iload_n dc_Model_firstAt_2 rfl rfl ?_
  refine RO_sipush dc_Model_firstAt_3 ?_
  refine RO_icmp_ge (tgt := 33) dc_Model_firstAt_6 rfl ?_ ?_
  · refine RO_aload_n dc_Model_firstAt_9 rfl rfl ?_
    refine RO_getR (b := 251) gf_Model_153 lk_203 rfl dc_Model_firstAt_10 ?_
    refine RO_sipush dc_Model_firstAt_13 ?_
    refine RO_iload_n dc_Model_firstAt_16 rfl rfl ?_
    refine RO_imul dc_Model_firstAt_17 ?_
    refine RO_iload_n dc_Model_firstAt_18 rfl rfl ?_
    refine RO_iadd dc_Model_firstAt_19 ?_
    refine RO_chk (fun hi1 => ?_)
    refine RO_ia lk_251 hi1 dc_Model_firstAt_20 ?_
    refine RO_iload_n dc_Model_firstAt_21 rfl rfl ?_
    refine RO_icmp_ne (tgt := 27) dc_Model_firstAt_22 rfl ?_ ?_
    · refine RO_iload_n dc_Model_firstAt_25 rfl rfl ?_
      exact RO_iret rfl dc_Model_firstAt_26
    · refine RO_iinc dc_Model_firstAt_27 rfl (Nat.le_of_ble_eq_true rfl) ?_
      refine RO_goto (tgt := 2) dc_Model_firstAt_30 rfl ?_
      refine RO_sub ?_ (H2 (w32 (v3 + 1)) mem)
      exact ⟨rfl, rfl, rfl, rfl, trivial⟩
  · refine RO_iconst dc_Model_firstAt_33 ?_
    exact RO_iret rfl dc_Model_firstAt_34
def lp_Model_firstAt_2 (p1 : Int) (p2 : Int)  : Nat → Int → Mm → Res
  | 0 => fun _ _ => none
  | n + 1 => bo_Model_firstAt_2 p1 p2  (lp_Model_firstAt_2 p1 p2  n)
theorem rp_Model_firstAt_2 {E : EE} (p1 : Int) (p2 : Int)    : ∀ (n : Nat) (v3 : Int)  (mem : Mm), RO E mt_Model_firstAt (lp_Model_firstAt_2 p1 p2  n v3 mem) 2 [(0, rf 203), (1, vi p1), (2, vi p2), (3, vi v3)] [] mem := by
  intro n
  induction n with
  | zero => intro v3  mem; exact RO_none
  | succ n ih => intro v3  mem; exact rb_Model_firstAt_2 p1 p2   (lp_Model_firstAt_2 p1 p2  n)  ih v3  mem
def fn_Model_firstAt (p1 : Int) (p2 : Int) (mem : Mm) : Res := lp_Model_firstAt_2 p1 p2 FU 0 mem
set_option maxHeartbeats 4000000 in
theorem pf_Model_firstAt {E : EE} (p1 : Int) (p2 : Int)  (mem : Mm) {r : Int} {mem9 : Mm} (h : fn_Model_firstAt p1 p2 mem = some (r, mem9)) : MetX E 1 yn_Model_firstAt cd_Model_firstAt 4 (some .int) [rf 203, vi p1, vi p2] mem r mem9 := by
  refine RO_met (y := yn_Model_firstAt) (by decide +kernel) (Nat.le_of_ble_eq_true rfl) ?_ h
  show RO E mt_Model_firstAt (fn_Model_firstAt p1 p2 mem) 0 [(0, rf 203), (1, vi p1), (2, vi p2)] [] mem
  unfold fn_Model_firstAt
  refine RO_iconst dc_Model_firstAt_0 ?_
  refine RO_istore_n dc_Model_firstAt_1 rfl (Nat.le_of_ble_eq_true rfl) ?_
  refine RO_sub ?_ (rp_Model_firstAt_2 p1 p2 FU 0 mem)
  exact ⟨rfl, rfl, rfl, rfl, trivial⟩
def bo_Model_firstMeeting_53 (p1 : Int) (p2 : Int) (k2 : Int → Mm → Res) (v3 : Int) (mem : Mm) : Res := k2 (w32 (v3 + 1)) mem
set_option maxHeartbeats 4000000 in
theorem rb_Model_firstMeeting_53 {E : EE} (p1 : Int) (p2 : Int)  (k2 : Int → Mm → Res) (H2 : ∀ (v3 : Int)  (mem : Mm), RO E mt_Model_firstMeeting (k2 v3 mem) 2 [(0, rf 203), (1, vi p1), (2, vi p2), (3, vi v3)] [] mem) (v3 : Int)  (mem : Mm) : RO E mt_Model_firstMeeting (bo_Model_firstMeeting_53 p1 p2 k2 v3 mem) 53 [(0, rf 203), (1, vi p1), (2, vi p2), (3, vi v3)] [] mem := by
  unfold bo_Model_firstMeeting_53
  refine RO_iinc dc_Model_firstMeeting_53 rfl (Nat.le_of_ble_eq_true rfl) ?_
  refine RO_goto (tgt := 2) dc_Model_firstMeeting_56 rfl ?_
  refine RO_sub ?_ (H2 (w32 (v3 + 1)) mem)
  exact ⟨rfl, rfl, rfl, rfl, trivial⟩
def bo_Model_firstMeeting_2 (p1 : Int) (p2 : Int) (k2 : Int → Mm → Res) (v3 : Int) (mem : Mm) : Res := if v3 < 240 then (if 0 ≤ w32 ((w32 (240 * p1)) + v3) ∧ w32 ((w32 (240 * p1)) + v3) < 1440 then if (mem 251 (w32 ((w32 (240 * p1)) + v3)).toNat) < 0 then (bo_Model_firstMeeting_53 p1 p2 k2 v3 mem) else (if 0 ≤ w32 ((w32 (240 * p1)) + v3) ∧ w32 ((w32 (240 * p1)) + v3) < 1440 then if 0 ≤ w32 ((w32 (240 * p2)) + v3) ∧ w32 ((w32 (240 * p2)) + v3) < 1440 then if (mem 251 (w32 ((w32 (240 * p1)) + v3)).toNat) = (mem 251 (w32 ((w32 (240 * p2)) + v3)).toNat) then (some (v3, mem)) else (bo_Model_firstMeeting_53 p1 p2 k2 v3 mem) else none else none) else none) else (some ((-1), mem))
set_option maxHeartbeats 4000000 in
theorem rb_Model_firstMeeting_2 {E : EE} (p1 : Int) (p2 : Int)  (k2 : Int → Mm → Res) (H2 : ∀ (v3 : Int)  (mem : Mm), RO E mt_Model_firstMeeting (k2 v3 mem) 2 [(0, rf 203), (1, vi p1), (2, vi p2), (3, vi v3)] [] mem) (v3 : Int)  (mem : Mm) : RO E mt_Model_firstMeeting (bo_Model_firstMeeting_2 p1 p2 k2 v3 mem) 2 [(0, rf 203), (1, vi p1), (2, vi p2), (3, vi v3)] [] mem := by
  unfold bo_Model_firstMeeting_2
  refine RO_iload_n dc_Model_firstMeeting_2 rfl rfl ?_
  refine RO_sipush dc_Model_firstMeeting_3 ?_
  refine RO_icmp_ge (tgt := 59) dc_Model_firstMeeting_6 rfl ?_ ?_
  · refine RO_aload_n dc_Model_firstMeeting_9 rfl rfl ?_
    refine RO_getR (b := 251) gf_Model_153 lk_203 rfl dc_Model_firstMeeting_10 ?_
    refine RO_sipush dc_Model_firstMeeting_13 ?_
    refine RO_iload_n dc_Model_firstMeeting_16 rfl rfl ?_
    refine RO_imul dc_Model_firstMeeting_17 ?_
    refine RO_iload_n dc_Model_firstMeeting_18 rfl rfl ?_
    refine RO_iadd dc_Model_firstMeeting_19 ?_
    refine RO_chk (fun hi1 => ?_)
    refine RO_ia lk_251 hi1 dc_Model_firstMeeting_20 ?_
    refine RO_if_lt (tgt := 53) dc_Model_firstMeeting_21 rfl ?_ ?_
    · refine RO_sub ?_ (rb_Model_firstMeeting_53 p1 p2 k2 H2 v3 mem)
      exact ⟨rfl, rfl, rfl, rfl, trivial⟩
    · refine RO_aload_n dc_Model_firstMeeting_24 rfl rfl ?_
      refine RO_getR (b := 251) gf_Model_153 lk_203 rfl dc_Model_firstMeeting_25 ?_
      refine RO_sipush dc_Model_firstMeeting_28 ?_
      refine RO_iload_n dc_Model_firstMeeting_31 rfl rfl ?_
      refine RO_imul dc_Model_firstMeeting_32 ?_
      refine RO_iload_n dc_Model_firstMeeting_33 rfl rfl ?_
      refine RO_iadd dc_Model_firstMeeting_34 ?_
      refine RO_chk (fun hi2 => ?_)
      refine RO_ia lk_251 hi2 dc_Model_firstMeeting_35 ?_
      refine RO_aload_n dc_Model_firstMeeting_36 rfl rfl ?_
      refine RO_getR (b := 251) gf_Model_153 lk_203 rfl dc_Model_firstMeeting_37 ?_
      refine RO_sipush dc_Model_firstMeeting_40 ?_
      refine RO_iload_n dc_Model_firstMeeting_43 rfl rfl ?_
      refine RO_imul dc_Model_firstMeeting_44 ?_
      refine RO_iload_n dc_Model_firstMeeting_45 rfl rfl ?_
      refine RO_iadd dc_Model_firstMeeting_46 ?_
      refine RO_chk (fun hi3 => ?_)
      refine RO_ia lk_251 hi3 dc_Model_firstMeeting_47 ?_
      refine RO_icmp_ne (tgt := 53) dc_Model_firstMeeting_48 rfl ?_ ?_
      · refine RO_iload_n dc_Model_firstMeeting_51 rfl rfl ?_
        exact RO_iret rfl dc_Model_firstMeeting_52
      · refine RO_sub ?_ (rb_Model_firstMeeting_53 p1 p2 k2 H2 v3 mem)
        exact ⟨rfl, rfl, rfl, rfl, trivial⟩
  · refine RO_iconst dc_Model_firstMeeting_59 ?_
    exact RO_iret rfl dc_Model_firstMeeting_60
def lp_Model_firstMeeting_2 (p1 : Int) (p2 : Int)  : Nat → Int → Mm → Res
  | 0 => fun _ _ => none
  | n + 1 => bo_Model_firstMeeting_2 p1 p2  (lp_Model_firstMeeting_2 p1 p2  n)
theorem rp_Model_firstMeeting_2 {E : EE} (p1 : Int) (p2 : Int)    : ∀ (n : Nat) (v3 : Int)  (mem : Mm), RO E mt_Model_firstMeeting (lp_Model_firstMeeting_2 p1 p2  n v3 mem) 2 [(0, rf 203), (1, vi p1), (2, vi p2), (3, vi v3)] [] mem := by
  intro n
  induction n with
  | zero => intro v3  mem; exact RO_none
  | succ n ih => intro v3  mem; exact rb_Model_firstMeeting_2 p1 p2   (lp_Model_firstMeeting_2 p1 p2  n)  ih v3  mem
def fn_Model_firstMeeting (p1 : Int) (p2 : Int) (mem : Mm) : Res := lp_Model_firstMeeting_2 p1 p2 FU 0 mem
set_option maxHeartbeats 4000000 in
theorem pf_Model_firstMeeting {E : EE} (p1 : Int) (p2 : Int)  (mem : Mm) {r : Int} {mem9 : Mm} (h : fn_Model_firstMeeting p1 p2 mem = some (r, mem9)) : MetX E 1 yn_Model_firstMeeting cd_Model_firstMeeting 4 (some .int) [rf 203, vi p1, vi p2] mem r mem9 := by
  refine RO_met (y := yn_Model_firstMeeting) (by decide +kernel) (Nat.le_of_ble_eq_true rfl) ?_ h
  show RO E mt_Model_firstMeeting (fn_Model_firstMeeting p1 p2 mem) 0 [(0, rf 203), (1, vi p1), (2, vi p2)] [] mem
  unfold fn_Model_firstMeeting
  refine RO_iconst dc_Model_firstMeeting_0 ?_
  refine RO_istore_n dc_Model_firstMeeting_1 rfl (Nat.le_of_ble_eq_true rfl) ?_
  refine RO_sub ?_ (rp_Model_firstMeeting_2 p1 p2 FU 0 mem)
  exact ⟨rfl, rfl, rfl, rfl, trivial⟩
def fn_Model_isAlive (p1 : Int) (mem : Mm) : Res := if (iand (ishr (mem 245 (2 : Int).toNat) p1) 1) = 1 then (some (1, mem)) else (some (0, mem))
set_option maxHeartbeats 4000000 in
theorem pf_Model_isAlive {E : EE} (p1 : Int)  (mem : Mm) {r : Int} {mem9 : Mm} (h : fn_Model_isAlive p1 mem = some (r, mem9)) : MetX E 1 yn_Model_isAlive cd_Model_isAlive 2 (some .boolean) [rf 203, vi p1] mem r mem9 := by
  refine RO_met (y := yn_Model_isAlive) (by decide +kernel) (Nat.le_of_ble_eq_true rfl) ?_ h
  show RO E mt_Model_isAlive (fn_Model_isAlive p1 mem) 0 [(0, rf 203), (1, vi p1)] [] mem
  unfold fn_Model_isAlive
  refine RO_aload_n dc_Model_isAlive_0 rfl rfl ?_
  refine RO_getR (b := 245) gf_Model_135 lk_203 rfl dc_Model_isAlive_1 ?_
  refine RO_iconst dc_Model_isAlive_4 ?_
  refine RO_ia lk_245 ⟨by decide, by decide⟩ dc_Model_isAlive_5 ?_
  refine RO_iload_n dc_Model_isAlive_6 rfl rfl ?_
  refine RO_ishr dc_Model_isAlive_7 ?_
  refine RO_iconst dc_Model_isAlive_8 ?_
  refine RO_iand dc_Model_isAlive_9 ?_
  refine RO_iconst dc_Model_isAlive_10 ?_
  refine RO_icmp_ne (tgt := 18) dc_Model_isAlive_11 rfl ?_ ?_
  · refine RO_iconst dc_Model_isAlive_14 ?_
    refine RO_goto (tgt := 19) dc_Model_isAlive_15 rfl ?_
    exact RO_zret rfl (Or.inr rfl) dc_Model_isAlive_19
  · refine RO_iconst dc_Model_isAlive_18 ?_
    exact RO_zret rfl (Or.inl rfl) dc_Model_isAlive_19
def bo_Model_isAsSeen_43 (p1 : Int) (k2 : Int → Mm → Res) (v2 : Int) (s0 : Int) (mem : Mm) : Res := if 0 ≤ v2 ∧ v2 < 40 then if s0 = (mem 243 v2.toNat) then (k2 (w32 (v2 + 1)) mem) else (some (0, mem)) else none
set_option maxHeartbeats 4000000 in
theorem rb_Model_isAsSeen_43 {E : EE} (p1 : Int)  (k2 : Int → Mm → Res) (H2 : ∀ (v2 : Int)  (mem : Mm), RO E mt_Model_isAsSeen (k2 v2 mem) 2 [(0, rf 203), (1, vi p1), (2, vi v2)] [] mem) (v2 : Int) (s0 : Int)  (mem : Mm) : RO E mt_Model_isAsSeen (bo_Model_isAsSeen_43 p1 k2 v2 s0 mem) 43 [(0, rf 203), (1, vi p1), (2, vi v2)] [vi s0] mem := by
  unfold bo_Model_isAsSeen_43
  refine RO_aload_n dc_Model_isAsSeen_43 rfl rfl ?_
  refine RO_getR (b := 243) gf_Model_129 lk_203 rfl dc_Model_isAsSeen_44 ?_
  refine RO_iload_n dc_Model_isAsSeen_47 rfl rfl ?_
  refine RO_chk (fun hi1 => ?_)
  refine RO_za lk_243 hi1 dc_Model_isAsSeen_48 ?_
  refine RO_icmp_eq (tgt := 54) dc_Model_isAsSeen_49 rfl ?_ ?_
  · refine RO_iinc dc_Model_isAsSeen_54 rfl (Nat.le_of_ble_eq_true rfl) ?_
    refine RO_goto (tgt := 2) dc_Model_isAsSeen_57 rfl ?_
    refine RO_sub ?_ (H2 (w32 (v2 + 1)) mem)
    exact ⟨rfl, rfl, rfl, trivial⟩
  · refine RO_iconst dc_Model_isAsSeen_52 ?_
    exact RO_zret rfl (Or.inl rfl) dc_Model_isAsSeen_53
def bo_Model_isAsSeen_2 (p1 : Int) (k2 : Int → Mm → Res) (v2 : Int) (mem : Mm) : Res := if v2 < (mem 240 (0 : Int).toNat) then (if 0 ≤ v2 ∧ v2 < 40 then if 0 ≤ w32 ((w32 (240 * (mem 241 v2.toNat))) + p1) ∧ w32 ((w32 (240 * (mem 241 v2.toNat))) + p1) < 1440 then if 0 ≤ v2 ∧ v2 < 40 then if (mem 251 (w32 ((w32 (240 * (mem 241 v2.toNat))) + p1)).toNat) = (mem 242 v2.toNat) then (bo_Model_isAsSeen_43 p1 k2 v2 1 mem) else (bo_Model_isAsSeen_43 p1 k2 v2 0 mem) else none else none else none) else (some (1, mem))
set_option maxHeartbeats 4000000 in
theorem rb_Model_isAsSeen_2 {E : EE} (p1 : Int)  (k2 : Int → Mm → Res) (H2 : ∀ (v2 : Int)  (mem : Mm), RO E mt_Model_isAsSeen (k2 v2 mem) 2 [(0, rf 203), (1, vi p1), (2, vi v2)] [] mem) (v2 : Int)  (mem : Mm) : RO E mt_Model_isAsSeen (bo_Model_isAsSeen_2 p1 k2 v2 mem) 2 [(0, rf 203), (1, vi p1), (2, vi v2)] [] mem := by
  unfold bo_Model_isAsSeen_2
  refine RO_iload_n dc_Model_isAsSeen_2 rfl rfl ?_
  refine RO_aload_n dc_Model_isAsSeen_3 rfl rfl ?_
  refine RO_getR (b := 240) gf_Model_120 lk_203 rfl dc_Model_isAsSeen_4 ?_
  refine RO_iconst dc_Model_isAsSeen_7 ?_
  refine RO_ia lk_240 ⟨by decide, by decide⟩ dc_Model_isAsSeen_8 ?_
  refine RO_icmp_ge (tgt := 60) dc_Model_isAsSeen_9 rfl ?_ ?_
  · refine RO_aload_n dc_Model_isAsSeen_12 rfl rfl ?_
    refine RO_getR (b := 251) gf_Model_153 lk_203 rfl dc_Model_isAsSeen_13 ?_
    refine RO_sipush dc_Model_isAsSeen_16 ?_
    refine RO_aload_n dc_Model_isAsSeen_19 rfl rfl ?_
    refine RO_getR (b := 241) gf_Model_123 lk_203 rfl dc_Model_isAsSeen_20 ?_
    refine RO_iload_n dc_Model_isAsSeen_23 rfl rfl ?_
    refine RO_chk (fun hi1 => ?_)
    refine RO_ia lk_241 hi1 dc_Model_isAsSeen_24 ?_
    refine RO_imul dc_Model_isAsSeen_25 ?_
    refine RO_iload_n dc_Model_isAsSeen_26 rfl rfl ?_
    refine RO_iadd dc_Model_isAsSeen_27 ?_
    refine RO_chk (fun hi2 => ?_)
    refine RO_ia lk_251 hi2 dc_Model_isAsSeen_28 ?_
    refine RO_aload_n dc_Model_isAsSeen_29 rfl rfl ?_
    refine RO_getR (b := 242) gf_Model_126 lk_203 rfl dc_Model_isAsSeen_30 ?_
    refine RO_iload_n dc_Model_isAsSeen_33 rfl rfl ?_
    refine RO_chk (fun hi3 => ?_)
    refine RO_ia lk_242 hi3 dc_Model_isAsSeen_34 ?_
    refine RO_icmp_ne (tgt := 42) dc_Model_isAsSeen_35 rfl ?_ ?_
    · refine RO_iconst dc_Model_isAsSeen_38 ?_
      refine RO_goto (tgt := 43) dc_Model_isAsSeen_39 rfl ?_
      refine RO_sub ?_ (rb_Model_isAsSeen_43 p1 k2 H2 v2 1 mem)
      exact ⟨rfl, rfl, rfl, trivial⟩
    · refine RO_iconst dc_Model_isAsSeen_42 ?_
      refine RO_sub ?_ (rb_Model_isAsSeen_43 p1 k2 H2 v2 0 mem)
      exact ⟨rfl, rfl, rfl, trivial⟩
  · refine RO_iconst dc_Model_isAsSeen_60 ?_
    exact RO_zret rfl (Or.inr rfl) dc_Model_isAsSeen_61
def lp_Model_isAsSeen_2 (p1 : Int)  : Nat → Int → Mm → Res
  | 0 => fun _ _ => none
  | n + 1 => bo_Model_isAsSeen_2 p1  (lp_Model_isAsSeen_2 p1  n)
theorem rp_Model_isAsSeen_2 {E : EE} (p1 : Int)    : ∀ (n : Nat) (v2 : Int)  (mem : Mm), RO E mt_Model_isAsSeen (lp_Model_isAsSeen_2 p1  n v2 mem) 2 [(0, rf 203), (1, vi p1), (2, vi v2)] [] mem := by
  intro n
  induction n with
  | zero => intro v2  mem; exact RO_none
  | succ n ih => intro v2  mem; exact rb_Model_isAsSeen_2 p1   (lp_Model_isAsSeen_2 p1  n)  ih v2  mem
def fn_Model_isAsSeen (p1 : Int) (mem : Mm) : Res := lp_Model_isAsSeen_2 p1 FU 0 mem
set_option maxHeartbeats 4000000 in
theorem pf_Model_isAsSeen {E : EE} (p1 : Int)  (mem : Mm) {r : Int} {mem9 : Mm} (h : fn_Model_isAsSeen p1 mem = some (r, mem9)) : MetX E 1 yn_Model_isAsSeen cd_Model_isAsSeen 3 (some .boolean) [rf 203, vi p1] mem r mem9 := by
  refine RO_met (y := yn_Model_isAsSeen) (by decide +kernel) (Nat.le_of_ble_eq_true rfl) ?_ h
  show RO E mt_Model_isAsSeen (fn_Model_isAsSeen p1 mem) 0 [(0, rf 203), (1, vi p1)] [] mem
  unfold fn_Model_isAsSeen
  refine RO_iconst dc_Model_isAsSeen_0 ?_
  refine RO_istore_n dc_Model_isAsSeen_1 rfl (Nat.le_of_ble_eq_true rfl) ?_
  refine RO_sub ?_ (rp_Model_isAsSeen_2 p1 FU 0 mem)
  exact ⟨rfl, rfl, rfl, trivial⟩
def bo_Model_thereAt_42 (p1 : Int) (p2 : Int) (k5 : Int → Int → Mm → Res) (v4 : Int) (s0 : Int) (s1 : Int) (mem : Mm) : Res := bn (ior s0 s1) fun x1 => k5 x1 (w32 (v4 + 1)) mem
set_option maxHeartbeats 4000000 in
theorem rb_Model_thereAt_42 {E : EE} (p1 : Int) (p2 : Int)  (k5 : Int → Int → Mm → Res) (H5 : ∀ (v3 : Int) (v4 : Int)  (mem : Mm), RO E mt_Model_thereAt (k5 v3 v4 mem) 5 [(0, rf 203), (1, vi p1), (2, vi p2), (3, vi v3), (4, vi v4)] [] mem) (v4 : Int) (s0 : Int) (s1 : Int)  (mem : Mm) : RO E mt_Model_thereAt (bo_Model_thereAt_42 p1 p2 k5 v4 s0 s1 mem) 42 [(0, rf 203), (1, vi p1), (2, vi p2), (4, vi v4)] [vi s1, vi s0] mem := by
  unfold bo_Model_thereAt_42
  refine RO_ior dc_Model_thereAt_42 ?_
  refine RO_bnT (fun x1 => ?_)
  refine RO_istore_n dc_Model_thereAt_43 rfl (Nat.le_of_ble_eq_true rfl) ?_
  refine RO_iinc dc_Model_thereAt_44 rfl (Nat.le_of_ble_eq_true rfl) ?_
  refine RO_goto (tgt := 5) dc_Model_thereAt_47 rfl ?_
  refine RO_sub ?_ (H5 x1 (w32 (v4 + 1)) mem)
  exact ⟨rfl, rfl, rfl, rfl, rfl, trivial⟩
def bo_Model_thereAt_5 (p1 : Int) (p2 : Int) (k5 : Int → Int → Mm → Res) (v3 : Int) (v4 : Int) (mem : Mm) : Res := if v4 < (mem 205 (1 : Int).toNat) then (if 0 ≤ w32 ((w32 (240 * v4)) + p2) ∧ w32 ((w32 (240 * v4)) + p2) < 1440 then if (mem 251 (w32 ((w32 (240 * v4)) + p2)).toNat) = p1 then (bo_Model_thereAt_42 p1 p2 k5 v4 v3 (ishl 1 v4) mem) else (bo_Model_thereAt_42 p1 p2 k5 v4 v3 0 mem) else none) else (some (v3, mem))
set_option maxHeartbeats 4000000 in
theorem rb_Model_thereAt_5 {E : EE} (p1 : Int) (p2 : Int)  (k5 : Int → Int → Mm → Res) (H5 : ∀ (v3 : Int) (v4 : Int)  (mem : Mm), RO E mt_Model_thereAt (k5 v3 v4 mem) 5 [(0, rf 203), (1, vi p1), (2, vi p2), (3, vi v3), (4, vi v4)] [] mem) (v3 : Int) (v4 : Int)  (mem : Mm) : RO E mt_Model_thereAt (bo_Model_thereAt_5 p1 p2 k5 v3 v4 mem) 5 [(0, rf 203), (1, vi p1), (2, vi p2), (3, vi v3), (4, vi v4)] [] mem := by
  unfold bo_Model_thereAt_5
  refine RO_iload dc_Model_thereAt_5 rfl ?_
  refine RO_aload_n dc_Model_thereAt_7 rfl rfl ?_
  refine RO_getR (b := 205) gf_Model_13 lk_203 rfl dc_Model_thereAt_8 ?_
  refine RO_iconst dc_Model_thereAt_11 ?_
  refine RO_ia lk_205 ⟨by decide, by decide⟩ dc_Model_thereAt_12 ?_
  refine RO_icmp_ge (tgt := 50) dc_Model_thereAt_13 rfl ?_ ?_
  · refine RO_iload_n dc_Model_thereAt_16 rfl rfl ?_
    refine RO_aload_n dc_Model_thereAt_17 rfl rfl ?_
    refine RO_getR (b := 251) gf_Model_153 lk_203 rfl dc_Model_thereAt_18 ?_
    refine RO_sipush dc_Model_thereAt_21 ?_
    refine RO_iload dc_Model_thereAt_24 rfl ?_
    refine RO_imul dc_Model_thereAt_26 ?_
    refine RO_iload_n dc_Model_thereAt_27 rfl rfl ?_
    refine RO_iadd dc_Model_thereAt_28 ?_
    refine RO_chk (fun hi1 => ?_)
    refine RO_ia lk_251 hi1 dc_Model_thereAt_29 ?_
    refine RO_iload_n dc_Model_thereAt_30 rfl rfl ?_
    refine RO_icmp_ne (tgt := 41) dc_Model_thereAt_31 rfl ?_ ?_
    · refine RO_iconst dc_Model_thereAt_34 ?_
      refine RO_iload dc_Model_thereAt_35 rfl ?_
      refine RO_ishl dc_Model_thereAt_37 ?_
      refine RO_goto (tgt := 42) dc_Model_thereAt_38 rfl ?_
      refine RO_sub ?_ (rb_Model_thereAt_42 p1 p2 k5 H5 v4 v3 (ishl 1 v4) mem)
      exact ⟨rfl, rfl, rfl, rfl, trivial⟩
    · refine RO_iconst dc_Model_thereAt_41 ?_
      refine RO_sub ?_ (rb_Model_thereAt_42 p1 p2 k5 H5 v4 v3 0 mem)
      exact ⟨rfl, rfl, rfl, rfl, trivial⟩
  · refine RO_iload_n dc_Model_thereAt_50 rfl rfl ?_
    exact RO_iret rfl dc_Model_thereAt_51
def lp_Model_thereAt_5 (p1 : Int) (p2 : Int)  : Nat → Int → Int → Mm → Res
  | 0 => fun _ _ _ => none
  | n + 1 => bo_Model_thereAt_5 p1 p2  (lp_Model_thereAt_5 p1 p2  n)
theorem rp_Model_thereAt_5 {E : EE} (p1 : Int) (p2 : Int)    : ∀ (n : Nat) (v3 : Int) (v4 : Int)  (mem : Mm), RO E mt_Model_thereAt (lp_Model_thereAt_5 p1 p2  n v3 v4 mem) 5 [(0, rf 203), (1, vi p1), (2, vi p2), (3, vi v3), (4, vi v4)] [] mem := by
  intro n
  induction n with
  | zero => intro v3 v4  mem; exact RO_none
  | succ n ih => intro v3 v4  mem; exact rb_Model_thereAt_5 p1 p2   (lp_Model_thereAt_5 p1 p2  n)  ih v3 v4  mem
def fn_Model_thereAt (p1 : Int) (p2 : Int) (mem : Mm) : Res := lp_Model_thereAt_5 p1 p2 FU 0 0 mem
set_option maxHeartbeats 4000000 in
theorem pf_Model_thereAt {E : EE} (p1 : Int) (p2 : Int)  (mem : Mm) {r : Int} {mem9 : Mm} (h : fn_Model_thereAt p1 p2 mem = some (r, mem9)) : MetX E 1 yn_Model_thereAt cd_Model_thereAt 5 (some .int) [rf 203, vi p1, vi p2] mem r mem9 := by
  refine RO_met (y := yn_Model_thereAt) (by decide +kernel) (Nat.le_of_ble_eq_true rfl) ?_ h
  show RO E mt_Model_thereAt (fn_Model_thereAt p1 p2 mem) 0 [(0, rf 203), (1, vi p1), (2, vi p2)] [] mem
  unfold fn_Model_thereAt
  refine RO_iconst dc_Model_thereAt_0 ?_
  refine RO_istore_n dc_Model_thereAt_1 rfl (Nat.le_of_ble_eq_true rfl) ?_
  refine RO_iconst dc_Model_thereAt_2 ?_
  refine RO_istore dc_Model_thereAt_3 (Nat.le_of_ble_eq_true rfl) ?_
  refine RO_sub ?_ (rp_Model_thereAt_5 p1 p2 FU 0 0 mem)
  exact ⟨rfl, rfl, rfl, rfl, rfl, trivial⟩
def bo_Model_firstMeetingAt_48 (p1 : Int) (p2 : Int) (p3 : Int) (k3 : Int → Mm → Res) (v4 : Int) (mem : Mm) : Res := k3 (w32 (v4 + 1)) mem
set_option maxHeartbeats 4000000 in
theorem rb_Model_firstMeetingAt_48 {E : EE} (p1 : Int) (p2 : Int) (p3 : Int)  (k3 : Int → Mm → Res) (H3 : ∀ (v4 : Int)  (mem : Mm), RO E mt_Model_firstMeetingAt (k3 v4 mem) 3 [(0, rf 203), (1, vi p1), (2, vi p2), (3, vi p3), (4, vi v4)] [] mem) (v4 : Int)  (mem : Mm) : RO E mt_Model_firstMeetingAt (bo_Model_firstMeetingAt_48 p1 p2 p3 k3 v4 mem) 48 [(0, rf 203), (1, vi p1), (2, vi p2), (3, vi p3), (4, vi v4)] [] mem := by
  unfold bo_Model_firstMeetingAt_48
  refine RO_iinc dc_Model_firstMeetingAt_48 rfl (Nat.le_of_ble_eq_true rfl) ?_
  refine RO_goto (tgt := 3) dc_Model_firstMeetingAt_51 rfl ?_
  refine RO_sub ?_ (H3 (w32 (v4 + 1)) mem)
  exact ⟨rfl, rfl, rfl, rfl, rfl, trivial⟩
def bo_Model_firstMeetingAt_3 (p1 : Int) (p2 : Int) (p3 : Int) (k3 : Int → Mm → Res) (v4 : Int) (mem : Mm) : Res := if v4 < 240 then (if 0 ≤ w32 ((w32 (240 * p1)) + v4) ∧ w32 ((w32 (240 * p1)) + v4) < 1440 then if (mem 251 (w32 ((w32 (240 * p1)) + v4)).toNat) = p3 then (if 0 ≤ w32 ((w32 (240 * p2)) + v4) ∧ w32 ((w32 (240 * p2)) + v4) < 1440 then if (mem 251 (w32 ((w32 (240 * p2)) + v4)).toNat) = p3 then (some (v4, mem)) else (bo_Model_firstMeetingAt_48 p1 p2 p3 k3 v4 mem) else none) else (bo_Model_firstMeetingAt_48 p1 p2 p3 k3 v4 mem) else none) else (some ((-1), mem))
set_option maxHeartbeats 4000000 in
theorem rb_Model_firstMeetingAt_3 {E : EE} (p1 : Int) (p2 : Int) (p3 : Int)  (k3 : Int → Mm → Res) (H3 : ∀ (v4 : Int)  (mem : Mm), RO E mt_Model_firstMeetingAt (k3 v4 mem) 3 [(0, rf 203), (1, vi p1), (2, vi p2), (3, vi p3), (4, vi v4)] [] mem) (v4 : Int)  (mem : Mm) : RO E mt_Model_firstMeetingAt (bo_Model_firstMeetingAt_3 p1 p2 p3 k3 v4 mem) 3 [(0, rf 203), (1, vi p1), (2, vi p2), (3, vi p3), (4, vi v4)] [] mem := by
  unfold bo_Model_firstMeetingAt_3
  refine RO_iload dc_Model_firstMeetingAt_3 rfl ?_
  refine RO_sipush dc_Model_firstMeetingAt_5 ?_
  refine RO_icmp_ge (tgt := 54) dc_Model_firstMeetingAt_8 rfl ?_ ?_
  · refine RO_aload_n dc_Model_firstMeetingAt_11 rfl rfl ?_
    refine RO_getR (b := 251) gf_Model_153 lk_203 rfl dc_Model_firstMeetingAt_12 ?_
    refine RO_sipush dc_Model_firstMeetingAt_15 ?_
    refine RO_iload_n dc_Model_firstMeetingAt_18 rfl rfl ?_
    refine RO_imul dc_Model_firstMeetingAt_19 ?_
    refine RO_iload dc_Model_firstMeetingAt_20 rfl ?_
    refine RO_iadd dc_Model_firstMeetingAt_22 ?_
    refine RO_chk (fun hi1 => ?_)
    refine RO_ia lk_251 hi1 dc_Model_firstMeetingAt_23 ?_
    refine RO_iload_n dc_Model_firstMeetingAt_24 rfl rfl ?_
    refine RO_icmp_ne (tgt := 48) dc_Model_firstMeetingAt_25 rfl ?_ ?_
    · refine RO_aload_n dc_Model_firstMeetingAt_28 rfl rfl ?_
      refine RO_getR (b := 251) gf_Model_153 lk_203 rfl dc_Model_firstMeetingAt_29 ?_
      refine RO_sipush dc_Model_firstMeetingAt_32 ?_
      refine RO_iload_n dc_Model_firstMeetingAt_35 rfl rfl ?_
      refine RO_imul dc_Model_firstMeetingAt_36 ?_
      refine RO_iload dc_Model_firstMeetingAt_37 rfl ?_
      refine RO_iadd dc_Model_firstMeetingAt_39 ?_
      refine RO_chk (fun hi2 => ?_)
      refine RO_ia lk_251 hi2 dc_Model_firstMeetingAt_40 ?_
      refine RO_iload_n dc_Model_firstMeetingAt_41 rfl rfl ?_
      refine RO_icmp_ne (tgt := 48) dc_Model_firstMeetingAt_42 rfl ?_ ?_
      · refine RO_iload dc_Model_firstMeetingAt_45 rfl ?_
        exact RO_iret rfl dc_Model_firstMeetingAt_47
      · refine RO_sub ?_ (rb_Model_firstMeetingAt_48 p1 p2 p3 k3 H3 v4 mem)
        exact ⟨rfl, rfl, rfl, rfl, rfl, trivial⟩
    · refine RO_sub ?_ (rb_Model_firstMeetingAt_48 p1 p2 p3 k3 H3 v4 mem)
      exact ⟨rfl, rfl, rfl, rfl, rfl, trivial⟩
  · refine RO_iconst dc_Model_firstMeetingAt_54 ?_
    exact RO_iret rfl dc_Model_firstMeetingAt_55
def lp_Model_firstMeetingAt_3 (p1 : Int) (p2 : Int) (p3 : Int)  : Nat → Int → Mm → Res
  | 0 => fun _ _ => none
  | n + 1 => bo_Model_firstMeetingAt_3 p1 p2 p3  (lp_Model_firstMeetingAt_3 p1 p2 p3  n)
theorem rp_Model_firstMeetingAt_3 {E : EE} (p1 : Int) (p2 : Int) (p3 : Int)    : ∀ (n : Nat) (v4 : Int)  (mem : Mm), RO E mt_Model_firstMeetingAt (lp_Model_firstMeetingAt_3 p1 p2 p3  n v4 mem) 3 [(0, rf 203), (1, vi p1), (2, vi p2), (3, vi p3), (4, vi v4)] [] mem := by
  intro n
  induction n with
  | zero => intro v4  mem; exact RO_none
  | succ n ih => intro v4  mem; exact rb_Model_firstMeetingAt_3 p1 p2 p3   (lp_Model_firstMeetingAt_3 p1 p2 p3  n)  ih v4  mem
def fn_Model_firstMeetingAt (p1 : Int) (p2 : Int) (p3 : Int) (mem : Mm) : Res := lp_Model_firstMeetingAt_3 p1 p2 p3 FU 0 mem
set_option maxHeartbeats 4000000 in
theorem pf_Model_firstMeetingAt {E : EE} (p1 : Int) (p2 : Int) (p3 : Int)  (mem : Mm) {r : Int} {mem9 : Mm} (h : fn_Model_firstMeetingAt p1 p2 p3 mem = some (r, mem9)) : MetX E 1 yn_Model_firstMeetingAt cd_Model_firstMeetingAt 5 (some .int) [rf 203, vi p1, vi p2, vi p3] mem r mem9 := by
  refine RO_met (y := yn_Model_firstMeetingAt) (by decide +kernel) (Nat.le_of_ble_eq_true rfl) ?_ h
  show RO E mt_Model_firstMeetingAt (fn_Model_firstMeetingAt p1 p2 p3 mem) 0 [(0, rf 203), (1, vi p1), (2, vi p2), (3, vi p3)] [] mem
  unfold fn_Model_firstMeetingAt
  refine RO_iconst dc_Model_firstMeetingAt_0 ?_
  refine RO_istore dc_Model_firstMeetingAt_1 (Nat.le_of_ble_eq_true rfl) ?_
  refine RO_sub ?_ (rp_Model_firstMeetingAt_3 p1 p2 p3 FU 0 mem)
  exact ⟨rfl, rfl, rfl, rfl, rfl, trivial⟩
def bo_Model_grown_32 (p0 : Int) (p2 : Int) (k5 : Int → Int → Mm → Res) (v3 : Int) (v5 : Int) (mem : Mm) : Res := k5 v3 (w32 (v5 + 1)) mem
set_option maxHeartbeats 4000000 in
theorem rb_Model_grown_32 {E : EE} (p0 : Int) (p2 : Int)  (k5 : Int → Int → Mm → Res) (H5 : ∀ (v3 : Int) (v5 : Int)  (mem : Mm), RO E mt_Model_grown (k5 v3 v5 mem) 5 [(0, vl p0), (2, vi p2), (3, vl v3), (5, vi v5)] [] mem) (v3 : Int) (v5 : Int)  (mem : Mm) : RO E mt_Model_grown (bo_Model_grown_32 p0 p2 k5 v3 v5 mem) 32 [(0, vl p0), (2, vi p2), (3, vl v3), (5, vi v5)] [] mem := by
  unfold bo_Model_grown_32
  refine RO_iinc dc_Model_grown_32 rfl (Nat.le_of_ble_eq_true rfl) ?_
  refine RO_goto (tgt := 5) dc_Model_grown_35 rfl ?_
  refine RO_sub ?_ (H5 v3 (w32 (v5 + 1)) mem)
  exact ⟨rfl, rfl, rfl, rfl, trivial⟩
def bo_Model_grown_5 (p0 : Int) (p2 : Int) (k5 : Int → Int → Mm → Res) (v3 : Int) (v5 : Int) (mem : Mm) : Res := if v5 < 64 then (if (lcm (land (lshr p0 v5) 1) 1) = 0 then (bn (lor v3 (lshl 1 (ior v5 p2))) fun x1 => bo_Model_grown_32 p0 p2 k5 x1 v5 mem) else (bo_Model_grown_32 p0 p2 k5 v3 v5 mem)) else (some (v3, mem))
set_option maxHeartbeats 4000000 in
theorem rb_Model_grown_5 {E : EE} (p0 : Int) (p2 : Int)  (k5 : Int → Int → Mm → Res) (H5 : ∀ (v3 : Int) (v5 : Int)  (mem : Mm), RO E mt_Model_grown (k5 v3 v5 mem) 5 [(0, vl p0), (2, vi p2), (3, vl v3), (5, vi v5)] [] mem) (v3 : Int) (v5 : Int)  (mem : Mm) : RO E mt_Model_grown (bo_Model_grown_5 p0 p2 k5 v3 v5 mem) 5 [(0, vl p0), (2, vi p2), (3, vl v3), (5, vi v5)] [] mem := by
  unfold bo_Model_grown_5
  refine RO_iload dc_Model_grown_5 rfl ?_
  refine RO_bipush dc_Model_grown_7 ?_
  refine RO_icmp_ge (tgt := 38) dc_Model_grown_9 rfl ?_ ?_
  · refine RO_lload_n dc_Model_grown_12 rfl rfl ?_
    refine RO_iload dc_Model_grown_13 rfl ?_
    refine RO_lshr dc_Model_grown_15 ?_
    refine RO_lconst (x := 1) dc_Model_grown_16 ⟨by decide, ⟨by decide, by decide⟩⟩ ?_
    refine RO_land dc_Model_grown_17 ?_
    refine RO_lconst (x := 1) dc_Model_grown_18 ⟨by decide, ⟨by decide, by decide⟩⟩ ?_
    refine RO_lcmp dc_Model_grown_19 ?_
    refine RO_if_ne (tgt := 32) dc_Model_grown_20 rfl ?_ ?_
    · refine RO_lload_n dc_Model_grown_23 rfl rfl ?_
      refine RO_lconst (x := 1) dc_Model_grown_24 ⟨by decide, ⟨by decide, by decide⟩⟩ ?_
      refine RO_iload dc_Model_grown_25 rfl ?_
      refine RO_iload_n dc_Model_grown_27 rfl rfl ?_
      refine RO_ior dc_Model_grown_28 ?_
      refine RO_lshl dc_Model_grown_29 ?_
      refine RO_lor dc_Model_grown_30 ?_
      refine RO_bnT (fun x1 => ?_)
      refine RO_lstore_n dc_Model_grown_31 rfl (Nat.le_of_ble_eq_true rfl) ?_
      refine RO_sub ?_ (rb_Model_grown_32 p0 p2 k5 H5 x1 v5 mem)
      exact ⟨rfl, rfl, rfl, rfl, trivial⟩
    · refine RO_sub ?_ (rb_Model_grown_32 p0 p2 k5 H5 v3 v5 mem)
      exact ⟨rfl, rfl, rfl, rfl, trivial⟩
  · refine RO_lload_n dc_Model_grown_38 rfl rfl ?_
    exact RO_lret rfl dc_Model_grown_39
def lp_Model_grown_5 (p0 : Int) (p2 : Int)  : Nat → Int → Int → Mm → Res
  | 0 => fun _ _ _ => none
  | n + 1 => bo_Model_grown_5 p0 p2  (lp_Model_grown_5 p0 p2  n)
theorem rp_Model_grown_5 {E : EE} (p0 : Int) (p2 : Int)    : ∀ (n : Nat) (v3 : Int) (v5 : Int)  (mem : Mm), RO E mt_Model_grown (lp_Model_grown_5 p0 p2  n v3 v5 mem) 5 [(0, vl p0), (2, vi p2), (3, vl v3), (5, vi v5)] [] mem := by
  intro n
  induction n with
  | zero => intro v3 v5  mem; exact RO_none
  | succ n ih => intro v3 v5  mem; exact rb_Model_grown_5 p0 p2   (lp_Model_grown_5 p0 p2  n)  ih v3 v5  mem
def fn_Model_grown (p0 : Int) (p2 : Int) (mem : Mm) : Res := lp_Model_grown_5 p0 p2 FU 0 0 mem
set_option maxHeartbeats 4000000 in
theorem pf_Model_grown {E : EE} (p0 : Int) (p2 : Int)  (mem : Mm) {r : Int} {mem9 : Mm} (h : fn_Model_grown p0 p2 mem = some (r, mem9)) : MetX E 1 yn_Model_grown cd_Model_grown 6 (some .long) [vl p0, vi p2] mem r mem9 := by
  refine RO_met (y := yn_Model_grown) (by decide +kernel) (Nat.le_of_ble_eq_true rfl) ?_ h
  show RO E mt_Model_grown (fn_Model_grown p0 p2 mem) 0 [(0, vl p0), (2, vi p2)] [] mem
  unfold fn_Model_grown
  refine RO_lconst (x := 0) dc_Model_grown_0 ⟨by decide, ⟨by decide, by decide⟩⟩ ?_
  refine RO_lstore_n dc_Model_grown_1 rfl (Nat.le_of_ble_eq_true rfl) ?_
  refine RO_iconst dc_Model_grown_2 ?_
  refine RO_istore dc_Model_grown_3 (Nat.le_of_ble_eq_true rfl) ?_
  refine RO_sub ?_ (rp_Model_grown_5 p0 p2 FU 0 0 mem)
  exact ⟨rfl, rfl, rfl, rfl, trivial⟩
