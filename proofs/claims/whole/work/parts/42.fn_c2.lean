def fn_StringLatin1_canEncode (p0 : Int) (mem : Mm) : Res := if p0 < 0 then (some (0, mem)) else (if 255 < p0 then (some (0, mem)) else (some (1, mem)))
set_option maxHeartbeats 4000000 in
theorem pf_StringLatin1_canEncode {E : EE} (p0 : Int)  (mem : Mm) {r : Int} {mem9 : Mm} (h : fn_StringLatin1_canEncode p0 mem = some (r, mem9)) : MetX E 1 yn_StringLatin1_canEncode cd_StringLatin1_canEncode 1 (some .boolean) [vi p0] mem r mem9 := by
  refine RO_met (y := yn_StringLatin1_canEncode) (by decide +kernel) (Nat.le_of_ble_eq_true rfl) ?_ h
  show RO E mt_StringLatin1_canEncode (fn_StringLatin1_canEncode p0 mem) 0 [(0, vi p0)] [] mem
  unfold fn_StringLatin1_canEncode
  refine RO_iload_n dc_StringLatin1_canEncode_0 rfl rfl ?_
  refine RO_if_lt (tgt := 15) dc_StringLatin1_canEncode_1 rfl ?_ ?_
  · refine RO_iconst dc_StringLatin1_canEncode_15 ?_
    exact RO_zret rfl (Or.inl rfl) dc_StringLatin1_canEncode_16
  · refine RO_iload_n dc_StringLatin1_canEncode_4 rfl rfl ?_
    refine RO_sipush dc_StringLatin1_canEncode_5 ?_
    refine RO_icmp_gt (tgt := 15) dc_StringLatin1_canEncode_8 rfl ?_ ?_
    · refine RO_iconst dc_StringLatin1_canEncode_15 ?_
      exact RO_zret rfl (Or.inl rfl) dc_StringLatin1_canEncode_16
    · refine RO_iconst dc_StringLatin1_canEncode_11 ?_
      refine RO_goto (tgt := 16) dc_StringLatin1_canEncode_12 rfl ?_
      exact RO_zret rfl (Or.inr rfl) dc_StringLatin1_canEncode_16
def bo_StringLatin1_indexOfChar_7 (p1 : Int) (p2 : Int) (p3 : Int) (k7 : Int → Int → Mm → Res) (v4 : Int) (v5 : Int) (mem : Mm) : Res := if v5 < p3 then (if 0 ≤ v5 ∧ v5 < 8 then if (bsS v5.toNat) = v4 then (some (v5, mem)) else (k7 v4 (w32 (v5 + 1)) mem) else none) else (some ((-1), mem))
set_option maxHeartbeats 4000000 in
theorem rb_StringLatin1_indexOfChar_7 {E : EE} (p1 : Int) (p2 : Int) (p3 : Int)  (k7 : Int → Int → Mm → Res) (H7 : ∀ (v4 : Int) (v5 : Int)  (mem : Mm), RO E mt_StringLatin1_indexOfChar (k7 v4 v5 mem) 7 [(0, vk 31), (3, vi p3), (4, vi v4), (5, vi v5)] [] mem) (v4 : Int) (v5 : Int)  (mem : Mm) : RO E mt_StringLatin1_indexOfChar (bo_StringLatin1_indexOfChar_7 p1 p2 p3 k7 v4 v5 mem) 7 [(0, vk 31), (3, vi p3), (4, vi v4), (5, vi v5)] [] mem := by
  unfold bo_StringLatin1_indexOfChar_7
  refine RO_iload dc_StringLatin1_indexOfChar_7 rfl ?_
  refine RO_iload_n dc_StringLatin1_indexOfChar_9 rfl rfl ?_
  refine RO_icmp_ge (tgt := 31) dc_StringLatin1_indexOfChar_10 rfl ?_ ?_
  · refine RO_kload_n dc_StringLatin1_indexOfChar_13 rfl rfl ?_
    refine RO_iload dc_StringLatin1_indexOfChar_14 rfl ?_
    refine RO_chk (fun hi1 => ?_)
    refine RO_baS hi1 dc_StringLatin1_indexOfChar_16 ?_
    refine RO_iload dc_StringLatin1_indexOfChar_17 rfl ?_
    refine RO_icmp_ne (tgt := 25) dc_StringLatin1_indexOfChar_19 rfl ?_ ?_
    · refine RO_iload dc_StringLatin1_indexOfChar_22 rfl ?_
      exact RO_iret rfl dc_StringLatin1_indexOfChar_24
    · refine RO_iinc dc_StringLatin1_indexOfChar_25 rfl (Nat.le_of_ble_eq_true rfl) ?_
      refine RO_goto (tgt := 7) dc_StringLatin1_indexOfChar_28 rfl ?_
      refine RO_sub ?_ (H7 v4 (w32 (v5 + 1)) mem)
      exact ⟨rfl, rfl, rfl, rfl, trivial⟩
  · refine RO_iconst dc_StringLatin1_indexOfChar_31 ?_
    exact RO_iret rfl dc_StringLatin1_indexOfChar_32
def lp_StringLatin1_indexOfChar_7 (p1 : Int) (p2 : Int) (p3 : Int)  : Nat → Int → Int → Mm → Res
  | 0 => fun _ _ _ => none
  | n + 1 => bo_StringLatin1_indexOfChar_7 p1 p2 p3  (lp_StringLatin1_indexOfChar_7 p1 p2 p3  n)
theorem rp_StringLatin1_indexOfChar_7 {E : EE} (p1 : Int) (p2 : Int) (p3 : Int)    : ∀ (n : Nat) (v4 : Int) (v5 : Int)  (mem : Mm), RO E mt_StringLatin1_indexOfChar (lp_StringLatin1_indexOfChar_7 p1 p2 p3  n v4 v5 mem) 7 [(0, vk 31), (3, vi p3), (4, vi v4), (5, vi v5)] [] mem := by
  intro n
  induction n with
  | zero => intro v4 v5  mem; exact RO_none
  | succ n ih => intro v4 v5  mem; exact rb_StringLatin1_indexOfChar_7 p1 p2 p3   (lp_StringLatin1_indexOfChar_7 p1 p2 p3  n)  ih v4 v5  mem
def fn_StringLatin1_indexOfChar (p1 : Int) (p2 : Int) (p3 : Int) (mem : Mm) : Res := bn (i2b p1) fun x1 => lp_StringLatin1_indexOfChar_7 p1 p2 p3 FU x1 p2 mem
set_option maxHeartbeats 4000000 in
theorem pf_StringLatin1_indexOfChar {E : EE} (p1 : Int) (p2 : Int) (p3 : Int)  (mem : Mm) {r : Int} {mem9 : Mm} (h : fn_StringLatin1_indexOfChar p1 p2 p3 mem = some (r, mem9)) : MetX E 1 yn_StringLatin1_indexOfChar cd_StringLatin1_indexOfChar 6 (some .int) [vk 31, vi p1, vi p2, vi p3] mem r mem9 := by
  refine RO_met (y := yn_StringLatin1_indexOfChar) (by decide +kernel) (Nat.le_of_ble_eq_true rfl) ?_ h
  show RO E mt_StringLatin1_indexOfChar (fn_StringLatin1_indexOfChar p1 p2 p3 mem) 0 [(0, vk 31), (1, vi p1), (2, vi p2), (3, vi p3)] [] mem
  unfold fn_StringLatin1_indexOfChar
  refine RO_iload_n dc_StringLatin1_indexOfChar_0 rfl rfl ?_
  refine RO_i2b dc_StringLatin1_indexOfChar_1 ?_
  refine RO_bnT (fun x1 => ?_)
  refine RO_istore dc_StringLatin1_indexOfChar_2 (Nat.le_of_ble_eq_true rfl) ?_
  refine RO_iload_n dc_StringLatin1_indexOfChar_4 rfl rfl ?_
  refine RO_istore dc_StringLatin1_indexOfChar_5 (Nat.le_of_ble_eq_true rfl) ?_
  refine RO_sub ?_ (rp_StringLatin1_indexOfChar_7 p1 p2 p3 FU x1 p2 mem)
  exact ⟨rfl, rfl, rfl, rfl, trivial⟩
def fn_Clock_way (p1 : Int) (p2 : Int) (mem : Mm) : Res := bd (fn_Clock_isPlace p1 mem) fun r1 m2 => if r1 = 0 then (some ((-1), m2)) else (bd (fn_Clock_isPlace p2 m2) fun r3 m4 => if r3 = 0 then (some ((-1), m4)) else (if isK 0 (m4 0 2) = true then if 0 ≤ w32 ((w32 (p1 * 6)) + p2) ∧ w32 ((w32 (p1 * 6)) + p2) < 36 then some (m4 ((m4 0 2).toNat + 5) (w32 ((w32 (p1 * 6)) + p2)).toNat, m4) else none else none))
set_option maxHeartbeats 4000000 in
theorem pf_Clock_way {E : EE} (p1 : Int) (p2 : Int)  (mem : Mm) {r : Int} {mem9 : Mm} (h : fn_Clock_way p1 p2 mem = some (r, mem9)) : MetX E 2 yn_Clock_way cd_Clock_way 3 (some .int) [rf 0, vi p1, vi p2] mem r mem9 := by
  refine RO_met (y := yn_Clock_way) (by decide +kernel) (Nat.le_of_ble_eq_true rfl) ?_ h
  show RO E mt_Clock_way (fn_Clock_way p1 p2 mem) 0 [(0, rf 0), (1, vi p1), (2, vi p2)] [] mem
  unfold fn_Clock_way
  refine RO_aload_n dc_Clock_way_0 rfl rfl ?_
  refine RO_iload_n dc_Clock_way_1 rfl rfl ?_
  refine RO_callVi (As := [vi p1]) (rest := []) mi_Clock_isPlace mv_Clock_isPlace ml_Clock_124 lk_0 (Nat.le_of_ble_eq_true rfl) rfl (Nat.le_of_ble_eq_true rfl) (fun _ => rfl) dc_Clock_way_2 (fun rq mq hq => pf_Clock_isPlace p1  mem hq) (fun r1 m2 => ?_)
  refine RO_if_eq (tgt := 33) dc_Clock_way_5 rfl ?_ ?_
  · refine RO_iconst dc_Clock_way_33 ?_
    exact RO_iret rfl dc_Clock_way_34
  · refine RO_aload_n dc_Clock_way_8 rfl rfl ?_
    refine RO_iload_n dc_Clock_way_9 rfl rfl ?_
    refine RO_callVi (As := [vi p2]) (rest := []) mi_Clock_isPlace mv_Clock_isPlace ml_Clock_124 lk_0 (Nat.le_of_ble_eq_true rfl) rfl (Nat.le_of_ble_eq_true rfl) (fun _ => rfl) dc_Clock_way_10 (fun rq mq hq => pf_Clock_isPlace p2  m2 hq) (fun r3 m4 => ?_)
    refine RO_if_eq (tgt := 33) dc_Clock_way_13 rfl ?_ ?_
    · refine RO_iconst dc_Clock_way_33 ?_
      exact RO_iret rfl dc_Clock_way_34
    · refine RO_aload_n dc_Clock_way_16 rfl rfl ?_
      refine RO_chk (fun hz5 => ?_)
      refine RO_getM gf_Clock_28 lk_0 (isK_0 hz5) dc_Clock_way_17 ?_
      refine RO_getR (b := ((m4 0 2).toNat + 5)) gf_Clock_128 (kd_0 hz5) (by omega) dc_Clock_way_20 ?_
      refine RO_iload_n dc_Clock_way_23 rfl rfl ?_
      refine RO_bipush dc_Clock_way_24 ?_
      refine RO_imul dc_Clock_way_26 ?_
      refine RO_iload_n dc_Clock_way_27 rfl rfl ?_
      refine RO_iadd dc_Clock_way_28 ?_
      refine RO_chk (fun hi6 => ?_)
      refine RO_ia (cl_0_9 (kd_0 hz5)) hi6 dc_Clock_way_29 ?_
      refine RO_goto (tgt := 34) dc_Clock_way_30 rfl ?_
      exact RO_iret rfl dc_Clock_way_34
def fn_Clock_walker (p1 : Int) (p2 : Int) (mem : Mm) : Res := bd (fn_Clock_isWalker p1 mem) fun r1 m2 => if r1 = 0 then (some ((-1), m2)) else (if p2 < 0 then (some ((-1), m2)) else (if isK 0 (m2 0 2) = true then if 0 ≤ p1 ∧ p1 < 6 then swi p2 0 [some (m2 (((m2 0 2).toNat + 4 * p1.toNat) + 13) 0, m2), bd (fn_State_lives 83 p1 m2) fun r7 m8 => if r7 = 0 then (some (0, m8)) else (some (1, m8)), if 0 ≤ p1 ∧ p1 < 6 then some (m2 84 p1.toNat, m2) else none] (if (w32 (p2 - 3)) < (m2 (((m2 0 2).toNat + 4 * p1.toNat) + 13) 4) then (if 0 ≤ w32 (p2 - 3) ∧ w32 (p2 - 3) < 4 then some (m2 (((m2 0 2).toNat + 4 * p1.toNat) + 14) (w32 (p2 - 3)).toNat, m2) else none) else (some ((-1), m2))) else none else none))
set_option maxHeartbeats 4000000 in
theorem pf_Clock_walker {E : EE} (p1 : Int) (p2 : Int)  (mem : Mm) {r : Int} {mem9 : Mm} (h : fn_Clock_walker p1 p2 mem = some (r, mem9)) : MetX E 2 yn_Clock_walker cd_Clock_walker 4 (some .int) [rf 0, vi p1, vi p2] mem r mem9 := by
  refine RO_met (y := yn_Clock_walker) (by decide +kernel) (Nat.le_of_ble_eq_true rfl) ?_ h
  show RO E mt_Clock_walker (fn_Clock_walker p1 p2 mem) 0 [(0, rf 0), (1, vi p1), (2, vi p2)] [] mem
  unfold fn_Clock_walker
  refine RO_aload_n dc_Clock_walker_0 rfl rfl ?_
  refine RO_iload_n dc_Clock_walker_1 rfl rfl ?_
  refine RO_callVi (As := [vi p1]) (rest := []) mi_Clock_isWalker mv_Clock_isWalker ml_Clock_131 lk_0 (Nat.le_of_ble_eq_true rfl) rfl (Nat.le_of_ble_eq_true rfl) (fun _ => rfl) dc_Clock_walker_2 (fun rq mq hq => pf_Clock_isWalker p1  mem hq) (fun r1 m2 => ?_)
  refine RO_if_eq (tgt := 12) dc_Clock_walker_5 rfl ?_ ?_
  · refine RO_iconst dc_Clock_walker_12 ?_
    exact RO_iret rfl dc_Clock_walker_13
  · refine RO_iload_n dc_Clock_walker_8 rfl rfl ?_
    refine RO_if_ge (tgt := 14) dc_Clock_walker_9 rfl ?_ ?_
    · refine RO_iconst dc_Clock_walker_12 ?_
      exact RO_iret rfl dc_Clock_walker_13
    · refine RO_aload_n dc_Clock_walker_14 rfl rfl ?_
      refine RO_chk (fun hz3 => ?_)
      refine RO_getM gf_Clock_28 lk_0 (isK_0 hz3) dc_Clock_walker_15 ?_
      refine RO_getR (b := ((m2 0 2).toNat + 6)) gf_Clock_134 (kd_0 hz3) (by omega) dc_Clock_walker_18 ?_
      refine RO_iload_n dc_Clock_walker_21 rfl rfl ?_
      refine RO_chk (fun hi4 => ?_)
      have hb5 : ((m2 0 2).toNat + 6) + (raO 18).1 + (raO 18).2 * p1.toNat = (((m2 0 2).toNat + 4 * p1.toNat) + 13) := by show _ + 7 + 4 * _ = _; omega
      have hk6 := el_18 (cl_0_10 (kd_0 hz3)) hi4 hb5
      refine RO_aa (by decide) (cl_0_10 (kd_0 hz3)) hi4 hb5 dc_Clock_walker_22 ?_
      refine RO_astore_n dc_Clock_walker_23 rfl (Nat.le_of_ble_eq_true rfl) ?_
      refine RO_iload_n dc_Clock_walker_24 rfl rfl ?_
      refine RO_tab3 (t0 := 52) (t1 := 57) (t2 := 77) (td := 90) dc_Clock_walker_25 rfl rfl rfl ?_ ?_ ?_ ?_
      · refine RO_aload_n dc_Clock_walker_52 rfl rfl ?_
        refine RO_getI gf_Clock_138 hk6 dc_Clock_walker_53 ?_
        exact RO_iret rfl dc_Clock_walker_56
      · refine RO_aload_n dc_Clock_walker_57 rfl rfl ?_
        refine RO_getR (b := 82) gf_Clock_45 lk_0 rfl dc_Clock_walker_58 ?_
        refine RO_getR (b := 83) gf_Clock_143 lk_82 rfl dc_Clock_walker_61 ?_
        refine RO_iload_n dc_Clock_walker_64 rfl rfl ?_
        refine RO_callVi (As := [vi p1]) (rest := []) mi_State_lives mv_State_lives ml_Clock_146 lk_83 (Nat.le_of_ble_eq_true rfl) rfl (Nat.le_of_ble_eq_true rfl) (fun _ => rfl) dc_Clock_walker_65 (fun rq mq hq => pf_State_lives 83 p1 lk_83 m2 hq) (fun r7 m8 => ?_)
        refine RO_if_eq (tgt := 75) dc_Clock_walker_68 rfl ?_ ?_
        · refine RO_iconst dc_Clock_walker_75 ?_
          exact RO_iret rfl dc_Clock_walker_76
        · refine RO_iconst dc_Clock_walker_71 ?_
          refine RO_goto (tgt := 76) dc_Clock_walker_72 rfl ?_
          exact RO_iret rfl dc_Clock_walker_76
      · refine RO_aload_n dc_Clock_walker_77 rfl rfl ?_
        refine RO_getR (b := 82) gf_Clock_45 lk_0 rfl dc_Clock_walker_78 ?_
        refine RO_getR (b := 83) gf_Clock_143 lk_82 rfl dc_Clock_walker_81 ?_
        refine RO_getR (b := 84) gf_Clock_149 lk_83 rfl dc_Clock_walker_84 ?_
        refine RO_iload_n dc_Clock_walker_87 rfl rfl ?_
        refine RO_chk (fun hi9 => ?_)
        refine RO_ia lk_84 hi9 dc_Clock_walker_88 ?_
        exact RO_iret rfl dc_Clock_walker_89
      · refine RO_iload_n dc_Clock_walker_90 rfl rfl ?_
        refine RO_iconst dc_Clock_walker_91 ?_
        refine RO_isub dc_Clock_walker_92 ?_
        refine RO_aload_n dc_Clock_walker_93 rfl rfl ?_
        refine RO_getI gf_Clock_152 hk6 dc_Clock_walker_94 ?_
        refine RO_icmp_ge (tgt := 111) dc_Clock_walker_97 rfl ?_ ?_
        · refine RO_aload_n dc_Clock_walker_100 rfl rfl ?_
          refine RO_getR (b := (((m2 0 2).toNat + 4 * p1.toNat) + 14)) gf_Clock_155 hk6 (by omega) dc_Clock_walker_101 ?_
          refine RO_iload_n dc_Clock_walker_104 rfl rfl ?_
          refine RO_iconst dc_Clock_walker_105 ?_
          refine RO_isub dc_Clock_walker_106 ?_
          refine RO_chk (fun hi10 => ?_)
          refine RO_ia (cl_9_5 hk6) hi10 dc_Clock_walker_107 ?_
          refine RO_goto (tgt := 112) dc_Clock_walker_108 rfl ?_
          exact RO_iret rfl dc_Clock_walker_112
        · refine RO_iconst dc_Clock_walker_111 ?_
          exact RO_iret rfl dc_Clock_walker_112
def fn_Clock_undo  (mem : Mm) : Res := if (mem 0 9) = 0 then (some (0, mem)) else (bn (mst mem 0 9 (w32 ((mem 0 9) - 1))) fun m1 => if 0 ≤ irm (w32 ((m1 0 8) + (m1 0 9))) 16 ∧ irm (w32 ((m1 0 8) + (m1 0 9))) 16 < 16 then bd (fn_State_copy 83 ((3 * (irm (w32 ((m1 0 8) + (m1 0 9))) 16).toNat) + 155) m1) fun r5 m6 => some (1, m6) else none)
set_option maxHeartbeats 4000000 in
theorem pf_Clock_undo {E : EE}   (mem : Mm) {r : Int} {mem9 : Mm} (h : fn_Clock_undo  mem = some (r, mem9)) : MetX E 2 yn_Clock_undo cd_Clock_undo 1 (some .boolean) [rf 0] mem r mem9 := by
  refine RO_met (y := yn_Clock_undo) (by decide +kernel) (Nat.le_of_ble_eq_true rfl) ?_ h
  show RO E mt_Clock_undo (fn_Clock_undo  mem) 0 [(0, rf 0)] [] mem
  unfold fn_Clock_undo
  refine RO_aload_n dc_Clock_undo_0 rfl rfl ?_
  refine RO_getI gf_Clock_107 lk_0 dc_Clock_undo_1 ?_
  refine RO_if_ne (tgt := 9) dc_Clock_undo_4 rfl ?_ ?_
  · refine RO_iconst dc_Clock_undo_7 ?_
    exact RO_zret rfl (Or.inl rfl) dc_Clock_undo_8
  · refine RO_aload_n dc_Clock_undo_9 rfl rfl ?_
    refine RO_dup dc_Clock_undo_10 (nt2 _) ?_
    refine RO_getI gf_Clock_107 lk_0 dc_Clock_undo_11 ?_
    refine RO_iconst dc_Clock_undo_14 ?_
    refine RO_isub dc_Clock_undo_15 ?_
    refine RO_putI gp_Clock_107 lk_0 dc_Clock_undo_16 ?_
    refine RO_bnM (fun m1 => ?_)
    refine RO_aload_n dc_Clock_undo_19 rfl rfl ?_
    refine RO_getR (b := 82) gf_Clock_45 lk_0 rfl dc_Clock_undo_20 ?_
    refine RO_getR (b := 83) gf_Clock_143 lk_82 rfl dc_Clock_undo_23 ?_
    refine RO_aload_n dc_Clock_undo_26 rfl rfl ?_
    refine RO_getR (b := 94) gf_Clock_55 lk_0 rfl dc_Clock_undo_27 ?_
    refine RO_aload_n dc_Clock_undo_30 rfl rfl ?_
    refine RO_getI gf_Clock_219 lk_0 dc_Clock_undo_31 ?_
    refine RO_aload_n dc_Clock_undo_34 rfl rfl ?_
    refine RO_getI gf_Clock_107 lk_0 dc_Clock_undo_35 ?_
    refine RO_iadd dc_Clock_undo_38 ?_
    refine RO_bipush dc_Clock_undo_39 ?_
    refine RO_iremc (by decide) dc_Clock_undo_41 ?_
    refine RO_chk (fun hi2 => ?_)
    have hb3 : 94 + (raO 17).1 + (raO 17).2 * (irm (w32 ((m1 0 8) + (m1 0 9))) 16).toNat = ((3 * (irm (w32 ((m1 0 8) + (m1 0 9))) 16).toNat) + 155) := by show _ + 61 + 3 * _ = _; omega
    have hk4 := el_17 lk_94 hi2 hb3
    refine RO_aa (by decide) lk_94 hi2 hb3 dc_Clock_undo_42 ?_
    refine RO_callVv (As := [rf ((3 * (irm (w32 ((m1 0 8) + (m1 0 9))) 16).toNat) + 155)]) (rest := []) mi_State_copy mv_State_copy ml_Clock_222 lk_83 (Nat.le_of_ble_eq_true rfl) rfl (Nat.le_of_ble_eq_true rfl) dc_Clock_undo_43 (fun rq mq hq => pf_State_copy 83 ((3 * (irm (w32 ((m1 0 8) + (m1 0 9))) 16).toNat) + 155) lk_83 hk4 m1 hq) (fun r5 m6 => ?_)
    refine RO_iconst dc_Clock_undo_46 ?_
    exact RO_zret rfl (Or.inr rfl) dc_Clock_undo_47
def fn_Clock_see (p1 : Int) (p2 : Int) (p3 : Int) (mem : Mm) : Res := bd (fn_Clock_isWalker p1 mem) fun r1 m2 => if r1 = 0 then (some (0, m2)) else (bd (fn_Clock_isPlace p2 m2) fun r3 m4 => if r3 = 0 then (some (0, m4)) else (bd (fn_Standing_addSeen 82 p1 p2 p3 m4) fun r5 m6 => if r5 = 0 then (some (0, m6)) else (some (1, m6))))
set_option maxHeartbeats 4000000 in
theorem pf_Clock_see {E : EE} (p1 : Int) (p2 : Int) (p3 : Int)  (mem : Mm) {r : Int} {mem9 : Mm} (h : fn_Clock_see p1 p2 p3 mem = some (r, mem9)) : MetX E 2 yn_Clock_see cd_Clock_see 4 (some .boolean) [rf 0, vi p1, vi p2, vi p3] mem r mem9 := by
  refine RO_met (y := yn_Clock_see) (by decide +kernel) (Nat.le_of_ble_eq_true rfl) ?_ h
  show RO E mt_Clock_see (fn_Clock_see p1 p2 p3 mem) 0 [(0, rf 0), (1, vi p1), (2, vi p2), (3, vi p3)] [] mem
  unfold fn_Clock_see
  refine RO_aload_n dc_Clock_see_0 rfl rfl ?_
  refine RO_iload_n dc_Clock_see_1 rfl rfl ?_
  refine RO_callVi (As := [vi p1]) (rest := []) mi_Clock_isWalker mv_Clock_isWalker ml_Clock_131 lk_0 (Nat.le_of_ble_eq_true rfl) rfl (Nat.le_of_ble_eq_true rfl) (fun _ => rfl) dc_Clock_see_2 (fun rq mq hq => pf_Clock_isWalker p1  mem hq) (fun r1 m2 => ?_)
  refine RO_if_eq (tgt := 33) dc_Clock_see_5 rfl ?_ ?_
  · refine RO_iconst dc_Clock_see_33 ?_
    exact RO_zret rfl (Or.inl rfl) dc_Clock_see_34
  · refine RO_aload_n dc_Clock_see_8 rfl rfl ?_
    refine RO_iload_n dc_Clock_see_9 rfl rfl ?_
    refine RO_callVi (As := [vi p2]) (rest := []) mi_Clock_isPlace mv_Clock_isPlace ml_Clock_124 lk_0 (Nat.le_of_ble_eq_true rfl) rfl (Nat.le_of_ble_eq_true rfl) (fun _ => rfl) dc_Clock_see_10 (fun rq mq hq => pf_Clock_isPlace p2  m2 hq) (fun r3 m4 => ?_)
    refine RO_if_eq (tgt := 33) dc_Clock_see_13 rfl ?_ ?_
    · refine RO_iconst dc_Clock_see_33 ?_
      exact RO_zret rfl (Or.inl rfl) dc_Clock_see_34
    · refine RO_aload_n dc_Clock_see_16 rfl rfl ?_
      refine RO_getR (b := 82) gf_Clock_45 lk_0 rfl dc_Clock_see_17 ?_
      refine RO_iload_n dc_Clock_see_20 rfl rfl ?_
      refine RO_iload_n dc_Clock_see_21 rfl rfl ?_
      refine RO_iload_n dc_Clock_see_22 rfl rfl ?_
      refine RO_callVi (As := [vi p1, vi p2, vi p3]) (rest := []) mi_Standing_addSeen mv_Standing_addSeen ml_Clock_246 lk_82 (Nat.le_of_ble_eq_true rfl) rfl (Nat.le_of_ble_eq_true rfl) (fun _ => rfl) dc_Clock_see_23 (fun rq mq hq => pf_Standing_addSeen 82 p1 p2 p3 lk_82 m4 hq) (fun r5 m6 => ?_)
      refine RO_if_eq (tgt := 33) dc_Clock_see_26 rfl ?_ ?_
      · refine RO_iconst dc_Clock_see_33 ?_
        exact RO_zret rfl (Or.inl rfl) dc_Clock_see_34
      · refine RO_iconst dc_Clock_see_29 ?_
        refine RO_goto (tgt := 34) dc_Clock_see_30 rfl ?_
        exact RO_zret rfl (Or.inr rfl) dc_Clock_see_34
def bo_Clock_tell_23 (p1 : Int) (p2 : Int)   (mem : Mm) : Res := if 0 ≤ p1 ∧ p1 < 6 then bn (mst mem 92 p1.toNat p2) fun m2 => some (1, m2) else none
set_option maxHeartbeats 4000000 in
theorem rb_Clock_tell_23 {E : EE} (p1 : Int) (p2 : Int)      (mem : Mm) : RO E mt_Clock_tell (bo_Clock_tell_23 p1 p2   mem) 23 [(0, rf 0), (1, vi p1), (2, vi p2)] [] mem := by
  unfold bo_Clock_tell_23
  refine RO_aload_n dc_Clock_tell_23 rfl rfl ?_
  refine RO_getR (b := 82) gf_Clock_45 lk_0 rfl dc_Clock_tell_24 ?_
  refine RO_getR (b := 92) gf_Clock_292 lk_82 rfl dc_Clock_tell_27 ?_
  refine RO_iload_n dc_Clock_tell_30 rfl rfl ?_
  refine RO_iload_n dc_Clock_tell_31 rfl rfl ?_
  refine RO_chk (fun hi1 => ?_)
  refine RO_is lk_92 hi1 dc_Clock_tell_32 ?_
  refine RO_bnM (fun m2 => ?_)
  refine RO_iconst dc_Clock_tell_33 ?_
  exact RO_zret rfl (Or.inr rfl) dc_Clock_tell_34
def fn_Clock_tell (p1 : Int) (p2 : Int) (mem : Mm) : Res := bd (fn_Clock_isHour p1 mem) fun r1 m2 => if r1 = 0 then (some (0, m2)) else (if p2 = (-1) then (bo_Clock_tell_23 p1 p2 m2) else (bd (fn_Clock_isMinute p2 m2) fun r3 m4 => if r3 = 0 then (some (0, m4)) else (bo_Clock_tell_23 p1 p2 m4)))
set_option maxHeartbeats 4000000 in
theorem pf_Clock_tell {E : EE} (p1 : Int) (p2 : Int)  (mem : Mm) {r : Int} {mem9 : Mm} (h : fn_Clock_tell p1 p2 mem = some (r, mem9)) : MetX E 2 yn_Clock_tell cd_Clock_tell 3 (some .boolean) [rf 0, vi p1, vi p2] mem r mem9 := by
  refine RO_met (y := yn_Clock_tell) (by decide +kernel) (Nat.le_of_ble_eq_true rfl) ?_ h
  show RO E mt_Clock_tell (fn_Clock_tell p1 p2 mem) 0 [(0, rf 0), (1, vi p1), (2, vi p2)] [] mem
  unfold fn_Clock_tell
  refine RO_aload_n dc_Clock_tell_0 rfl rfl ?_
  refine RO_iload_n dc_Clock_tell_1 rfl rfl ?_
  refine RO_callVi (As := [vi p1]) (rest := []) mi_Clock_isHour mv_Clock_isHour ml_Clock_169 lk_0 (Nat.le_of_ble_eq_true rfl) rfl (Nat.le_of_ble_eq_true rfl) (fun _ => rfl) dc_Clock_tell_2 (fun rq mq hq => pf_Clock_isHour p1  mem hq) (fun r1 m2 => ?_)
  refine RO_if_eq (tgt := 21) dc_Clock_tell_5 rfl ?_ ?_
  · refine RO_iconst dc_Clock_tell_21 ?_
    exact RO_zret rfl (Or.inl rfl) dc_Clock_tell_22
  · refine RO_iload_n dc_Clock_tell_8 rfl rfl ?_
    refine RO_iconst dc_Clock_tell_9 ?_
    refine RO_icmp_eq (tgt := 23) dc_Clock_tell_10 rfl ?_ ?_
    · refine RO_sub ?_ (rb_Clock_tell_23 p1 p2 m2)
      exact ⟨rfl, rfl, rfl, trivial⟩
    · refine RO_aload_n dc_Clock_tell_13 rfl rfl ?_
      refine RO_iload_n dc_Clock_tell_14 rfl rfl ?_
      refine RO_callVi (As := [vi p2]) (rest := []) mi_Clock_isMinute mv_Clock_isMinute ml_Clock_158 lk_0 (Nat.le_of_ble_eq_true rfl) rfl (Nat.le_of_ble_eq_true rfl) (fun _ => rfl) dc_Clock_tell_15 (fun rq mq hq => pf_Clock_isMinute p2  m2 hq) (fun r3 m4 => ?_)
      refine RO_if_ne (tgt := 23) dc_Clock_tell_18 rfl ?_ ?_
      · refine RO_iconst dc_Clock_tell_21 ?_
        exact RO_zret rfl (Or.inl rfl) dc_Clock_tell_22
      · refine RO_sub ?_ (rb_Clock_tell_23 p1 p2 m4)
        exact ⟨rfl, rfl, rfl, trivial⟩
def fn_Clock_count (p1 : Int) (mem : Mm) : Res := swi p1 0 [if isK 0 (mem 0 2) = true then some (mem (mem 0 2).toNat 0, mem) else none, if isK 0 (mem 0 2) = true then some (mem (mem 0 2).toNat 1, mem) else none, if isK 0 (mem 0 2) = true then some (mem (mem 0 2).toNat 2, mem) else none, if isK 0 (mem 0 2) = true then some (mem (mem 0 2).toNat 3, mem) else none, if isK 0 (mem 0 2) = true then some (mem (mem 0 2).toNat 4, mem) else none, some (mem 83 0, mem), some (mem 83 1, mem), some (mem 83 2, mem), if (mem 83 3) = 0 then (some (0, mem)) else (some (1, mem)), some (mem 86 0, mem), some (mem 82 3, mem), if isK 0 (mem 0 2) = true then bd (fn_Standing_hoursTold 82 (mem 0 2).toNat mem) fun r7 m8 => some (r7, m8) else none, some (mem 0 9, mem), some (mem 1 0, mem)] (some ((-1), mem))
set_option maxHeartbeats 4000000 in
theorem pf_Clock_count {E : EE} (p1 : Int)  (mem : Mm) {r : Int} {mem9 : Mm} (h : fn_Clock_count p1 mem = some (r, mem9)) : MetX E 2 yn_Clock_count cd_Clock_count 2 (some .int) [rf 0, vi p1] mem r mem9 := by
  refine RO_met (y := yn_Clock_count) (by decide +kernel) (Nat.le_of_ble_eq_true rfl) ?_ h
  show RO E mt_Clock_count (fn_Clock_count p1 mem) 0 [(0, rf 0), (1, vi p1)] [] mem
  unfold fn_Clock_count
  refine RO_iload_n dc_Clock_count_0 rfl rfl ?_
  refine RO_tab14 (t0 := 72) (t1 := 80) (t2 := 88) (t3 := 96) (t4 := 104) (t5 := 112) (t6 := 123) (t7 := 134) (t8 := 145) (t9 := 164) (t10 := 175) (t11 := 183) (t12 := 195) (t13 := 200) (td := 208) dc_Clock_count_1 rfl rfl rfl ?_ ?_ ?_ ?_ ?_ ?_ ?_ ?_ ?_ ?_ ?_ ?_ ?_ ?_ ?_
  · refine RO_aload_n dc_Clock_count_72 rfl rfl ?_
    refine RO_chk (fun hz1 => ?_)
    refine RO_getM gf_Clock_28 lk_0 (isK_0 hz1) dc_Clock_count_73 ?_
    refine RO_getI gf_Clock_257 (kd_0 hz1) dc_Clock_count_76 ?_
    exact RO_iret rfl dc_Clock_count_79
  · refine RO_aload_n dc_Clock_count_80 rfl rfl ?_
    refine RO_chk (fun hz2 => ?_)
    refine RO_getM gf_Clock_28 lk_0 (isK_0 hz2) dc_Clock_count_81 ?_
    refine RO_getI gf_Clock_282 (kd_0 hz2) dc_Clock_count_84 ?_
    exact RO_iret rfl dc_Clock_count_87
  · refine RO_aload_n dc_Clock_count_88 rfl rfl ?_
    refine RO_chk (fun hz3 => ?_)
    refine RO_getM gf_Clock_28 lk_0 (isK_0 hz3) dc_Clock_count_89 ?_
    refine RO_getI gf_Clock_263 (kd_0 hz3) dc_Clock_count_92 ?_
    exact RO_iret rfl dc_Clock_count_95
  · refine RO_aload_n dc_Clock_count_96 rfl rfl ?_
    refine RO_chk (fun hz4 => ?_)
    refine RO_getM gf_Clock_28 lk_0 (isK_0 hz4) dc_Clock_count_97 ?_
    refine RO_getI gf_Clock_328 (kd_0 hz4) dc_Clock_count_100 ?_
    exact RO_iret rfl dc_Clock_count_103
  · refine RO_aload_n dc_Clock_count_104 rfl rfl ?_
    refine RO_chk (fun hz5 => ?_)
    refine RO_getM gf_Clock_28 lk_0 (isK_0 hz5) dc_Clock_count_105 ?_
    refine RO_getI gf_Clock_331 (kd_0 hz5) dc_Clock_count_108 ?_
    exact RO_iret rfl dc_Clock_count_111
  · refine RO_aload_n dc_Clock_count_112 rfl rfl ?_
    refine RO_getR (b := 82) gf_Clock_45 lk_0 rfl dc_Clock_count_113 ?_
    refine RO_getR (b := 83) gf_Clock_143 lk_82 rfl dc_Clock_count_116 ?_
    refine RO_getI gf_Clock_334 lk_83 dc_Clock_count_119 ?_
    exact RO_iret rfl dc_Clock_count_122
  · refine RO_aload_n dc_Clock_count_123 rfl rfl ?_
    refine RO_getR (b := 82) gf_Clock_45 lk_0 rfl dc_Clock_count_124 ?_
    refine RO_getR (b := 83) gf_Clock_143 lk_82 rfl dc_Clock_count_127 ?_
    refine RO_getI gf_Clock_243 lk_83 dc_Clock_count_130 ?_
    exact RO_iret rfl dc_Clock_count_133
  · refine RO_aload_n dc_Clock_count_134 rfl rfl ?_
    refine RO_getR (b := 82) gf_Clock_45 lk_0 rfl dc_Clock_count_135 ?_
    refine RO_getR (b := 83) gf_Clock_143 lk_82 rfl dc_Clock_count_138 ?_
    refine RO_getI gf_Clock_337 lk_83 dc_Clock_count_141 ?_
    exact RO_iret rfl dc_Clock_count_144
  · refine RO_aload_n dc_Clock_count_145 rfl rfl ?_
    refine RO_getR (b := 82) gf_Clock_45 lk_0 rfl dc_Clock_count_146 ?_
    refine RO_getR (b := 83) gf_Clock_143 lk_82 rfl dc_Clock_count_149 ?_
    refine RO_getZ gf_Clock_209 lk_83 dc_Clock_count_152 ?_
    refine RO_if_eq (tgt := 162) dc_Clock_count_155 rfl ?_ ?_
    · refine RO_iconst dc_Clock_count_162 ?_
      exact RO_iret rfl dc_Clock_count_163
    · refine RO_iconst dc_Clock_count_158 ?_
      refine RO_goto (tgt := 163) dc_Clock_count_159 rfl ?_
      exact RO_iret rfl dc_Clock_count_163
  · refine RO_aload_n dc_Clock_count_164 rfl rfl ?_
    refine RO_getR (b := 82) gf_Clock_45 lk_0 rfl dc_Clock_count_165 ?_
    refine RO_getR (b := 86) gf_Clock_117 lk_82 rfl dc_Clock_count_168 ?_
    refine RO_getI gf_Clock_226 lk_86 dc_Clock_count_171 ?_
    exact RO_iret rfl dc_Clock_count_174
  · refine RO_aload_n dc_Clock_count_175 rfl rfl ?_
    refine RO_getR (b := 82) gf_Clock_45 lk_0 rfl dc_Clock_count_176 ?_
    refine RO_getI gf_Clock_340 lk_82 dc_Clock_count_179 ?_
    exact RO_iret rfl dc_Clock_count_182
  · refine RO_aload_n dc_Clock_count_183 rfl rfl ?_
    refine RO_getR (b := 82) gf_Clock_45 lk_0 rfl dc_Clock_count_184 ?_
    refine RO_aload_n dc_Clock_count_187 rfl rfl ?_
    refine RO_chk (fun hz6 => ?_)
    refine RO_getM gf_Clock_28 lk_0 (isK_0 hz6) dc_Clock_count_188 ?_
    refine RO_callVi (As := [rf (mem 0 2).toNat]) (rest := []) mi_Standing_hoursTold mv_Standing_hoursTold ml_Clock_343 lk_82 (Nat.le_of_ble_eq_true rfl) rfl (Nat.le_of_ble_eq_true rfl) (fun _ => rfl) dc_Clock_count_191 (fun rq mq hq => pf_Standing_hoursTold 82 (mem 0 2).toNat lk_82 (kd_0 hz6) mem hq) (fun r7 m8 => ?_)
    exact RO_iret rfl dc_Clock_count_194
  · refine RO_aload_n dc_Clock_count_195 rfl rfl ?_
    refine RO_getI gf_Clock_107 lk_0 dc_Clock_count_196 ?_
    exact RO_iret rfl dc_Clock_count_199
  · refine RO_aload_n dc_Clock_count_200 rfl rfl ?_
    refine RO_getR (b := 1) gf_Clock_10 lk_0 rfl dc_Clock_count_201 ?_
    refine RO_getI gf_Clock_95 lk_1 dc_Clock_count_204 ?_
    exact RO_iret rfl dc_Clock_count_207
  · refine RO_iconst dc_Clock_count_208 ?_
    exact RO_iret rfl dc_Clock_count_209
def fn_Clock_areTwo (p1 : Int) (p2 : Int) (mem : Mm) : Res := bd (fn_Clock_isWalker p1 mem) fun r1 m2 => if r1 = 0 then (some (0, m2)) else (bd (fn_Clock_isWalker p2 m2) fun r3 m4 => if r3 = 0 then (some (0, m4)) else (if p1 = p2 then (some (0, m4)) else (some (1, m4))))
set_option maxHeartbeats 4000000 in
theorem pf_Clock_areTwo {E : EE} (p1 : Int) (p2 : Int)  (mem : Mm) {r : Int} {mem9 : Mm} (h : fn_Clock_areTwo p1 p2 mem = some (r, mem9)) : MetX E 2 yn_Clock_areTwo cd_Clock_areTwo 3 (some .boolean) [rf 0, vi p1, vi p2] mem r mem9 := by
  refine RO_met (y := yn_Clock_areTwo) (by decide +kernel) (Nat.le_of_ble_eq_true rfl) ?_ h
  show RO E mt_Clock_areTwo (fn_Clock_areTwo p1 p2 mem) 0 [(0, rf 0), (1, vi p1), (2, vi p2)] [] mem
  unfold fn_Clock_areTwo
  refine RO_aload_n dc_Clock_areTwo_0 rfl rfl ?_
  refine RO_iload_n dc_Clock_areTwo_1 rfl rfl ?_
  refine RO_callVi (As := [vi p1]) (rest := []) mi_Clock_isWalker mv_Clock_isWalker ml_Clock_131 lk_0 (Nat.le_of_ble_eq_true rfl) rfl (Nat.le_of_ble_eq_true rfl) (fun _ => rfl) dc_Clock_areTwo_2 (fun rq mq hq => pf_Clock_isWalker p1  mem hq) (fun r1 m2 => ?_)
  refine RO_if_eq (tgt := 25) dc_Clock_areTwo_5 rfl ?_ ?_
  · refine RO_iconst dc_Clock_areTwo_25 ?_
    exact RO_zret rfl (Or.inl rfl) dc_Clock_areTwo_26
  · refine RO_aload_n dc_Clock_areTwo_8 rfl rfl ?_
    refine RO_iload_n dc_Clock_areTwo_9 rfl rfl ?_
    refine RO_callVi (As := [vi p2]) (rest := []) mi_Clock_isWalker mv_Clock_isWalker ml_Clock_131 lk_0 (Nat.le_of_ble_eq_true rfl) rfl (Nat.le_of_ble_eq_true rfl) (fun _ => rfl) dc_Clock_areTwo_10 (fun rq mq hq => pf_Clock_isWalker p2  m2 hq) (fun r3 m4 => ?_)
    refine RO_if_eq (tgt := 25) dc_Clock_areTwo_13 rfl ?_ ?_
    · refine RO_iconst dc_Clock_areTwo_25 ?_
      exact RO_zret rfl (Or.inl rfl) dc_Clock_areTwo_26
    · refine RO_iload_n dc_Clock_areTwo_16 rfl rfl ?_
      refine RO_iload_n dc_Clock_areTwo_17 rfl rfl ?_
      refine RO_icmp_eq (tgt := 25) dc_Clock_areTwo_18 rfl ?_ ?_
      · refine RO_iconst dc_Clock_areTwo_25 ?_
        exact RO_zret rfl (Or.inl rfl) dc_Clock_areTwo_26
      · refine RO_iconst dc_Clock_areTwo_21 ?_
        refine RO_goto (tgt := 26) dc_Clock_areTwo_22 rfl ?_
        exact RO_zret rfl (Or.inr rfl) dc_Clock_areTwo_26
def bo_Clock_remember_32    (mem : Mm) : Res := if 0 ≤ irm (w32 ((mem 0 8) + (mem 0 9))) 16 ∧ irm (w32 ((mem 0 8) + (mem 0 9))) 16 < 16 then bd (fn_State_copy ((3 * (irm (w32 ((mem 0 8) + (mem 0 9))) 16).toNat) + 155) 83 mem) fun r4 m5 => bn (mst m5 0 9 (w32 ((m5 0 9) + 1))) fun m6 => some (0, m6) else none
set_option maxHeartbeats 4000000 in
theorem rb_Clock_remember_32 {E : EE}       (mem : Mm) : RO E mt_Clock_remember (bo_Clock_remember_32    mem) 32 [(0, rf 0)] [] mem := by
  unfold bo_Clock_remember_32
  refine RO_aload_n dc_Clock_remember_32 rfl rfl ?_
  refine RO_getR (b := 94) gf_Clock_55 lk_0 rfl dc_Clock_remember_33 ?_
  refine RO_aload_n dc_Clock_remember_36 rfl rfl ?_
  refine RO_getI gf_Clock_219 lk_0 dc_Clock_remember_37 ?_
  refine RO_aload_n dc_Clock_remember_40 rfl rfl ?_
  refine RO_getI gf_Clock_107 lk_0 dc_Clock_remember_41 ?_
  refine RO_iadd dc_Clock_remember_44 ?_
  refine RO_bipush dc_Clock_remember_45 ?_
  refine RO_iremc (by decide) dc_Clock_remember_47 ?_
  refine RO_chk (fun hi1 => ?_)
  have hb2 : 94 + (raO 17).1 + (raO 17).2 * (irm (w32 ((mem 0 8) + (mem 0 9))) 16).toNat = ((3 * (irm (w32 ((mem 0 8) + (mem 0 9))) 16).toNat) + 155) := by show _ + 61 + 3 * _ = _; omega
  have hk3 := el_17 lk_94 hi1 hb2
  refine RO_aa (by decide) lk_94 hi1 hb2 dc_Clock_remember_48 ?_
  refine RO_aload_n dc_Clock_remember_49 rfl rfl ?_
  refine RO_getR (b := 82) gf_Clock_45 lk_0 rfl dc_Clock_remember_50 ?_
  refine RO_getR (b := 83) gf_Clock_143 lk_82 rfl dc_Clock_remember_53 ?_
  refine RO_callVv (As := [rf 83]) (rest := []) mi_State_copy mv_State_copy ml_Clock_222 hk3 (Nat.le_of_ble_eq_true rfl) rfl (Nat.le_of_ble_eq_true rfl) dc_Clock_remember_56 (fun rq mq hq => pf_State_copy ((3 * (irm (w32 ((mem 0 8) + (mem 0 9))) 16).toNat) + 155) 83 hk3 lk_83 mem hq) (fun r4 m5 => ?_)
  refine RO_aload_n dc_Clock_remember_59 rfl rfl ?_
  refine RO_dup dc_Clock_remember_60 (nt2 _) ?_
  refine RO_getI gf_Clock_107 lk_0 dc_Clock_remember_61 ?_
  refine RO_iconst dc_Clock_remember_64 ?_
  refine RO_iadd dc_Clock_remember_65 ?_
  refine RO_putI gp_Clock_107 lk_0 dc_Clock_remember_66 ?_
  refine RO_bnM (fun m6 => ?_)
  exact RO_vret rfl dc_Clock_remember_69
def fn_Clock_remember  (mem : Mm) : Res := if (mem 0 9) = 16 then (bn (mst mem 0 8 (irm (w32 ((mem 0 8) + 1)) 16)) fun m1 => bn (mst m1 0 9 (w32 ((m1 0 9) - 1))) fun m2 => bo_Clock_remember_32 m2) else (bo_Clock_remember_32 mem)
set_option maxHeartbeats 4000000 in
theorem pf_Clock_remember {E : EE}   (mem : Mm) {r : Int} {mem9 : Mm} (h : fn_Clock_remember  mem = some (r, mem9)) : MetX E 2 yn_Clock_remember cd_Clock_remember 1 none [rf 0] mem r mem9 := by
  refine RO_met (y := yn_Clock_remember) (by decide +kernel) (Nat.le_of_ble_eq_true rfl) ?_ h
  show RO E mt_Clock_remember (fn_Clock_remember  mem) 0 [(0, rf 0)] [] mem
  unfold fn_Clock_remember
  refine RO_aload_n dc_Clock_remember_0 rfl rfl ?_
  refine RO_getI gf_Clock_107 lk_0 dc_Clock_remember_1 ?_
  refine RO_bipush dc_Clock_remember_4 ?_
  refine RO_icmp_ne (tgt := 32) dc_Clock_remember_6 rfl ?_ ?_
  · refine RO_aload_n dc_Clock_remember_9 rfl rfl ?_
    refine RO_aload_n dc_Clock_remember_10 rfl rfl ?_
    refine RO_getI gf_Clock_219 lk_0 dc_Clock_remember_11 ?_
    refine RO_iconst dc_Clock_remember_14 ?_
    refine RO_iadd dc_Clock_remember_15 ?_
    refine RO_bipush dc_Clock_remember_16 ?_
    refine RO_iremc (by decide) dc_Clock_remember_18 ?_
    refine RO_putI gp_Clock_219 lk_0 dc_Clock_remember_19 ?_
    refine RO_bnM (fun m1 => ?_)
    refine RO_aload_n dc_Clock_remember_22 rfl rfl ?_
    refine RO_dup dc_Clock_remember_23 (nt2 _) ?_
    refine RO_getI gf_Clock_107 lk_0 dc_Clock_remember_24 ?_
    refine RO_iconst dc_Clock_remember_27 ?_
    refine RO_isub dc_Clock_remember_28 ?_
    refine RO_putI gp_Clock_107 lk_0 dc_Clock_remember_29 ?_
    refine RO_bnM (fun m2 => ?_)
    refine RO_sub ?_ (rb_Clock_remember_32 m2)
    exact ⟨rfl, trivial⟩
  · refine RO_sub ?_ (rb_Clock_remember_32 mem)
    exact ⟨rfl, trivial⟩
def bo_Clock_isRest_12 (p0 : Int) (p1 : Int) (p2 : Int) (p3 : Int) (k12 : Int → Int → Mm → Res) (v4 : Int) (v5 : Int) (mem : Mm) : Res := if 9 < v5 then (some (1, mem)) else (bd (fn_Clock_gain p0 p1 v5 p3 mem) fun r1 m2 => if v4 < r1 then (some (0, m2)) else (k12 v4 (w32 (v5 + 1)) m2))
set_option maxHeartbeats 4000000 in
theorem rb_Clock_isRest_12 {E : EE} (p0 : Int) (p1 : Int) (p2 : Int) (p3 : Int)  (k12 : Int → Int → Mm → Res) (H12 : ∀ (v4 : Int) (v5 : Int)  (mem : Mm), RO E mt_Clock_isRest (k12 v4 v5 mem) 12 [(0, vi p0), (1, vi p1), (3, vi p3), (4, vi v4), (5, vi v5)] [] mem) (v4 : Int) (v5 : Int)  (mem : Mm) : RO E mt_Clock_isRest (bo_Clock_isRest_12 p0 p1 p2 p3 k12 v4 v5 mem) 12 [(0, vi p0), (1, vi p1), (3, vi p3), (4, vi v4), (5, vi v5)] [] mem := by
  unfold bo_Clock_isRest_12
  refine RO_iload dc_Clock_isRest_12 rfl ?_
  refine RO_bipush dc_Clock_isRest_14 ?_
  refine RO_icmp_gt (tgt := 40) dc_Clock_isRest_16 rfl ?_ ?_
  · refine RO_iconst dc_Clock_isRest_40 ?_
    exact RO_zret rfl (Or.inr rfl) dc_Clock_isRest_41
  · refine RO_iload_n dc_Clock_isRest_19 rfl rfl ?_
    refine RO_iload_n dc_Clock_isRest_20 rfl rfl ?_
    refine RO_iload dc_Clock_isRest_21 rfl ?_
    refine RO_iload_n dc_Clock_isRest_23 rfl rfl ?_
    refine RO_callSi (As := [vi p0, vi p1, vi v5, vi p3]) (rest := []) mi_Clock_gain ms_Clock_gain ml_Clock_368 (Nat.le_of_ble_eq_true rfl) rfl (Nat.le_of_ble_eq_true rfl) (fun _ => rfl) dc_Clock_isRest_24 (fun rq mq hq => pf_Clock_gain p0 p1 v5 p3  mem hq) (fun r1 m2 => ?_)
    refine RO_iload dc_Clock_isRest_27 rfl ?_
    refine RO_icmp_le (tgt := 34) dc_Clock_isRest_29 rfl ?_ ?_
    · refine RO_iconst dc_Clock_isRest_32 ?_
      exact RO_zret rfl (Or.inl rfl) dc_Clock_isRest_33
    · refine RO_iinc dc_Clock_isRest_34 rfl (Nat.le_of_ble_eq_true rfl) ?_
      refine RO_goto (tgt := 12) dc_Clock_isRest_37 rfl ?_
      refine RO_sub ?_ (H12 v4 (w32 (v5 + 1)) m2)
      exact ⟨rfl, rfl, rfl, rfl, rfl, trivial⟩
def lp_Clock_isRest_12 (p0 : Int) (p1 : Int) (p2 : Int) (p3 : Int)  : Nat → Int → Int → Mm → Res
  | 0 => fun _ _ _ => none
  | n + 1 => bo_Clock_isRest_12 p0 p1 p2 p3  (lp_Clock_isRest_12 p0 p1 p2 p3  n)
theorem rp_Clock_isRest_12 {E : EE} (p0 : Int) (p1 : Int) (p2 : Int) (p3 : Int)    : ∀ (n : Nat) (v4 : Int) (v5 : Int)  (mem : Mm), RO E mt_Clock_isRest (lp_Clock_isRest_12 p0 p1 p2 p3  n v4 v5 mem) 12 [(0, vi p0), (1, vi p1), (3, vi p3), (4, vi v4), (5, vi v5)] [] mem := by
  intro n
  induction n with
  | zero => intro v4 v5  mem; exact RO_none
  | succ n ih => intro v4 v5  mem; exact rb_Clock_isRest_12 p0 p1 p2 p3   (lp_Clock_isRest_12 p0 p1 p2 p3  n)  ih v4 v5  mem
def fn_Clock_isRest (p0 : Int) (p1 : Int) (p2 : Int) (p3 : Int) (mem : Mm) : Res := bd (fn_Clock_gain p0 p1 p2 p3 mem) fun r1 m2 => lp_Clock_isRest_12 p0 p1 p2 p3 FU r1 0 m2
set_option maxHeartbeats 4000000 in
theorem pf_Clock_isRest {E : EE} (p0 : Int) (p1 : Int) (p2 : Int) (p3 : Int)  (mem : Mm) {r : Int} {mem9 : Mm} (h : fn_Clock_isRest p0 p1 p2 p3 mem = some (r, mem9)) : MetX E 2 yn_Clock_isRest cd_Clock_isRest 6 (some .boolean) [vi p0, vi p1, vi p2, vi p3] mem r mem9 := by
  refine RO_met (y := yn_Clock_isRest) (by decide +kernel) (Nat.le_of_ble_eq_true rfl) ?_ h
  show RO E mt_Clock_isRest (fn_Clock_isRest p0 p1 p2 p3 mem) 0 [(0, vi p0), (1, vi p1), (2, vi p2), (3, vi p3)] [] mem
  unfold fn_Clock_isRest
  refine RO_iload_n dc_Clock_isRest_0 rfl rfl ?_
  refine RO_iload_n dc_Clock_isRest_1 rfl rfl ?_
  refine RO_iload_n dc_Clock_isRest_2 rfl rfl ?_
  refine RO_iload_n dc_Clock_isRest_3 rfl rfl ?_
  refine RO_callSi (As := [vi p0, vi p1, vi p2, vi p3]) (rest := []) mi_Clock_gain ms_Clock_gain ml_Clock_368 (Nat.le_of_ble_eq_true rfl) rfl (Nat.le_of_ble_eq_true rfl) (fun _ => rfl) dc_Clock_isRest_4 (fun rq mq hq => pf_Clock_gain p0 p1 p2 p3  mem hq) (fun r1 m2 => ?_)
  refine RO_istore dc_Clock_isRest_7 (Nat.le_of_ble_eq_true rfl) ?_
  refine RO_iconst dc_Clock_isRest_9 ?_
  refine RO_istore dc_Clock_isRest_10 (Nat.le_of_ble_eq_true rfl) ?_
  refine RO_sub ?_ (rp_Clock_isRest_12 p0 p1 p2 p3 FU r1 0 m2)
  exact ⟨rfl, rfl, rfl, rfl, rfl, trivial⟩
def bo_Clock_drawDay_53  (k19 : Int → Mm → Res) (v1 : Int) (mem : Mm) : Res := k19 (w32 (v1 + 1)) mem
set_option maxHeartbeats 4000000 in
theorem rb_Clock_drawDay_53 {E : EE}   (k19 : Int → Mm → Res) (H19 : ∀ (v1 : Int)  (mem : Mm), RO E mt_Clock_drawDay (k19 v1 mem) 19 [(0, rf 0), (1, vi v1)] [] mem) (v1 : Int)  (mem : Mm) : RO E mt_Clock_drawDay (bo_Clock_drawDay_53  k19 v1 mem) 53 [(0, rf 0), (1, vi v1)] [] mem := by
  unfold bo_Clock_drawDay_53
  refine RO_iinc dc_Clock_drawDay_53 rfl (Nat.le_of_ble_eq_true rfl) ?_
  refine RO_goto (tgt := 19) dc_Clock_drawDay_56 rfl ?_
  refine RO_sub ?_ (H19 (w32 (v1 + 1)) mem)
  exact ⟨rfl, rfl, trivial⟩
def bo_Clock_drawDay_19  (k19 : Int → Mm → Res) (v1 : Int) (mem : Mm) : Res := if isK 0 (mem 0 2) = true then if v1 < (mem (mem 0 2).toNat 1) then (bd (fn_Clock_draw 4 mem) fun r2 m3 => if r2 = 0 then (bd (fn_Clock_draw 30 m3) fun r4 m5 => if 0 ≤ v1 ∧ v1 < 6 then bn (mst m5 96 v1.toNat r4) fun m7 => bo_Clock_drawDay_53 k19 v1 m7 else none) else (bo_Clock_drawDay_53 k19 v1 m3)) else (some (0, mem)) else none
set_option maxHeartbeats 4000000 in
theorem rb_Clock_drawDay_19 {E : EE}   (k19 : Int → Mm → Res) (H19 : ∀ (v1 : Int)  (mem : Mm), RO E mt_Clock_drawDay (k19 v1 mem) 19 [(0, rf 0), (1, vi v1)] [] mem) (v1 : Int)  (mem : Mm) : RO E mt_Clock_drawDay (bo_Clock_drawDay_19  k19 v1 mem) 19 [(0, rf 0), (1, vi v1)] [] mem := by
  unfold bo_Clock_drawDay_19
  refine RO_iload_n dc_Clock_drawDay_19 rfl rfl ?_
  refine RO_aload_n dc_Clock_drawDay_20 rfl rfl ?_
  refine RO_chk (fun hz1 => ?_)
  refine RO_getM gf_Clock_28 lk_0 (isK_0 hz1) dc_Clock_drawDay_21 ?_
  refine RO_getI gf_Clock_282 (kd_0 hz1) dc_Clock_drawDay_24 ?_
  refine RO_icmp_ge (tgt := 59) dc_Clock_drawDay_27 rfl ?_ ?_
  · refine RO_aload_n dc_Clock_drawDay_30 rfl rfl ?_
    refine RO_iconst dc_Clock_drawDay_31 ?_
    refine RO_callVi (As := [vi 4]) (rest := []) mi_Clock_draw mv_Clock_draw ml_Clock_372 lk_0 (Nat.le_of_ble_eq_true rfl) rfl (Nat.le_of_ble_eq_true rfl) (fun _ => rfl) dc_Clock_drawDay_32 (fun rq mq hq => pf_Clock_draw 4  mem hq) (fun r2 m3 => ?_)
    refine RO_if_ne (tgt := 53) dc_Clock_drawDay_35 rfl ?_ ?_
    · refine RO_aload_n dc_Clock_drawDay_38 rfl rfl ?_
      refine RO_getR (b := 95) gf_Clock_60 lk_0 rfl dc_Clock_drawDay_39 ?_
      refine RO_getR (b := 96) gf_Clock_149 lk_95 rfl dc_Clock_drawDay_42 ?_
      refine RO_iload_n dc_Clock_drawDay_45 rfl rfl ?_
      refine RO_aload_n dc_Clock_drawDay_46 rfl rfl ?_
      refine RO_bipush dc_Clock_drawDay_47 ?_
      refine RO_callVi (As := [vi 30]) (rest := [vi v1, rf 96]) mi_Clock_draw mv_Clock_draw ml_Clock_372 lk_0 (Nat.le_of_ble_eq_true rfl) rfl (Nat.le_of_ble_eq_true rfl) (fun _ => rfl) dc_Clock_drawDay_49 (fun rq mq hq => pf_Clock_draw 30  m3 hq) (fun r4 m5 => ?_)
      refine RO_chk (fun hi6 => ?_)
      refine RO_is lk_96 hi6 dc_Clock_drawDay_52 ?_
      refine RO_bnM (fun m7 => ?_)
      refine RO_sub ?_ (rb_Clock_drawDay_53 k19 H19 v1 m7)
      exact ⟨rfl, rfl, trivial⟩
    · refine RO_sub ?_ (rb_Clock_drawDay_53 k19 H19 v1 m3)
      exact ⟨rfl, rfl, trivial⟩
  · exact RO_vret rfl dc_Clock_drawDay_59
def lp_Clock_drawDay_19   : Nat → Int → Mm → Res
  | 0 => fun _ _ => none
  | n + 1 => bo_Clock_drawDay_19   (lp_Clock_drawDay_19   n)
theorem rp_Clock_drawDay_19 {E : EE}     : ∀ (n : Nat) (v1 : Int)  (mem : Mm), RO E mt_Clock_drawDay (lp_Clock_drawDay_19   n v1 mem) 19 [(0, rf 0), (1, vi v1)] [] mem := by
  intro n
  induction n with
  | zero => intro v1  mem; exact RO_none
  | succ n ih => intro v1  mem; exact rb_Clock_drawDay_19    (lp_Clock_drawDay_19   n)  ih v1  mem
def bo_Clock_drawDay_17    (mem : Mm) : Res := lp_Clock_drawDay_19 FU 0 mem
set_option maxHeartbeats 4000000 in
theorem rb_Clock_drawDay_17 {E : EE}       (mem : Mm) : RO E mt_Clock_drawDay (bo_Clock_drawDay_17    mem) 17 [(0, rf 0)] [] mem := by
  unfold bo_Clock_drawDay_17
  refine RO_iconst dc_Clock_drawDay_17 ?_
  refine RO_istore_n dc_Clock_drawDay_18 rfl (Nat.le_of_ble_eq_true rfl) ?_
  refine RO_sub ?_ (rp_Clock_drawDay_19 FU 0 mem)
  exact ⟨rfl, rfl, trivial⟩
def fn_Clock_drawDay  (mem : Mm) : Res := bd (fn_Clock_draw 8 mem) fun r1 m2 => if r1 = 0 then (bn (mst m2 95 3 1) fun m3 => bo_Clock_drawDay_17 m3) else (bo_Clock_drawDay_17 m2)
set_option maxHeartbeats 4000000 in
theorem pf_Clock_drawDay {E : EE}   (mem : Mm) {r : Int} {mem9 : Mm} (h : fn_Clock_drawDay  mem = some (r, mem9)) : MetX E 2 yn_Clock_drawDay cd_Clock_drawDay 2 none [rf 0] mem r mem9 := by
  refine RO_met (y := yn_Clock_drawDay) (by decide +kernel) (Nat.le_of_ble_eq_true rfl) ?_ h
  show RO E mt_Clock_drawDay (fn_Clock_drawDay  mem) 0 [(0, rf 0)] [] mem
  unfold fn_Clock_drawDay
  refine RO_aload_n dc_Clock_drawDay_0 rfl rfl ?_
  refine RO_bipush dc_Clock_drawDay_1 ?_
  refine RO_callVi (As := [vi 8]) (rest := []) mi_Clock_draw mv_Clock_draw ml_Clock_372 lk_0 (Nat.le_of_ble_eq_true rfl) rfl (Nat.le_of_ble_eq_true rfl) (fun _ => rfl) dc_Clock_drawDay_3 (fun rq mq hq => pf_Clock_draw 8  mem hq) (fun r1 m2 => ?_)
  refine RO_if_ne (tgt := 17) dc_Clock_drawDay_6 rfl ?_ ?_
  · refine RO_aload_n dc_Clock_drawDay_9 rfl rfl ?_
    refine RO_getR (b := 95) gf_Clock_60 lk_0 rfl dc_Clock_drawDay_10 ?_
    refine RO_iconst dc_Clock_drawDay_13 ?_
    refine RO_putZ gp_Clock_209 lk_95 (Or.inr rfl) dc_Clock_drawDay_14 ?_
    refine RO_bnM (fun m3 => ?_)
    refine RO_sub ?_ (rb_Clock_drawDay_17 m3)
    exact ⟨rfl, trivial⟩
  · refine RO_sub ?_ (rb_Clock_drawDay_17 m2)
    exact ⟨rfl, trivial⟩
def fn_Hills_isTold (th : Nat) (p1 : Int) (mem : Mm) : Res := bd (fn_Tape_find (th + 1) (mem th 0) p1 mem) fun r1 m2 => if r1 = (-1) then (bd (fn_Tape_find (th + 2) (m2 th 1) p1 m2) fun r3 m4 => if r3 = (-1) then (bd (fn_Tape_find (th + 3) (m4 th 2) p1 m4) fun r5 m6 => if r5 = (-1) then (some (0, m6)) else (some (1, m6))) else (some (1, m4))) else (some (1, m2))
set_option maxHeartbeats 4000000 in
theorem pf_Hills_isTold {E : EE} (th : Nat) (p1 : Int) (hk_th : ly_k th = (0, 15)) (mem : Mm) {r : Int} {mem9 : Mm} (h : fn_Hills_isTold th p1 mem = some (r, mem9)) : MetX E 2 yn_Hills_isTold cd_Hills_isTold 3 (some .boolean) [rf th, vl p1] mem r mem9 := by
  refine RO_met (y := yn_Hills_isTold) (by decide +kernel) (Nat.le_of_ble_eq_true rfl) ?_ h
  show RO E mt_Hills_isTold (fn_Hills_isTold th p1 mem) 0 [(0, rf th), (1, vl p1)] [] mem
  unfold fn_Hills_isTold
  refine RO_aload_n dc_Hills_isTold_0 rfl rfl ?_
  refine RO_getR (b := (th + 1)) gf_Hills_9 hk_th (by omega) dc_Hills_isTold_1 ?_
  refine RO_aload_n dc_Hills_isTold_4 rfl rfl ?_
  refine RO_getI gf_Hills_54 hk_th dc_Hills_isTold_5 ?_
  refine RO_lload_n dc_Hills_isTold_8 rfl rfl ?_
  refine RO_callSi (As := [rf (th + 1), vi (mem th 0), vl p1]) (rest := []) mi_Tape_find ms_Tape_find ml_Hills_77 (Nat.le_of_ble_eq_true rfl) rfl (Nat.le_of_ble_eq_true rfl) (fun _ => rfl) dc_Hills_isTold_9 (fun rq mq hq => pf_Tape_find (th + 1) (mem th 0) p1 (cl_0_5 hk_th) mem hq) (fun r1 m2 => ?_)
  refine RO_iconst dc_Hills_isTold_12 ?_
  refine RO_icmp_ne (tgt := 48) dc_Hills_isTold_13 rfl ?_ ?_
  · refine RO_aload_n dc_Hills_isTold_16 rfl rfl ?_
    refine RO_getR (b := (th + 2)) gf_Hills_15 hk_th (by omega) dc_Hills_isTold_17 ?_
    refine RO_aload_n dc_Hills_isTold_20 rfl rfl ?_
    refine RO_getI gf_Hills_58 hk_th dc_Hills_isTold_21 ?_
    refine RO_lload_n dc_Hills_isTold_24 rfl rfl ?_
    refine RO_callSi (As := [rf (th + 2), vi (m2 th 1), vl p1]) (rest := []) mi_Tape_find ms_Tape_find ml_Hills_77 (Nat.le_of_ble_eq_true rfl) rfl (Nat.le_of_ble_eq_true rfl) (fun _ => rfl) dc_Hills_isTold_25 (fun rq mq hq => pf_Tape_find (th + 2) (m2 th 1) p1 (cl_0_6 hk_th) m2 hq) (fun r3 m4 => ?_)
    refine RO_iconst dc_Hills_isTold_28 ?_
    refine RO_icmp_ne (tgt := 48) dc_Hills_isTold_29 rfl ?_ ?_
    · refine RO_aload_n dc_Hills_isTold_32 rfl rfl ?_
      refine RO_getR (b := (th + 3)) gf_Hills_18 hk_th (by omega) dc_Hills_isTold_33 ?_
      refine RO_aload_n dc_Hills_isTold_36 rfl rfl ?_
      refine RO_getI gf_Hills_61 hk_th dc_Hills_isTold_37 ?_
      refine RO_lload_n dc_Hills_isTold_40 rfl rfl ?_
      refine RO_callSi (As := [rf (th + 3), vi (m4 th 2), vl p1]) (rest := []) mi_Tape_find ms_Tape_find ml_Hills_77 (Nat.le_of_ble_eq_true rfl) rfl (Nat.le_of_ble_eq_true rfl) (fun _ => rfl) dc_Hills_isTold_41 (fun rq mq hq => pf_Tape_find (th + 3) (m4 th 2) p1 (cl_0_7 hk_th) m4 hq) (fun r5 m6 => ?_)
      refine RO_iconst dc_Hills_isTold_44 ?_
      refine RO_icmp_eq (tgt := 52) dc_Hills_isTold_45 rfl ?_ ?_
      · refine RO_iconst dc_Hills_isTold_52 ?_
        exact RO_zret rfl (Or.inl rfl) dc_Hills_isTold_53
      · refine RO_iconst dc_Hills_isTold_48 ?_
        refine RO_goto (tgt := 53) dc_Hills_isTold_49 rfl ?_
        exact RO_zret rfl (Or.inr rfl) dc_Hills_isTold_53
    · refine RO_iconst dc_Hills_isTold_48 ?_
      refine RO_goto (tgt := 53) dc_Hills_isTold_49 rfl ?_
      exact RO_zret rfl (Or.inr rfl) dc_Hills_isTold_53
  · refine RO_iconst dc_Hills_isTold_48 ?_
    refine RO_goto (tgt := 53) dc_Hills_isTold_49 rfl ?_
    exact RO_zret rfl (Or.inr rfl) dc_Hills_isTold_53
def bo_Hills_findWays_122 (th : Nat) (k75 : Int → Mm → Res) (v1 : Int) (mem : Mm) : Res := k75 (w32 (v1 + 1)) mem
set_option maxHeartbeats 4000000 in
theorem rb_Hills_findWays_122 {E : EE} (th : Nat) (hk_th : ly_k th = (0, 15)) (k75 : Int → Mm → Res) (H75 : ∀ (v1 : Int)  (mem : Mm), RO E mt_Hills_findWays (k75 v1 mem) 75 [(0, rf th), (1, vi v1)] [] mem) (v1 : Int)  (mem : Mm) : RO E mt_Hills_findWays (bo_Hills_findWays_122 th k75 v1 mem) 122 [(0, rf th), (1, vi v1)] [] mem := by
  unfold bo_Hills_findWays_122
  refine RO_iinc dc_Hills_findWays_122 rfl (Nat.le_of_ble_eq_true rfl) ?_
  refine RO_goto (tgt := 75) dc_Hills_findWays_125 rfl ?_
  refine RO_sub ?_ (H75 (w32 (v1 + 1)) mem)
  exact ⟨rfl, rfl, trivial⟩
def bo_Hills_findWays_116 (th : Nat) (k75 : Int → Mm → Res) (k85 : Int → Int → Mm → Res) (v1 : Int) (v2 : Int) (mem : Mm) : Res := k85 v1 (w32 (v2 + 1)) mem
set_option maxHeartbeats 4000000 in
theorem rb_Hills_findWays_116 {E : EE} (th : Nat) (hk_th : ly_k th = (0, 15)) (k75 : Int → Mm → Res) (k85 : Int → Int → Mm → Res) (H75 : ∀ (v1 : Int)  (mem : Mm), RO E mt_Hills_findWays (k75 v1 mem) 75 [(0, rf th), (1, vi v1)] [] mem) (H85 : ∀ (v1 : Int) (v2 : Int)  (mem : Mm), RO E mt_Hills_findWays (k85 v1 v2 mem) 85 [(0, rf th), (1, vi v1), (2, vi v2)] [] mem) (v1 : Int) (v2 : Int)  (mem : Mm) : RO E mt_Hills_findWays (bo_Hills_findWays_116 th k75 k85 v1 v2 mem) 116 [(0, rf th), (1, vi v1), (2, vi v2)] [] mem := by
  unfold bo_Hills_findWays_116
  refine RO_iinc dc_Hills_findWays_116 rfl (Nat.le_of_ble_eq_true rfl) ?_
  refine RO_goto (tgt := 85) dc_Hills_findWays_119 rfl ?_
  refine RO_sub ?_ (H85 v1 (w32 (v2 + 1)) mem)
  exact ⟨rfl, rfl, rfl, trivial⟩
def bo_Hills_findWays_95 (th : Nat) (k75 : Int → Mm → Res) (k85 : Int → Int → Mm → Res) (k95 : Int → Int → Int → Mm → Res) (v1 : Int) (v2 : Int) (v3 : Int) (mem : Mm) : Res := if v3 < (mem th 0) then (bd (fn_Hills_shorten th v2 v1 v3 mem) fun r1 m2 => k95 v1 v2 (w32 (v3 + 1)) m2) else (bo_Hills_findWays_116 th k75 k85 v1 v2 mem)
set_option maxHeartbeats 4000000 in
theorem rb_Hills_findWays_95 {E : EE} (th : Nat) (hk_th : ly_k th = (0, 15)) (k75 : Int → Mm → Res) (k85 : Int → Int → Mm → Res) (k95 : Int → Int → Int → Mm → Res) (H75 : ∀ (v1 : Int)  (mem : Mm), RO E mt_Hills_findWays (k75 v1 mem) 75 [(0, rf th), (1, vi v1)] [] mem) (H85 : ∀ (v1 : Int) (v2 : Int)  (mem : Mm), RO E mt_Hills_findWays (k85 v1 v2 mem) 85 [(0, rf th), (1, vi v1), (2, vi v2)] [] mem) (H95 : ∀ (v1 : Int) (v2 : Int) (v3 : Int)  (mem : Mm), RO E mt_Hills_findWays (k95 v1 v2 v3 mem) 95 [(0, rf th), (1, vi v1), (2, vi v2), (3, vi v3)] [] mem) (v1 : Int) (v2 : Int) (v3 : Int)  (mem : Mm) : RO E mt_Hills_findWays (bo_Hills_findWays_95 th k75 k85 k95 v1 v2 v3 mem) 95 [(0, rf th), (1, vi v1), (2, vi v2), (3, vi v3)] [] mem := by
  unfold bo_Hills_findWays_95
  refine RO_iload_n dc_Hills_findWays_95 rfl rfl ?_
  refine RO_aload_n dc_Hills_findWays_96 rfl rfl ?_
  refine RO_getI gf_Hills_54 hk_th dc_Hills_findWays_97 ?_
  refine RO_icmp_ge (tgt := 116) dc_Hills_findWays_100 rfl ?_ ?_
  · refine RO_aload_n dc_Hills_findWays_103 rfl rfl ?_
    refine RO_iload_n dc_Hills_findWays_104 rfl rfl ?_
    refine RO_iload_n dc_Hills_findWays_105 rfl rfl ?_
    refine RO_iload_n dc_Hills_findWays_106 rfl rfl ?_
    refine RO_callVv (As := [vi v2, vi v1, vi v3]) (rest := []) mi_Hills_shorten mv_Hills_shorten ml_Hills_83 hk_th (Nat.le_of_ble_eq_true rfl) rfl (Nat.le_of_ble_eq_true rfl) dc_Hills_findWays_107 (fun rq mq hq => pf_Hills_shorten th v2 v1 v3 hk_th mem hq) (fun r1 m2 => ?_)
    refine RO_iinc dc_Hills_findWays_110 rfl (Nat.le_of_ble_eq_true rfl) ?_
    refine RO_goto (tgt := 95) dc_Hills_findWays_113 rfl ?_
    refine RO_sub ?_ (H95 v1 v2 (w32 (v3 + 1)) m2)
    exact ⟨rfl, rfl, rfl, rfl, trivial⟩
  · refine RO_sub ?_ (rb_Hills_findWays_116 th hk_th k75 k85 H75 H85 v1 v2 mem)
    exact ⟨rfl, rfl, rfl, trivial⟩
def lp_Hills_findWays_95 (th : Nat) (k75 : Int → Mm → Res) (k85 : Int → Int → Mm → Res) : Nat → Int → Int → Int → Mm → Res
  | 0 => fun _ _ _ _ => none
  | n + 1 => bo_Hills_findWays_95 th k75 k85 (lp_Hills_findWays_95 th k75 k85 n)
theorem rp_Hills_findWays_95 {E : EE} (th : Nat) (hk_th : ly_k th = (0, 15)) (k75 : Int → Mm → Res) (k85 : Int → Int → Mm → Res) (H75 : ∀ (v1 : Int)  (mem : Mm), RO E mt_Hills_findWays (k75 v1 mem) 75 [(0, rf th), (1, vi v1)] [] mem) (H85 : ∀ (v1 : Int) (v2 : Int)  (mem : Mm), RO E mt_Hills_findWays (k85 v1 v2 mem) 85 [(0, rf th), (1, vi v1), (2, vi v2)] [] mem) : ∀ (n : Nat) (v1 : Int) (v2 : Int) (v3 : Int)  (mem : Mm), RO E mt_Hills_findWays (lp_Hills_findWays_95 th k75 k85 n v1 v2 v3 mem) 95 [(0, rf th), (1, vi v1), (2, vi v2), (3, vi v3)] [] mem := by
  intro n
  induction n with
  | zero => intro v1 v2 v3  mem; exact RO_none
  | succ n ih => intro v1 v2 v3  mem; exact rb_Hills_findWays_95 th hk_th k75 k85 (lp_Hills_findWays_95 th k75 k85 n) H75 H85 ih v1 v2 v3  mem
def bo_Hills_findWays_85 (th : Nat) (k75 : Int → Mm → Res) (k85 : Int → Int → Mm → Res) (v1 : Int) (v2 : Int) (mem : Mm) : Res := if v2 < (mem th 0) then (lp_Hills_findWays_95 th k75 k85 FU v1 v2 0 mem) else (bo_Hills_findWays_122 th k75 v1 mem)
set_option maxHeartbeats 4000000 in
theorem rb_Hills_findWays_85 {E : EE} (th : Nat) (hk_th : ly_k th = (0, 15)) (k75 : Int → Mm → Res) (k85 : Int → Int → Mm → Res) (H75 : ∀ (v1 : Int)  (mem : Mm), RO E mt_Hills_findWays (k75 v1 mem) 75 [(0, rf th), (1, vi v1)] [] mem) (H85 : ∀ (v1 : Int) (v2 : Int)  (mem : Mm), RO E mt_Hills_findWays (k85 v1 v2 mem) 85 [(0, rf th), (1, vi v1), (2, vi v2)] [] mem) (v1 : Int) (v2 : Int)  (mem : Mm) : RO E mt_Hills_findWays (bo_Hills_findWays_85 th k75 k85 v1 v2 mem) 85 [(0, rf th), (1, vi v1), (2, vi v2)] [] mem := by
  unfold bo_Hills_findWays_85
  refine RO_iload_n dc_Hills_findWays_85 rfl rfl ?_
  refine RO_aload_n dc_Hills_findWays_86 rfl rfl ?_
  refine RO_getI gf_Hills_54 hk_th dc_Hills_findWays_87 ?_
  refine RO_icmp_ge (tgt := 122) dc_Hills_findWays_90 rfl ?_ ?_
  · refine RO_iconst dc_Hills_findWays_93 ?_
    refine RO_istore_n dc_Hills_findWays_94 rfl (Nat.le_of_ble_eq_true rfl) ?_
    refine RO_sub ?_ (rp_Hills_findWays_95 th hk_th k75 k85 H75 H85 FU v1 v2 0 mem)
    exact ⟨rfl, rfl, rfl, rfl, trivial⟩
  · refine RO_sub ?_ (rb_Hills_findWays_122 th hk_th k75 H75 v1 mem)
    exact ⟨rfl, rfl, trivial⟩
def lp_Hills_findWays_85 (th : Nat) (k75 : Int → Mm → Res) : Nat → Int → Int → Mm → Res
  | 0 => fun _ _ _ => none
  | n + 1 => bo_Hills_findWays_85 th k75 (lp_Hills_findWays_85 th k75 n)
theorem rp_Hills_findWays_85 {E : EE} (th : Nat) (hk_th : ly_k th = (0, 15)) (k75 : Int → Mm → Res) (H75 : ∀ (v1 : Int)  (mem : Mm), RO E mt_Hills_findWays (k75 v1 mem) 75 [(0, rf th), (1, vi v1)] [] mem) : ∀ (n : Nat) (v1 : Int) (v2 : Int)  (mem : Mm), RO E mt_Hills_findWays (lp_Hills_findWays_85 th k75 n v1 v2 mem) 85 [(0, rf th), (1, vi v1), (2, vi v2)] [] mem := by
  intro n
  induction n with
  | zero => intro v1 v2  mem; exact RO_none
  | succ n ih => intro v1 v2  mem; exact rb_Hills_findWays_85 th hk_th k75 (lp_Hills_findWays_85 th k75 n) H75 ih v1 v2  mem
def bo_Hills_findWays_75 (th : Nat) (k75 : Int → Mm → Res) (v1 : Int) (mem : Mm) : Res := if v1 < (mem th 0) then (lp_Hills_findWays_85 th k75 FU v1 0 mem) else (some (0, mem))
set_option maxHeartbeats 4000000 in
theorem rb_Hills_findWays_75 {E : EE} (th : Nat) (hk_th : ly_k th = (0, 15)) (k75 : Int → Mm → Res) (H75 : ∀ (v1 : Int)  (mem : Mm), RO E mt_Hills_findWays (k75 v1 mem) 75 [(0, rf th), (1, vi v1)] [] mem) (v1 : Int)  (mem : Mm) : RO E mt_Hills_findWays (bo_Hills_findWays_75 th k75 v1 mem) 75 [(0, rf th), (1, vi v1)] [] mem := by
  unfold bo_Hills_findWays_75
  refine RO_iload_n dc_Hills_findWays_75 rfl rfl ?_
  refine RO_aload_n dc_Hills_findWays_76 rfl rfl ?_
  refine RO_getI gf_Hills_54 hk_th dc_Hills_findWays_77 ?_
  refine RO_icmp_ge (tgt := 128) dc_Hills_findWays_80 rfl ?_ ?_
  · refine RO_iconst dc_Hills_findWays_83 ?_
    refine RO_istore_n dc_Hills_findWays_84 rfl (Nat.le_of_ble_eq_true rfl) ?_
    refine RO_sub ?_ (rp_Hills_findWays_85 th hk_th k75 H75 FU v1 0 mem)
    exact ⟨rfl, rfl, rfl, trivial⟩
  · exact RO_vret rfl dc_Hills_findWays_128
def lp_Hills_findWays_75 (th : Nat)  : Nat → Int → Mm → Res
  | 0 => fun _ _ => none
  | n + 1 => bo_Hills_findWays_75 th  (lp_Hills_findWays_75 th  n)
theorem rp_Hills_findWays_75 {E : EE} (th : Nat) (hk_th : ly_k th = (0, 15))   : ∀ (n : Nat) (v1 : Int)  (mem : Mm), RO E mt_Hills_findWays (lp_Hills_findWays_75 th  n v1 mem) 75 [(0, rf th), (1, vi v1)] [] mem := by
  intro n
  induction n with
  | zero => intro v1  mem; exact RO_none
  | succ n ih => intro v1  mem; exact rb_Hills_findWays_75 th hk_th  (lp_Hills_findWays_75 th  n)  ih v1  mem
def bo_Hills_findWays_73 (th : Nat)   (mem : Mm) : Res := lp_Hills_findWays_75 th FU 0 mem
set_option maxHeartbeats 4000000 in
theorem rb_Hills_findWays_73 {E : EE} (th : Nat) (hk_th : ly_k th = (0, 15))     (mem : Mm) : RO E mt_Hills_findWays (bo_Hills_findWays_73 th   mem) 73 [(0, rf th)] [] mem := by
  unfold bo_Hills_findWays_73
  refine RO_iconst dc_Hills_findWays_73 ?_
  refine RO_istore_n dc_Hills_findWays_74 rfl (Nat.le_of_ble_eq_true rfl) ?_
  refine RO_sub ?_ (rp_Hills_findWays_75 th hk_th FU 0 mem)
  exact ⟨rfl, rfl, trivial⟩
def bo_Hills_findWays_67 (th : Nat) (k2 : Int → Mm → Res) (v1 : Int) (mem : Mm) : Res := k2 (w32 (v1 + 1)) mem
set_option maxHeartbeats 4000000 in
theorem rb_Hills_findWays_67 {E : EE} (th : Nat) (hk_th : ly_k th = (0, 15)) (k2 : Int → Mm → Res) (H2 : ∀ (v1 : Int)  (mem : Mm), RO E mt_Hills_findWays (k2 v1 mem) 2 [(0, rf th), (1, vi v1)] [] mem) (v1 : Int)  (mem : Mm) : RO E mt_Hills_findWays (bo_Hills_findWays_67 th k2 v1 mem) 67 [(0, rf th), (1, vi v1)] [] mem := by
  unfold bo_Hills_findWays_67
  refine RO_iinc dc_Hills_findWays_67 rfl (Nat.le_of_ble_eq_true rfl) ?_
  refine RO_goto (tgt := 2) dc_Hills_findWays_70 rfl ?_
  refine RO_sub ?_ (H2 (w32 (v1 + 1)) mem)
  exact ⟨rfl, rfl, trivial⟩
def bo_Hills_findWays_60 (th : Nat) (k2 : Int → Mm → Res) (k12 : Int → Int → Mm → Res) (v1 : Int) (v2 : Int) (s0 : Nat) (s1 : Int) (s2 : Int) (mem : Mm) : Res := if 0 ≤ s1 ∧ s1 < 36 then bn (mst mem s0 s1.toNat s2) fun m2 => k12 v1 (w32 (v2 + 1)) m2 else none
set_option maxHeartbeats 4000000 in
theorem rb_Hills_findWays_60 {E : EE} (th : Nat) (hk_th : ly_k th = (0, 15)) (k2 : Int → Mm → Res) (k12 : Int → Int → Mm → Res) (H2 : ∀ (v1 : Int)  (mem : Mm), RO E mt_Hills_findWays (k2 v1 mem) 2 [(0, rf th), (1, vi v1)] [] mem) (H12 : ∀ (v1 : Int) (v2 : Int)  (mem : Mm), RO E mt_Hills_findWays (k12 v1 v2 mem) 12 [(0, rf th), (1, vi v1), (2, vi v2)] [] mem) (v1 : Int) (v2 : Int) (s0 : Nat) (s1 : Int) (s2 : Int) (hk_s0 : ly_k s0 = (12, 36)) (mem : Mm) : RO E mt_Hills_findWays (bo_Hills_findWays_60 th k2 k12 v1 v2 s0 s1 s2 mem) 60 [(0, rf th), (1, vi v1), (2, vi v2)] [vi s2, vi s1, rf s0] mem := by
  unfold bo_Hills_findWays_60
  refine RO_chk (fun hi1 => ?_)
  refine RO_is hk_s0 hi1 dc_Hills_findWays_60 ?_
  refine RO_bnM (fun m2 => ?_)
  refine RO_iinc dc_Hills_findWays_61 rfl (Nat.le_of_ble_eq_true rfl) ?_
  refine RO_goto (tgt := 12) dc_Hills_findWays_64 rfl ?_
  refine RO_sub ?_ (H12 v1 (w32 (v2 + 1)) m2)
  exact ⟨rfl, rfl, rfl, trivial⟩
def bo_Hills_findWays_12 (th : Nat) (k2 : Int → Mm → Res) (k12 : Int → Int → Mm → Res) (v1 : Int) (v2 : Int) (mem : Mm) : Res := if v2 < (mem th 0) then (if 0 ≤ w32 ((w32 (v1 * 6)) + v2) ∧ w32 ((w32 (v1 * 6)) + v2) < 36 then bn (mem (th + 4) (w32 ((w32 (v1 * 6)) + v2)).toNat) fun x2 => if v1 = v2 then (bo_Hills_findWays_60 th k2 k12 v1 v2 (th + 5) (w32 ((w32 (v1 * 6)) + v2)) 0 mem) else (if 0 < x2 then (bo_Hills_findWays_60 th k2 k12 v1 v2 (th + 5) (w32 ((w32 (v1 * 6)) + v2)) x2 mem) else (bo_Hills_findWays_60 th k2 k12 v1 v2 (th + 5) (w32 ((w32 (v1 * 6)) + v2)) (-1) mem)) else none) else (bo_Hills_findWays_67 th k2 v1 mem)
set_option maxHeartbeats 4000000 in
theorem rb_Hills_findWays_12 {E : EE} (th : Nat) (hk_th : ly_k th = (0, 15)) (k2 : Int → Mm → Res) (k12 : Int → Int → Mm → Res) (H2 : ∀ (v1 : Int)  (mem : Mm), RO E mt_Hills_findWays (k2 v1 mem) 2 [(0, rf th), (1, vi v1)] [] mem) (H12 : ∀ (v1 : Int) (v2 : Int)  (mem : Mm), RO E mt_Hills_findWays (k12 v1 v2 mem) 12 [(0, rf th), (1, vi v1), (2, vi v2)] [] mem) (v1 : Int) (v2 : Int)  (mem : Mm) : RO E mt_Hills_findWays (bo_Hills_findWays_12 th k2 k12 v1 v2 mem) 12 [(0, rf th), (1, vi v1), (2, vi v2)] [] mem := by
  unfold bo_Hills_findWays_12
  refine RO_iload_n dc_Hills_findWays_12 rfl rfl ?_
  refine RO_aload_n dc_Hills_findWays_13 rfl rfl ?_
  refine RO_getI gf_Hills_54 hk_th dc_Hills_findWays_14 ?_
  refine RO_icmp_ge (tgt := 67) dc_Hills_findWays_17 rfl ?_ ?_
  · refine RO_aload_n dc_Hills_findWays_20 rfl rfl ?_
    refine RO_getR (b := (th + 4)) gf_Hills_21 hk_th (by omega) dc_Hills_findWays_21 ?_
    refine RO_iload_n dc_Hills_findWays_24 rfl rfl ?_
    refine RO_bipush dc_Hills_findWays_25 ?_
    refine RO_imul dc_Hills_findWays_27 ?_
    refine RO_iload_n dc_Hills_findWays_28 rfl rfl ?_
    refine RO_iadd dc_Hills_findWays_29 ?_
    refine RO_chk (fun hi1 => ?_)
    refine RO_ia (cl_0_8 hk_th) hi1 dc_Hills_findWays_30 ?_
    refine RO_bnT (fun x2 => ?_)
    refine RO_istore_n dc_Hills_findWays_31 rfl (Nat.le_of_ble_eq_true rfl) ?_
    refine RO_aload_n dc_Hills_findWays_32 rfl rfl ?_
    refine RO_getR (b := (th + 5)) gf_Hills_25 hk_th (by omega) dc_Hills_findWays_33 ?_
    refine RO_iload_n dc_Hills_findWays_36 rfl rfl ?_
    refine RO_bipush dc_Hills_findWays_37 ?_
    refine RO_imul dc_Hills_findWays_39 ?_
    refine RO_iload_n dc_Hills_findWays_40 rfl rfl ?_
    refine RO_iadd dc_Hills_findWays_41 ?_
    refine RO_iload_n dc_Hills_findWays_42 rfl rfl ?_
    refine RO_iload_n dc_Hills_findWays_43 rfl rfl ?_
    refine RO_icmp_ne (tgt := 51) dc_Hills_findWays_44 rfl ?_ ?_
    · refine RO_iconst dc_Hills_findWays_47 ?_
      refine RO_goto (tgt := 60) dc_Hills_findWays_48 rfl ?_
      refine RO_sub ?_ (rb_Hills_findWays_60 th hk_th k2 k12 H2 H12 v1 v2 (th + 5) (w32 ((w32 (v1 * 6)) + v2)) 0 (cl_0_9 hk_th) mem)
      exact ⟨rfl, rfl, rfl, trivial⟩
    · refine RO_iload_n dc_Hills_findWays_51 rfl rfl ?_
      refine RO_if_le (tgt := 59) dc_Hills_findWays_52 rfl ?_ ?_
      · refine RO_iload_n dc_Hills_findWays_55 rfl rfl ?_
        refine RO_goto (tgt := 60) dc_Hills_findWays_56 rfl ?_
        refine RO_sub ?_ (rb_Hills_findWays_60 th hk_th k2 k12 H2 H12 v1 v2 (th + 5) (w32 ((w32 (v1 * 6)) + v2)) x2 (cl_0_9 hk_th) mem)
        exact ⟨rfl, rfl, rfl, trivial⟩
      · refine RO_iconst dc_Hills_findWays_59 ?_
        refine RO_sub ?_ (rb_Hills_findWays_60 th hk_th k2 k12 H2 H12 v1 v2 (th + 5) (w32 ((w32 (v1 * 6)) + v2)) (-1) (cl_0_9 hk_th) mem)
        exact ⟨rfl, rfl, rfl, trivial⟩
  · refine RO_sub ?_ (rb_Hills_findWays_67 th hk_th k2 H2 v1 mem)
    exact ⟨rfl, rfl, trivial⟩
def lp_Hills_findWays_12 (th : Nat) (k2 : Int → Mm → Res) : Nat → Int → Int → Mm → Res
  | 0 => fun _ _ _ => none
  | n + 1 => bo_Hills_findWays_12 th k2 (lp_Hills_findWays_12 th k2 n)
theorem rp_Hills_findWays_12 {E : EE} (th : Nat) (hk_th : ly_k th = (0, 15)) (k2 : Int → Mm → Res) (H2 : ∀ (v1 : Int)  (mem : Mm), RO E mt_Hills_findWays (k2 v1 mem) 2 [(0, rf th), (1, vi v1)] [] mem) : ∀ (n : Nat) (v1 : Int) (v2 : Int)  (mem : Mm), RO E mt_Hills_findWays (lp_Hills_findWays_12 th k2 n v1 v2 mem) 12 [(0, rf th), (1, vi v1), (2, vi v2)] [] mem := by
  intro n
  induction n with
  | zero => intro v1 v2  mem; exact RO_none
  | succ n ih => intro v1 v2  mem; exact rb_Hills_findWays_12 th hk_th k2 (lp_Hills_findWays_12 th k2 n) H2 ih v1 v2  mem
def bo_Hills_findWays_2 (th : Nat) (k2 : Int → Mm → Res) (v1 : Int) (mem : Mm) : Res := if v1 < (mem th 0) then (lp_Hills_findWays_12 th k2 FU v1 0 mem) else (bo_Hills_findWays_73 th mem)
set_option maxHeartbeats 4000000 in
theorem rb_Hills_findWays_2 {E : EE} (th : Nat) (hk_th : ly_k th = (0, 15)) (k2 : Int → Mm → Res) (H2 : ∀ (v1 : Int)  (mem : Mm), RO E mt_Hills_findWays (k2 v1 mem) 2 [(0, rf th), (1, vi v1)] [] mem) (v1 : Int)  (mem : Mm) : RO E mt_Hills_findWays (bo_Hills_findWays_2 th k2 v1 mem) 2 [(0, rf th), (1, vi v1)] [] mem := by
  unfold bo_Hills_findWays_2
  refine RO_iload_n dc_Hills_findWays_2 rfl rfl ?_
  refine RO_aload_n dc_Hills_findWays_3 rfl rfl ?_
  refine RO_getI gf_Hills_54 hk_th dc_Hills_findWays_4 ?_
  refine RO_icmp_ge (tgt := 73) dc_Hills_findWays_7 rfl ?_ ?_
  · refine RO_iconst dc_Hills_findWays_10 ?_
    refine RO_istore_n dc_Hills_findWays_11 rfl (Nat.le_of_ble_eq_true rfl) ?_
    refine RO_sub ?_ (rp_Hills_findWays_12 th hk_th k2 H2 FU v1 0 mem)
    exact ⟨rfl, rfl, rfl, trivial⟩
  · refine RO_sub ?_ (rb_Hills_findWays_73 th hk_th mem)
    exact ⟨rfl, trivial⟩
def lp_Hills_findWays_2 (th : Nat)  : Nat → Int → Mm → Res
  | 0 => fun _ _ => none
  | n + 1 => bo_Hills_findWays_2 th  (lp_Hills_findWays_2 th  n)
theorem rp_Hills_findWays_2 {E : EE} (th : Nat) (hk_th : ly_k th = (0, 15))   : ∀ (n : Nat) (v1 : Int)  (mem : Mm), RO E mt_Hills_findWays (lp_Hills_findWays_2 th  n v1 mem) 2 [(0, rf th), (1, vi v1)] [] mem := by
  intro n
  induction n with
  | zero => intro v1  mem; exact RO_none
  | succ n ih => intro v1  mem; exact rb_Hills_findWays_2 th hk_th  (lp_Hills_findWays_2 th  n)  ih v1  mem
def fn_Hills_findWays (th : Nat) (mem : Mm) : Res := lp_Hills_findWays_2 th FU 0 mem
set_option maxHeartbeats 4000000 in
theorem pf_Hills_findWays {E : EE} (th : Nat) (hk_th : ly_k th = (0, 15)) (mem : Mm) {r : Int} {mem9 : Mm} (h : fn_Hills_findWays th mem = some (r, mem9)) : MetX E 2 yn_Hills_findWays cd_Hills_findWays 4 none [rf th] mem r mem9 := by
  refine RO_met (y := yn_Hills_findWays) (by decide +kernel) (Nat.le_of_ble_eq_true rfl) ?_ h
  show RO E mt_Hills_findWays (fn_Hills_findWays th mem) 0 [(0, rf th)] [] mem
  unfold fn_Hills_findWays
  refine RO_iconst dc_Hills_findWays_0 ?_
  refine RO_istore_n dc_Hills_findWays_1 rfl (Nat.le_of_ble_eq_true rfl) ?_
  refine RO_sub ?_ (rp_Hills_findWays_2 th hk_th FU 0 mem)
  exact ⟨rfl, rfl, trivial⟩
def fn_Law_begin (th : Nat) (mem : Mm) : Res := bn (mst mem th 2 0) fun m1 => bd (fn_Law_put th (-2) m1) fun r2 m3 => some (0, m3)
set_option maxHeartbeats 4000000 in
theorem pf_Law_begin {E : EE} (th : Nat) (hk_th : ly_k th = (2, 4)) (mem : Mm) {r : Int} {mem9 : Mm} (h : fn_Law_begin th mem = some (r, mem9)) : MetX E 2 yn_Law_begin cd_Law_begin 1 none [rf th] mem r mem9 := by
  refine RO_met (y := yn_Law_begin) (by decide +kernel) (Nat.le_of_ble_eq_true rfl) ?_ h
  show RO E mt_Law_begin (fn_Law_begin th mem) 0 [(0, rf th)] [] mem
  unfold fn_Law_begin
  refine RO_aload_n dc_Law_begin_0 rfl rfl ?_
  refine RO_iconst dc_Law_begin_1 ?_
  refine RO_putI gp_Law_18 hk_th dc_Law_begin_2 ?_
  refine RO_bnM (fun m1 => ?_)
  refine RO_aload_n dc_Law_begin_5 rfl rfl ?_
  refine RO_bipush dc_Law_begin_6 ?_
  refine RO_callVv (As := [vi (-2)]) (rest := []) mi_Law_put mv_Law_put ml_Law_22 hk_th (Nat.le_of_ble_eq_true rfl) rfl (Nat.le_of_ble_eq_true rfl) dc_Law_begin_8 (fun rq mq hq => pf_Law_put th (-2) hk_th m1 hq) (fun r2 m3 => ?_)
  exact RO_vret rfl dc_Law_begin_11
def fn_Law_operatorOf (p1 : Int) (mem : Mm) : Res := swi p1 0 [if (mem 1 2) = (-26) then (some ((-6), mem)) else (if (mem 1 2) = (-27) then (some ((-7), mem)) else (some ((-1), mem))), bd (fn_Tape_isSign 60 mem) fun r1 m2 => if r1 = 0 then (bd (fn_Tape_isSign 61 m2) fun r3 m4 => if r3 = 0 then (some ((-1), m4)) else (some ((-9), m4))) else (some ((-8), m2)), bd (fn_Tape_isSign 43 mem) fun r5 m6 => if r5 = 0 then (bd (fn_Tape_isSign 45 m6) fun r7 m8 => if r7 = 0 then (some ((-1), m8)) else (some ((-11), m8))) else (some ((-10), m6))] (bd (fn_Tape_isSign 42 mem) fun r9 m10 => if r9 = 0 then (some ((-1), m10)) else (some ((-12), m10)))
set_option maxHeartbeats 4000000 in
theorem pf_Law_operatorOf {E : EE} (p1 : Int)  (mem : Mm) {r : Int} {mem9 : Mm} (h : fn_Law_operatorOf p1 mem = some (r, mem9)) : MetX E 2 yn_Law_operatorOf cd_Law_operatorOf 2 (some .int) [rf 1, vi p1] mem r mem9 := by
  refine RO_met (y := yn_Law_operatorOf) (by decide +kernel) (Nat.le_of_ble_eq_true rfl) ?_ h
  show RO E mt_Law_operatorOf (fn_Law_operatorOf p1 mem) 0 [(0, rf 1), (1, vi p1)] [] mem
  unfold fn_Law_operatorOf
  refine RO_iload_n dc_Law_operatorOf_0 rfl rfl ?_
  refine RO_tab3 (t0 := 28) (t1 := 60) (t2 := 90) (td := 120) dc_Law_operatorOf_1 rfl rfl rfl ?_ ?_ ?_ ?_
  · refine RO_aload_n dc_Law_operatorOf_28 rfl rfl ?_
    refine RO_getW gf_Law_43 lk_1 dc_Law_operatorOf_29 ?_
    refine RO_getsW 24 (by decide) (x := (-26)) (by decide) gs_Law_47 dc_Law_operatorOf_32 ?_
    refine RO_acmp_ne (tgt := 43) dc_Law_operatorOf_35 rfl ?_ ?_
    · refine RO_bipush dc_Law_operatorOf_38 ?_
      refine RO_goto (tgt := 59) dc_Law_operatorOf_40 rfl ?_
      exact RO_iret rfl dc_Law_operatorOf_59
    · refine RO_aload_n dc_Law_operatorOf_43 rfl rfl ?_
      refine RO_getW gf_Law_43 lk_1 dc_Law_operatorOf_44 ?_
      refine RO_getsW 25 (by decide) (x := (-27)) (by decide) gs_Law_52 dc_Law_operatorOf_47 ?_
      refine RO_acmp_ne (tgt := 58) dc_Law_operatorOf_50 rfl ?_ ?_
      · refine RO_bipush dc_Law_operatorOf_53 ?_
        refine RO_goto (tgt := 59) dc_Law_operatorOf_55 rfl ?_
        exact RO_iret rfl dc_Law_operatorOf_59
      · refine RO_iconst dc_Law_operatorOf_58 ?_
        exact RO_iret rfl dc_Law_operatorOf_59
  · refine RO_aload_n dc_Law_operatorOf_60 rfl rfl ?_
    refine RO_bipush dc_Law_operatorOf_61 ?_
    refine RO_callVi (As := [vi 60]) (rest := []) mi_Tape_isSign mv_Tape_isSign ml_Law_55 lk_1 (Nat.le_of_ble_eq_true rfl) rfl (Nat.le_of_ble_eq_true rfl) (fun _ => rfl) dc_Law_operatorOf_63 (fun rq mq hq => pf_Tape_isSign 60  mem hq) (fun r1 m2 => ?_)
    refine RO_if_eq (tgt := 74) dc_Law_operatorOf_66 rfl ?_ ?_
    · refine RO_aload_n dc_Law_operatorOf_74 rfl rfl ?_
      refine RO_bipush dc_Law_operatorOf_75 ?_
      refine RO_callVi (As := [vi 61]) (rest := []) mi_Tape_isSign mv_Tape_isSign ml_Law_55 lk_1 (Nat.le_of_ble_eq_true rfl) rfl (Nat.le_of_ble_eq_true rfl) (fun _ => rfl) dc_Law_operatorOf_77 (fun rq mq hq => pf_Tape_isSign 61  m2 hq) (fun r3 m4 => ?_)
      refine RO_if_eq (tgt := 88) dc_Law_operatorOf_80 rfl ?_ ?_
      · refine RO_iconst dc_Law_operatorOf_88 ?_
        exact RO_iret rfl dc_Law_operatorOf_89
      · refine RO_bipush dc_Law_operatorOf_83 ?_
        refine RO_goto (tgt := 89) dc_Law_operatorOf_85 rfl ?_
        exact RO_iret rfl dc_Law_operatorOf_89
    · refine RO_bipush dc_Law_operatorOf_69 ?_
      refine RO_goto (tgt := 89) dc_Law_operatorOf_71 rfl ?_
      exact RO_iret rfl dc_Law_operatorOf_89
  · refine RO_aload_n dc_Law_operatorOf_90 rfl rfl ?_
    refine RO_bipush dc_Law_operatorOf_91 ?_
    refine RO_callVi (As := [vi 43]) (rest := []) mi_Tape_isSign mv_Tape_isSign ml_Law_55 lk_1 (Nat.le_of_ble_eq_true rfl) rfl (Nat.le_of_ble_eq_true rfl) (fun _ => rfl) dc_Law_operatorOf_93 (fun rq mq hq => pf_Tape_isSign 43  mem hq) (fun r5 m6 => ?_)
    refine RO_if_eq (tgt := 104) dc_Law_operatorOf_96 rfl ?_ ?_
    · refine RO_aload_n dc_Law_operatorOf_104 rfl rfl ?_
      refine RO_bipush dc_Law_operatorOf_105 ?_
      refine RO_callVi (As := [vi 45]) (rest := []) mi_Tape_isSign mv_Tape_isSign ml_Law_55 lk_1 (Nat.le_of_ble_eq_true rfl) rfl (Nat.le_of_ble_eq_true rfl) (fun _ => rfl) dc_Law_operatorOf_107 (fun rq mq hq => pf_Tape_isSign 45  m6 hq) (fun r7 m8 => ?_)
      refine RO_if_eq (tgt := 118) dc_Law_operatorOf_110 rfl ?_ ?_
      · refine RO_iconst dc_Law_operatorOf_118 ?_
        exact RO_iret rfl dc_Law_operatorOf_119
      · refine RO_bipush dc_Law_operatorOf_113 ?_
        refine RO_goto (tgt := 119) dc_Law_operatorOf_115 rfl ?_
        exact RO_iret rfl dc_Law_operatorOf_119
    · refine RO_bipush dc_Law_operatorOf_99 ?_
      refine RO_goto (tgt := 119) dc_Law_operatorOf_101 rfl ?_
      exact RO_iret rfl dc_Law_operatorOf_119
  · refine RO_aload_n dc_Law_operatorOf_120 rfl rfl ?_
    refine RO_bipush dc_Law_operatorOf_121 ?_
    refine RO_callVi (As := [vi 42]) (rest := []) mi_Tape_isSign mv_Tape_isSign ml_Law_55 lk_1 (Nat.le_of_ble_eq_true rfl) rfl (Nat.le_of_ble_eq_true rfl) (fun _ => rfl) dc_Law_operatorOf_123 (fun rq mq hq => pf_Tape_isSign 42  mem hq) (fun r9 m10 => ?_)
    refine RO_if_eq (tgt := 134) dc_Law_operatorOf_126 rfl ?_ ?_
    · refine RO_iconst dc_Law_operatorOf_134 ?_
      exact RO_iret rfl dc_Law_operatorOf_135
    · refine RO_bipush dc_Law_operatorOf_129 ?_
      refine RO_goto (tgt := 135) dc_Law_operatorOf_131 rfl ?_
      exact RO_iret rfl dc_Law_operatorOf_135
def fn_Law_leafOf  (mem : Mm) : Res := bd (fn_Tape_isNumber  mem) fun r1 m2 => if r1 = 0 then (if (m2 1 2) = (-28) then (some ((-2), m2)) else (if (m2 1 2) = (-29) then (some ((-3), m2)) else (if (m2 1 2) = (-30) then (some ((-4), m2)) else (some ((-1), m2))))) else (some (m2 1 4, m2))
set_option maxHeartbeats 4000000 in
theorem pf_Law_leafOf {E : EE}   (mem : Mm) {r : Int} {mem9 : Mm} (h : fn_Law_leafOf  mem = some (r, mem9)) : MetX E 2 yn_Law_leafOf cd_Law_leafOf 1 (some .int) [rf 1] mem r mem9 := by
  refine RO_met (y := yn_Law_leafOf) (by decide +kernel) (Nat.le_of_ble_eq_true rfl) ?_ h
  show RO E mt_Law_leafOf (fn_Law_leafOf  mem) 0 [(0, rf 1)] [] mem
  unfold fn_Law_leafOf
  refine RO_aload_n dc_Law_leafOf_0 rfl rfl ?_
  refine RO_callVi (As := []) (rest := []) mi_Tape_isNumber mv_Tape_isNumber ml_Law_73 lk_1 (Nat.le_of_ble_eq_true rfl) rfl (Nat.le_of_ble_eq_true rfl) (fun _ => rfl) dc_Law_leafOf_1 (fun rq mq hq => pf_Tape_isNumber   mem hq) (fun r1 m2 => ?_)
  refine RO_if_eq (tgt := 12) dc_Law_leafOf_4 rfl ?_ ?_
  · refine RO_aload_n dc_Law_leafOf_12 rfl rfl ?_
    refine RO_getW gf_Law_43 lk_1 dc_Law_leafOf_13 ?_
    refine RO_getsW 26 (by decide) (x := (-28)) (by decide) gs_Law_80 dc_Law_leafOf_16 ?_
    refine RO_acmp_ne (tgt := 25) dc_Law_leafOf_19 rfl ?_ ?_
    · refine RO_bipush dc_Law_leafOf_22 ?_
      exact RO_iret rfl dc_Law_leafOf_24
    · refine RO_aload_n dc_Law_leafOf_25 rfl rfl ?_
      refine RO_getW gf_Law_43 lk_1 dc_Law_leafOf_26 ?_
      refine RO_getsW 27 (by decide) (x := (-29)) (by decide) gs_Law_83 dc_Law_leafOf_29 ?_
      refine RO_acmp_ne (tgt := 38) dc_Law_leafOf_32 rfl ?_ ?_
      · refine RO_bipush dc_Law_leafOf_35 ?_
        exact RO_iret rfl dc_Law_leafOf_37
      · refine RO_aload_n dc_Law_leafOf_38 rfl rfl ?_
        refine RO_getW gf_Law_43 lk_1 dc_Law_leafOf_39 ?_
        refine RO_getsW 28 (by decide) (x := (-30)) (by decide) gs_Law_86 dc_Law_leafOf_42 ?_
        refine RO_acmp_ne (tgt := 53) dc_Law_leafOf_45 rfl ?_ ?_
        · refine RO_bipush dc_Law_leafOf_48 ?_
          refine RO_goto (tgt := 54) dc_Law_leafOf_50 rfl ?_
          exact RO_iret rfl dc_Law_leafOf_54
        · refine RO_iconst dc_Law_leafOf_53 ?_
          exact RO_iret rfl dc_Law_leafOf_54
  · refine RO_aload_n dc_Law_leafOf_7 rfl rfl ?_
    refine RO_getI gf_Law_77 lk_1 dc_Law_leafOf_8 ?_
    exact RO_iret rfl dc_Law_leafOf_11
