def fn_Clock_isPlace (p1 : Int) (mem : Mm) : Res := if p1 < 0 then (some (0, mem)) else (if isK 0 (mem 0 2) = true then if p1 < (mem (mem 0 2).toNat 0) then (some (1, mem)) else (some (0, mem)) else none)
set_option maxHeartbeats 4000000 in
theorem pf_Clock_isPlace {E : EE} (p1 : Int)  (mem : Mm) {r : Int} {mem9 : Mm} (h : fn_Clock_isPlace p1 mem = some (r, mem9)) : MetX E 1 yn_Clock_isPlace cd_Clock_isPlace 2 (some .boolean) [rf 0, vi p1] mem r mem9 := by
  refine RO_met (y := yn_Clock_isPlace) (by decide +kernel) (Nat.le_of_ble_eq_true rfl) ?_ h
  show RO E mt_Clock_isPlace (fn_Clock_isPlace p1 mem) 0 [(0, rf 0), (1, vi p1)] [] mem
  unfold fn_Clock_isPlace
  refine RO_iload_n dc_Clock_isPlace_0 rfl rfl ?_
  refine RO_if_lt (tgt := 19) dc_Clock_isPlace_1 rfl ?_ ?_
  · refine RO_iconst dc_Clock_isPlace_19 ?_
    exact RO_zret rfl (Or.inl rfl) dc_Clock_isPlace_20
  · refine RO_iload_n dc_Clock_isPlace_4 rfl rfl ?_
    refine RO_aload_n dc_Clock_isPlace_5 rfl rfl ?_
    refine RO_chk (fun hz1 => ?_)
    refine RO_getM gf_Clock_28 lk_0 (isK_0 hz1) dc_Clock_isPlace_6 ?_
    refine RO_getI gf_Clock_257 (kd_0 hz1) dc_Clock_isPlace_9 ?_
    refine RO_icmp_ge (tgt := 19) dc_Clock_isPlace_12 rfl ?_ ?_
    · refine RO_iconst dc_Clock_isPlace_15 ?_
      refine RO_goto (tgt := 20) dc_Clock_isPlace_16 rfl ?_
      exact RO_zret rfl (Or.inr rfl) dc_Clock_isPlace_20
    · refine RO_iconst dc_Clock_isPlace_19 ?_
      exact RO_zret rfl (Or.inl rfl) dc_Clock_isPlace_20
def fn_Clock_isWalker (p1 : Int) (mem : Mm) : Res := if p1 < 0 then (some (0, mem)) else (if isK 0 (mem 0 2) = true then if p1 < (mem (mem 0 2).toNat 1) then (some (1, mem)) else (some (0, mem)) else none)
set_option maxHeartbeats 4000000 in
theorem pf_Clock_isWalker {E : EE} (p1 : Int)  (mem : Mm) {r : Int} {mem9 : Mm} (h : fn_Clock_isWalker p1 mem = some (r, mem9)) : MetX E 1 yn_Clock_isWalker cd_Clock_isWalker 2 (some .boolean) [rf 0, vi p1] mem r mem9 := by
  refine RO_met (y := yn_Clock_isWalker) (by decide +kernel) (Nat.le_of_ble_eq_true rfl) ?_ h
  show RO E mt_Clock_isWalker (fn_Clock_isWalker p1 mem) 0 [(0, rf 0), (1, vi p1)] [] mem
  unfold fn_Clock_isWalker
  refine RO_iload_n dc_Clock_isWalker_0 rfl rfl ?_
  refine RO_if_lt (tgt := 19) dc_Clock_isWalker_1 rfl ?_ ?_
  · refine RO_iconst dc_Clock_isWalker_19 ?_
    exact RO_zret rfl (Or.inl rfl) dc_Clock_isWalker_20
  · refine RO_iload_n dc_Clock_isWalker_4 rfl rfl ?_
    refine RO_aload_n dc_Clock_isWalker_5 rfl rfl ?_
    refine RO_chk (fun hz1 => ?_)
    refine RO_getM gf_Clock_28 lk_0 (isK_0 hz1) dc_Clock_isWalker_6 ?_
    refine RO_getI gf_Clock_282 (kd_0 hz1) dc_Clock_isWalker_9 ?_
    refine RO_icmp_ge (tgt := 19) dc_Clock_isWalker_12 rfl ?_ ?_
    · refine RO_iconst dc_Clock_isWalker_15 ?_
      refine RO_goto (tgt := 20) dc_Clock_isWalker_16 rfl ?_
      exact RO_zret rfl (Or.inr rfl) dc_Clock_isWalker_20
    · refine RO_iconst dc_Clock_isWalker_19 ?_
      exact RO_zret rfl (Or.inl rfl) dc_Clock_isWalker_20
def fn_Clock_isHour (p1 : Int) (mem : Mm) : Res := if p1 < 0 then (some (0, mem)) else (if isK 0 (mem 0 2) = true then if p1 < (mem (mem 0 2).toNat 2) then (some (1, mem)) else (some (0, mem)) else none)
set_option maxHeartbeats 4000000 in
theorem pf_Clock_isHour {E : EE} (p1 : Int)  (mem : Mm) {r : Int} {mem9 : Mm} (h : fn_Clock_isHour p1 mem = some (r, mem9)) : MetX E 1 yn_Clock_isHour cd_Clock_isHour 2 (some .boolean) [rf 0, vi p1] mem r mem9 := by
  refine RO_met (y := yn_Clock_isHour) (by decide +kernel) (Nat.le_of_ble_eq_true rfl) ?_ h
  show RO E mt_Clock_isHour (fn_Clock_isHour p1 mem) 0 [(0, rf 0), (1, vi p1)] [] mem
  unfold fn_Clock_isHour
  refine RO_iload_n dc_Clock_isHour_0 rfl rfl ?_
  refine RO_if_lt (tgt := 19) dc_Clock_isHour_1 rfl ?_ ?_
  · refine RO_iconst dc_Clock_isHour_19 ?_
    exact RO_zret rfl (Or.inl rfl) dc_Clock_isHour_20
  · refine RO_iload_n dc_Clock_isHour_4 rfl rfl ?_
    refine RO_aload_n dc_Clock_isHour_5 rfl rfl ?_
    refine RO_chk (fun hz1 => ?_)
    refine RO_getM gf_Clock_28 lk_0 (isK_0 hz1) dc_Clock_isHour_6 ?_
    refine RO_getI gf_Clock_263 (kd_0 hz1) dc_Clock_isHour_9 ?_
    refine RO_icmp_ge (tgt := 19) dc_Clock_isHour_12 rfl ?_ ?_
    · refine RO_iconst dc_Clock_isHour_15 ?_
      refine RO_goto (tgt := 20) dc_Clock_isHour_16 rfl ?_
      exact RO_zret rfl (Or.inr rfl) dc_Clock_isHour_20
    · refine RO_iconst dc_Clock_isHour_19 ?_
      exact RO_zret rfl (Or.inl rfl) dc_Clock_isHour_20
def fn_Clock_isMinute (p1 : Int) (mem : Mm) : Res := if p1 < 0 then (some (0, mem)) else (if p1 < 240 then (some (1, mem)) else (some (0, mem)))
set_option maxHeartbeats 4000000 in
theorem pf_Clock_isMinute {E : EE} (p1 : Int)  (mem : Mm) {r : Int} {mem9 : Mm} (h : fn_Clock_isMinute p1 mem = some (r, mem9)) : MetX E 1 yn_Clock_isMinute cd_Clock_isMinute 2 (some .boolean) [rf 0, vi p1] mem r mem9 := by
  refine RO_met (y := yn_Clock_isMinute) (by decide +kernel) (Nat.le_of_ble_eq_true rfl) ?_ h
  show RO E mt_Clock_isMinute (fn_Clock_isMinute p1 mem) 0 [(0, rf 0), (1, vi p1)] [] mem
  unfold fn_Clock_isMinute
  refine RO_iload_n dc_Clock_isMinute_0 rfl rfl ?_
  refine RO_if_lt (tgt := 15) dc_Clock_isMinute_1 rfl ?_ ?_
  · refine RO_iconst dc_Clock_isMinute_15 ?_
    exact RO_zret rfl (Or.inl rfl) dc_Clock_isMinute_16
  · refine RO_iload_n dc_Clock_isMinute_4 rfl rfl ?_
    refine RO_sipush dc_Clock_isMinute_5 ?_
    refine RO_icmp_ge (tgt := 15) dc_Clock_isMinute_8 rfl ?_ ?_
    · refine RO_iconst dc_Clock_isMinute_11 ?_
      refine RO_goto (tgt := 16) dc_Clock_isMinute_12 rfl ?_
      exact RO_zret rfl (Or.inr rfl) dc_Clock_isMinute_16
    · refine RO_iconst dc_Clock_isMinute_15 ?_
      exact RO_zret rfl (Or.inl rfl) dc_Clock_isMinute_16
def fn_Clock_gain (p0 : Int) (p1 : Int) (p2 : Int) (p3 : Int) (mem : Mm) : Res := if p0 < 0 then (if p2 < (w32 (-p0)) then (some (w32 (-p2), mem)) else (some (w32 (p1 + p0), mem))) else (if p3 < p0 then (some (0, mem)) else (some (p1, mem)))
set_option maxHeartbeats 4000000 in
theorem pf_Clock_gain {E : EE} (p0 : Int) (p1 : Int) (p2 : Int) (p3 : Int)  (mem : Mm) {r : Int} {mem9 : Mm} (h : fn_Clock_gain p0 p1 p2 p3 mem = some (r, mem9)) : MetX E 1 yn_Clock_gain cd_Clock_gain 4 (some .int) [vi p0, vi p1, vi p2, vi p3] mem r mem9 := by
  refine RO_met (y := yn_Clock_gain) (by decide +kernel) (Nat.le_of_ble_eq_true rfl) ?_ h
  show RO E mt_Clock_gain (fn_Clock_gain p0 p1 p2 p3 mem) 0 [(0, vi p0), (1, vi p1), (2, vi p2), (3, vi p3)] [] mem
  unfold fn_Clock_gain
  refine RO_iload_n dc_Clock_gain_0 rfl rfl ?_
  refine RO_if_lt (tgt := 15) dc_Clock_gain_1 rfl ?_ ?_
  · refine RO_iload_n dc_Clock_gain_15 rfl rfl ?_
    refine RO_ineg dc_Clock_gain_16 ?_
    refine RO_iload_n dc_Clock_gain_17 rfl rfl ?_
    refine RO_icmp_gt (tgt := 27) dc_Clock_gain_18 rfl ?_ ?_
    · refine RO_iload_n dc_Clock_gain_27 rfl rfl ?_
      refine RO_ineg dc_Clock_gain_28 ?_
      exact RO_iret rfl dc_Clock_gain_29
    · refine RO_iload_n dc_Clock_gain_21 rfl rfl ?_
      refine RO_iload_n dc_Clock_gain_22 rfl rfl ?_
      refine RO_iadd dc_Clock_gain_23 ?_
      refine RO_goto (tgt := 29) dc_Clock_gain_24 rfl ?_
      exact RO_iret rfl dc_Clock_gain_29
  · refine RO_iload_n dc_Clock_gain_4 rfl rfl ?_
    refine RO_iload_n dc_Clock_gain_5 rfl rfl ?_
    refine RO_icmp_gt (tgt := 13) dc_Clock_gain_6 rfl ?_ ?_
    · refine RO_iconst dc_Clock_gain_13 ?_
      exact RO_iret rfl dc_Clock_gain_14
    · refine RO_iload_n dc_Clock_gain_9 rfl rfl ?_
      refine RO_goto (tgt := 14) dc_Clock_gain_10 rfl ?_
      exact RO_iret rfl dc_Clock_gain_14
def fn_Clock_draw (p1 : Int) (mem : Mm) : Res := bn (mst mem 0 18 (lrm (w64 ((w64 ((mem 0 18) * 1103515245)) + 12345)) 2147483648)) fun m1 => if 0 < p1 then (if p1 = 0 then none else some (w32 (lrm (ldv (m1 0 18) 65536) p1), m1)) else (some (0, m1))
set_option maxHeartbeats 4000000 in
theorem pf_Clock_draw {E : EE} (p1 : Int)  (mem : Mm) {r : Int} {mem9 : Mm} (h : fn_Clock_draw p1 mem = some (r, mem9)) : MetX E 1 yn_Clock_draw cd_Clock_draw 2 (some .int) [rf 0, vi p1] mem r mem9 := by
  refine RO_met (y := yn_Clock_draw) (by decide +kernel) (Nat.le_of_ble_eq_true rfl) ?_ h
  show RO E mt_Clock_draw (fn_Clock_draw p1 mem) 0 [(0, rf 0), (1, vi p1)] [] mem
  unfold fn_Clock_draw
  refine RO_aload_n dc_Clock_draw_0 rfl rfl ?_
  refine RO_aload_n dc_Clock_draw_1 rfl rfl ?_
  refine RO_getL gf_Clock_315 lk_0 dc_Clock_draw_2 ?_
  refine RO_ldc2 (x := 1103515245) c2_Clock_375 ⟨by decide, ⟨by decide, by decide⟩⟩ dc_Clock_draw_5 ?_
  refine RO_lmul dc_Clock_draw_8 ?_
  refine RO_ldc2 (x := 12345) c2_Clock_377 ⟨by decide, ⟨by decide, by decide⟩⟩ dc_Clock_draw_9 ?_
  refine RO_ladd dc_Clock_draw_12 ?_
  refine RO_ldc2 (x := 2147483648) c2_Clock_379 ⟨by decide, ⟨by decide, by decide⟩⟩ dc_Clock_draw_13 ?_
  refine RO_lremc (by decide) dc_Clock_draw_16 ?_
  refine RO_putL gp_Clock_315 lk_0 dc_Clock_draw_17 ?_
  refine RO_bnM (fun m1 => ?_)
  refine RO_iload_n dc_Clock_draw_20 rfl rfl ?_
  refine RO_if_le (tgt := 39) dc_Clock_draw_21 rfl ?_ ?_
  · refine RO_aload_n dc_Clock_draw_24 rfl rfl ?_
    refine RO_getL gf_Clock_315 lk_0 dc_Clock_draw_25 ?_
    refine RO_ldc2 (x := 65536) c2_Clock_381 ⟨by decide, ⟨by decide, by decide⟩⟩ dc_Clock_draw_28 ?_
    refine RO_ldivc (by decide) dc_Clock_draw_31 ?_
    refine RO_iload_n dc_Clock_draw_32 rfl rfl ?_
    refine RO_i2l dc_Clock_draw_33 ?_
    refine RO_lrem dc_Clock_draw_34 ?_
    refine RO_l2i dc_Clock_draw_35 ?_
    refine RO_goto (tgt := 40) dc_Clock_draw_36 rfl ?_
    exact RO_iret rfl dc_Clock_draw_40
  · refine RO_iconst dc_Clock_draw_39 ?_
    exact RO_iret rfl dc_Clock_draw_40
def bo_Hills_shorten_67 (th : Nat) (p1 : Int) (p2 : Int) (p3 : Int)  (v4 : Int) (v5 : Int) (mem : Mm) : Res := if 0 ≤ w32 ((w32 (p1 * 6)) + p3) ∧ w32 ((w32 (p1 * 6)) + p3) < 36 then bn (mst mem (th + 5) (w32 ((w32 (p1 * 6)) + p3)).toNat (w32 (v4 + v5))) fun m2 => some (0, m2) else none
set_option maxHeartbeats 4000000 in
theorem rb_Hills_shorten_67 {E : EE} (th : Nat) (p1 : Int) (p2 : Int) (p3 : Int) (hk_th : ly_k th = (0, 15))   (v4 : Int) (v5 : Int)  (mem : Mm) : RO E mt_Hills_shorten (bo_Hills_shorten_67 th p1 p2 p3  v4 v5 mem) 67 [(0, rf th), (1, vi p1), (3, vi p3), (4, vi v4), (5, vi v5)] [] mem := by
  unfold bo_Hills_shorten_67
  refine RO_aload_n dc_Hills_shorten_67 rfl rfl ?_
  refine RO_getR (b := (th + 5)) gf_Hills_25 hk_th (by omega) dc_Hills_shorten_68 ?_
  refine RO_iload_n dc_Hills_shorten_71 rfl rfl ?_
  refine RO_bipush dc_Hills_shorten_72 ?_
  refine RO_imul dc_Hills_shorten_74 ?_
  refine RO_iload_n dc_Hills_shorten_75 rfl rfl ?_
  refine RO_iadd dc_Hills_shorten_76 ?_
  refine RO_iload dc_Hills_shorten_77 rfl ?_
  refine RO_iload dc_Hills_shorten_79 rfl ?_
  refine RO_iadd dc_Hills_shorten_81 ?_
  refine RO_chk (fun hi1 => ?_)
  refine RO_is (cl_0_9 hk_th) hi1 dc_Hills_shorten_82 ?_
  refine RO_bnM (fun m2 => ?_)
  exact RO_vret rfl dc_Hills_shorten_83
def fn_Hills_shorten (th : Nat) (p1 : Int) (p2 : Int) (p3 : Int) (mem : Mm) : Res := if 0 ≤ w32 ((w32 (p1 * 6)) + p2) ∧ w32 ((w32 (p1 * 6)) + p2) < 36 then bn (mem (th + 5) (w32 ((w32 (p1 * 6)) + p2)).toNat) fun x2 => if 0 ≤ w32 ((w32 (p2 * 6)) + p3) ∧ w32 ((w32 (p2 * 6)) + p3) < 36 then bn (mem (th + 5) (w32 ((w32 (p2 * 6)) + p3)).toNat) fun x4 => if 0 ≤ w32 ((w32 (p1 * 6)) + p3) ∧ w32 ((w32 (p1 * 6)) + p3) < 36 then bn (mem (th + 5) (w32 ((w32 (p1 * 6)) + p3)).toNat) fun x6 => if x2 = (-1) then (some (0, mem)) else (if x4 = (-1) then (some (0, mem)) else (if x6 = (-1) then (bo_Hills_shorten_67 th p1 p2 p3 x2 x4 mem) else (if (w32 (x2 + x4)) < x6 then (bo_Hills_shorten_67 th p1 p2 p3 x2 x4 mem) else (some (0, mem))))) else none else none else none
set_option maxHeartbeats 4000000 in
theorem pf_Hills_shorten {E : EE} (th : Nat) (p1 : Int) (p2 : Int) (p3 : Int) (hk_th : ly_k th = (0, 15)) (mem : Mm) {r : Int} {mem9 : Mm} (h : fn_Hills_shorten th p1 p2 p3 mem = some (r, mem9)) : MetX E 1 yn_Hills_shorten cd_Hills_shorten 7 none [rf th, vi p1, vi p2, vi p3] mem r mem9 := by
  refine RO_met (y := yn_Hills_shorten) (by decide +kernel) (Nat.le_of_ble_eq_true rfl) ?_ h
  show RO E mt_Hills_shorten (fn_Hills_shorten th p1 p2 p3 mem) 0 [(0, rf th), (1, vi p1), (2, vi p2), (3, vi p3)] [] mem
  unfold fn_Hills_shorten
  refine RO_aload_n dc_Hills_shorten_0 rfl rfl ?_
  refine RO_getR (b := (th + 5)) gf_Hills_25 hk_th (by omega) dc_Hills_shorten_1 ?_
  refine RO_iload_n dc_Hills_shorten_4 rfl rfl ?_
  refine RO_bipush dc_Hills_shorten_5 ?_
  refine RO_imul dc_Hills_shorten_7 ?_
  refine RO_iload_n dc_Hills_shorten_8 rfl rfl ?_
  refine RO_iadd dc_Hills_shorten_9 ?_
  refine RO_chk (fun hi1 => ?_)
  refine RO_ia (cl_0_9 hk_th) hi1 dc_Hills_shorten_10 ?_
  refine RO_bnT (fun x2 => ?_)
  refine RO_istore dc_Hills_shorten_11 (Nat.le_of_ble_eq_true rfl) ?_
  refine RO_aload_n dc_Hills_shorten_13 rfl rfl ?_
  refine RO_getR (b := (th + 5)) gf_Hills_25 hk_th (by omega) dc_Hills_shorten_14 ?_
  refine RO_iload_n dc_Hills_shorten_17 rfl rfl ?_
  refine RO_bipush dc_Hills_shorten_18 ?_
  refine RO_imul dc_Hills_shorten_20 ?_
  refine RO_iload_n dc_Hills_shorten_21 rfl rfl ?_
  refine RO_iadd dc_Hills_shorten_22 ?_
  refine RO_chk (fun hi3 => ?_)
  refine RO_ia (cl_0_9 hk_th) hi3 dc_Hills_shorten_23 ?_
  refine RO_bnT (fun x4 => ?_)
  refine RO_istore dc_Hills_shorten_24 (Nat.le_of_ble_eq_true rfl) ?_
  refine RO_aload_n dc_Hills_shorten_26 rfl rfl ?_
  refine RO_getR (b := (th + 5)) gf_Hills_25 hk_th (by omega) dc_Hills_shorten_27 ?_
  refine RO_iload_n dc_Hills_shorten_30 rfl rfl ?_
  refine RO_bipush dc_Hills_shorten_31 ?_
  refine RO_imul dc_Hills_shorten_33 ?_
  refine RO_iload_n dc_Hills_shorten_34 rfl rfl ?_
  refine RO_iadd dc_Hills_shorten_35 ?_
  refine RO_chk (fun hi5 => ?_)
  refine RO_ia (cl_0_9 hk_th) hi5 dc_Hills_shorten_36 ?_
  refine RO_bnT (fun x6 => ?_)
  refine RO_istore dc_Hills_shorten_37 (Nat.le_of_ble_eq_true rfl) ?_
  refine RO_iload dc_Hills_shorten_39 rfl ?_
  refine RO_iconst dc_Hills_shorten_41 ?_
  refine RO_icmp_eq (tgt := 83) dc_Hills_shorten_42 rfl ?_ ?_
  · exact RO_vret rfl dc_Hills_shorten_83
  · refine RO_iload dc_Hills_shorten_45 rfl ?_
    refine RO_iconst dc_Hills_shorten_47 ?_
    refine RO_icmp_eq (tgt := 83) dc_Hills_shorten_48 rfl ?_ ?_
    · exact RO_vret rfl dc_Hills_shorten_83
    · refine RO_iload dc_Hills_shorten_51 rfl ?_
      refine RO_iconst dc_Hills_shorten_53 ?_
      refine RO_icmp_eq (tgt := 67) dc_Hills_shorten_54 rfl ?_ ?_
      · refine RO_sub ?_ (rb_Hills_shorten_67 th p1 p2 p3 hk_th x2 x4 mem)
        exact ⟨rfl, rfl, rfl, rfl, rfl, trivial⟩
      · refine RO_iload dc_Hills_shorten_57 rfl ?_
        refine RO_iload dc_Hills_shorten_59 rfl ?_
        refine RO_iadd dc_Hills_shorten_61 ?_
        refine RO_iload dc_Hills_shorten_62 rfl ?_
        refine RO_icmp_ge (tgt := 83) dc_Hills_shorten_64 rfl ?_ ?_
        · refine RO_sub ?_ (rb_Hills_shorten_67 th p1 p2 p3 hk_th x2 x4 mem)
          exact ⟨rfl, rfl, rfl, rfl, rfl, trivial⟩
        · exact RO_vret rfl dc_Hills_shorten_83
def fn_Law_clear (th : Nat) (mem : Mm) : Res := bn (mst mem th 2 0) fun m1 => some (0, m1)
set_option maxHeartbeats 4000000 in
theorem pf_Law_clear {E : EE} (th : Nat) (hk_th : ly_k th = (2, 4)) (mem : Mm) {r : Int} {mem9 : Mm} (h : fn_Law_clear th mem = some (r, mem9)) : MetX E 1 yn_Law_clear cd_Law_clear 1 none [rf th] mem r mem9 := by
  refine RO_met (y := yn_Law_clear) (by decide +kernel) (Nat.le_of_ble_eq_true rfl) ?_ h
  show RO E mt_Law_clear (fn_Law_clear th mem) 0 [(0, rf th)] [] mem
  unfold fn_Law_clear
  refine RO_aload_n dc_Law_clear_0 rfl rfl ?_
  refine RO_iconst dc_Law_clear_1 ?_
  refine RO_putI gp_Law_18 hk_th dc_Law_clear_2 ?_
  refine RO_bnM (fun m1 => ?_)
  exact RO_vret rfl dc_Law_clear_5
def fn_Law_put (th : Nat) (p1 : Int) (mem : Mm) : Res := if (mem th 2) < 1000 then (if 0 ≤ mem th 2 ∧ mem th 2 < 1000 then bn (mst mem (th + 1) (mem th 2).toNat p1) fun m2 => bn (mst m2 th 2 (w32 ((m2 th 2) + 1))) fun m3 => some (0, m3) else none) else (some (0, mem))
set_option maxHeartbeats 4000000 in
theorem pf_Law_put {E : EE} (th : Nat) (p1 : Int) (hk_th : ly_k th = (2, 4)) (mem : Mm) {r : Int} {mem9 : Mm} (h : fn_Law_put th p1 mem = some (r, mem9)) : MetX E 1 yn_Law_put cd_Law_put 2 none [rf th, vi p1] mem r mem9 := by
  refine RO_met (y := yn_Law_put) (by decide +kernel) (Nat.le_of_ble_eq_true rfl) ?_ h
  show RO E mt_Law_put (fn_Law_put th p1 mem) 0 [(0, rf th), (1, vi p1)] [] mem
  unfold fn_Law_put
  refine RO_aload_n dc_Law_put_0 rfl rfl ?_
  refine RO_getI gf_Law_18 hk_th dc_Law_put_1 ?_
  refine RO_aload_n dc_Law_put_4 rfl rfl ?_
  refine RO_getR (b := (th + 1)) gf_Law_9 hk_th (by omega) dc_Law_put_5 ?_
  refine RO_alen (x := 1000) (by decide) (cl_2_0 hk_th) rfl (ly_n (cl_2_0 hk_th)) dc_Law_put_8 ?_
  refine RO_icmp_ge (tgt := 32) dc_Law_put_9 rfl ?_ ?_
  · refine RO_aload_n dc_Law_put_12 rfl rfl ?_
    refine RO_getR (b := (th + 1)) gf_Law_9 hk_th (by omega) dc_Law_put_13 ?_
    refine RO_aload_n dc_Law_put_16 rfl rfl ?_
    refine RO_getI gf_Law_18 hk_th dc_Law_put_17 ?_
    refine RO_iload_n dc_Law_put_20 rfl rfl ?_
    refine RO_chk (fun hi1 => ?_)
    refine RO_is (cl_2_0 hk_th) hi1 dc_Law_put_21 ?_
    refine RO_bnM (fun m2 => ?_)
    refine RO_aload_n dc_Law_put_22 rfl rfl ?_
    refine RO_dup dc_Law_put_23 (nt2 _) ?_
    refine RO_getI gf_Law_18 hk_th dc_Law_put_24 ?_
    refine RO_iconst dc_Law_put_27 ?_
    refine RO_iadd dc_Law_put_28 ?_
    refine RO_putI gp_Law_18 hk_th dc_Law_put_29 ?_
    refine RO_bnM (fun m3 => ?_)
    exact RO_vret rfl dc_Law_put_32
  · exact RO_vret rfl dc_Law_put_32
def fn_Law_worth (p0 : Int) (p1 : Int) (p2 : Int) (mem : Mm) : Res := swi p0 (-11) [some (w32 (p1 - p2), mem), some (w32 (p1 + p2), mem), if p1 = p2 then (some (1, mem)) else (some (0, mem)), if p1 < p2 then (some (1, mem)) else (some (0, mem)), if p1 = 0 then (if p2 = 0 then (some (0, mem)) else (some (1, mem))) else (some (1, mem)), if p1 = 0 then (some (0, mem)) else (if p2 = 0 then (some (0, mem)) else (some (1, mem)))] (some (w32 (p1 * p2), mem))
set_option maxHeartbeats 4000000 in
theorem pf_Law_worth {E : EE} (p0 : Int) (p1 : Int) (p2 : Int)  (mem : Mm) {r : Int} {mem9 : Mm} (h : fn_Law_worth p0 p1 p2 mem = some (r, mem9)) : MetX E 1 yn_Law_worth cd_Law_worth 3 (some .int) [vi p0, vi p1, vi p2] mem r mem9 := by
  refine RO_met (y := yn_Law_worth) (by decide +kernel) (Nat.le_of_ble_eq_true rfl) ?_ h
  show RO E mt_Law_worth (fn_Law_worth p0 p1 p2 mem) 0 [(0, vi p0), (1, vi p1), (2, vi p2)] [] mem
  unfold fn_Law_worth
  refine RO_iload_n dc_Law_worth_0 rfl rfl ?_
  refine RO_tab6 (t0 := 94) (t1 := 90) (t2 := 79) (t3 := 68) (t4 := 54) (t5 := 40) (td := 98) dc_Law_worth_1 rfl rfl rfl ?_ ?_ ?_ ?_ ?_ ?_ ?_
  · refine RO_iload_n dc_Law_worth_94 rfl rfl ?_
    refine RO_iload_n dc_Law_worth_95 rfl rfl ?_
    refine RO_isub dc_Law_worth_96 ?_
    exact RO_iret rfl dc_Law_worth_97
  · refine RO_iload_n dc_Law_worth_90 rfl rfl ?_
    refine RO_iload_n dc_Law_worth_91 rfl rfl ?_
    refine RO_iadd dc_Law_worth_92 ?_
    exact RO_iret rfl dc_Law_worth_93
  · refine RO_iload_n dc_Law_worth_79 rfl rfl ?_
    refine RO_iload_n dc_Law_worth_80 rfl rfl ?_
    refine RO_icmp_ne (tgt := 88) dc_Law_worth_81 rfl ?_ ?_
    · refine RO_iconst dc_Law_worth_84 ?_
      refine RO_goto (tgt := 89) dc_Law_worth_85 rfl ?_
      exact RO_iret rfl dc_Law_worth_89
    · refine RO_iconst dc_Law_worth_88 ?_
      exact RO_iret rfl dc_Law_worth_89
  · refine RO_iload_n dc_Law_worth_68 rfl rfl ?_
    refine RO_iload_n dc_Law_worth_69 rfl rfl ?_
    refine RO_icmp_ge (tgt := 77) dc_Law_worth_70 rfl ?_ ?_
    · refine RO_iconst dc_Law_worth_73 ?_
      refine RO_goto (tgt := 78) dc_Law_worth_74 rfl ?_
      exact RO_iret rfl dc_Law_worth_78
    · refine RO_iconst dc_Law_worth_77 ?_
      exact RO_iret rfl dc_Law_worth_78
  · refine RO_iload_n dc_Law_worth_54 rfl rfl ?_
    refine RO_if_ne (tgt := 62) dc_Law_worth_55 rfl ?_ ?_
    · refine RO_iload_n dc_Law_worth_58 rfl rfl ?_
      refine RO_if_eq (tgt := 66) dc_Law_worth_59 rfl ?_ ?_
      · refine RO_iconst dc_Law_worth_66 ?_
        exact RO_iret rfl dc_Law_worth_67
      · refine RO_iconst dc_Law_worth_62 ?_
        refine RO_goto (tgt := 67) dc_Law_worth_63 rfl ?_
        exact RO_iret rfl dc_Law_worth_67
    · refine RO_iconst dc_Law_worth_62 ?_
      refine RO_goto (tgt := 67) dc_Law_worth_63 rfl ?_
      exact RO_iret rfl dc_Law_worth_67
  · refine RO_iload_n dc_Law_worth_40 rfl rfl ?_
    refine RO_if_eq (tgt := 52) dc_Law_worth_41 rfl ?_ ?_
    · refine RO_iconst dc_Law_worth_52 ?_
      exact RO_iret rfl dc_Law_worth_53
    · refine RO_iload_n dc_Law_worth_44 rfl rfl ?_
      refine RO_if_eq (tgt := 52) dc_Law_worth_45 rfl ?_ ?_
      · refine RO_iconst dc_Law_worth_52 ?_
        exact RO_iret rfl dc_Law_worth_53
      · refine RO_iconst dc_Law_worth_48 ?_
        refine RO_goto (tgt := 53) dc_Law_worth_49 rfl ?_
        exact RO_iret rfl dc_Law_worth_53
  · refine RO_iload_n dc_Law_worth_98 rfl rfl ?_
    refine RO_iload_n dc_Law_worth_99 rfl rfl ?_
    refine RO_imul dc_Law_worth_100 ?_
    exact RO_iret rfl dc_Law_worth_101
def fn_Law_push (th : Nat) (p1 : Int) (mem : Mm) : Res := if (mem th 3) < 64 then (if 0 ≤ mem th 3 ∧ mem th 3 < 64 then bn (mst mem (th + 2) (mem th 3).toNat p1) fun m2 => bn (mst m2 th 3 (w32 ((m2 th 3) + 1))) fun m3 => some (0, m3) else none) else (some (0, mem))
set_option maxHeartbeats 4000000 in
theorem pf_Law_push {E : EE} (th : Nat) (p1 : Int) (hk_th : ly_k th = (2, 4)) (mem : Mm) {r : Int} {mem9 : Mm} (h : fn_Law_push th p1 mem = some (r, mem9)) : MetX E 1 yn_Law_push cd_Law_push 2 none [rf th, vi p1] mem r mem9 := by
  refine RO_met (y := yn_Law_push) (by decide +kernel) (Nat.le_of_ble_eq_true rfl) ?_ h
  show RO E mt_Law_push (fn_Law_push th p1 mem) 0 [(0, rf th), (1, vi p1)] [] mem
  unfold fn_Law_push
  refine RO_aload_n dc_Law_push_0 rfl rfl ?_
  refine RO_getI gf_Law_89 hk_th dc_Law_push_1 ?_
  refine RO_aload_n dc_Law_push_4 rfl rfl ?_
  refine RO_getR (b := (th + 2)) gf_Law_15 hk_th (by omega) dc_Law_push_5 ?_
  refine RO_alen (x := 64) (by decide) (cl_2_1 hk_th) rfl (ly_n (cl_2_1 hk_th)) dc_Law_push_8 ?_
  refine RO_icmp_ge (tgt := 32) dc_Law_push_9 rfl ?_ ?_
  · refine RO_aload_n dc_Law_push_12 rfl rfl ?_
    refine RO_getR (b := (th + 2)) gf_Law_15 hk_th (by omega) dc_Law_push_13 ?_
    refine RO_aload_n dc_Law_push_16 rfl rfl ?_
    refine RO_getI gf_Law_89 hk_th dc_Law_push_17 ?_
    refine RO_iload_n dc_Law_push_20 rfl rfl ?_
    refine RO_chk (fun hi1 => ?_)
    refine RO_is (cl_2_1 hk_th) hi1 dc_Law_push_21 ?_
    refine RO_bnM (fun m2 => ?_)
    refine RO_aload_n dc_Law_push_22 rfl rfl ?_
    refine RO_dup dc_Law_push_23 (nt2 _) ?_
    refine RO_getI gf_Law_89 hk_th dc_Law_push_24 ?_
    refine RO_iconst dc_Law_push_27 ?_
    refine RO_iadd dc_Law_push_28 ?_
    refine RO_putI gp_Law_89 hk_th dc_Law_push_29 ?_
    refine RO_bnM (fun m3 => ?_)
    exact RO_vret rfl dc_Law_push_32
  · exact RO_vret rfl dc_Law_push_32
def fn_Law_pop (th : Nat) (mem : Mm) : Res := if 0 < (mem th 3) then (bn (mst mem th 3 (w32 ((mem th 3) - 1))) fun m1 => if 0 ≤ m1 th 3 ∧ m1 th 3 < 64 then some (m1 (th + 2) (m1 th 3).toNat, m1) else none) else (some (0, mem))
set_option maxHeartbeats 4000000 in
theorem pf_Law_pop {E : EE} (th : Nat) (hk_th : ly_k th = (2, 4)) (mem : Mm) {r : Int} {mem9 : Mm} (h : fn_Law_pop th mem = some (r, mem9)) : MetX E 1 yn_Law_pop cd_Law_pop 1 (some .int) [rf th] mem r mem9 := by
  refine RO_met (y := yn_Law_pop) (by decide +kernel) (Nat.le_of_ble_eq_true rfl) ?_ h
  show RO E mt_Law_pop (fn_Law_pop th mem) 0 [(0, rf th)] [] mem
  unfold fn_Law_pop
  refine RO_aload_n dc_Law_pop_0 rfl rfl ?_
  refine RO_getI gf_Law_89 hk_th dc_Law_pop_1 ?_
  refine RO_if_gt (tgt := 9) dc_Law_pop_4 rfl ?_ ?_
  · refine RO_aload_n dc_Law_pop_9 rfl rfl ?_
    refine RO_dup dc_Law_pop_10 (nt2 _) ?_
    refine RO_getI gf_Law_89 hk_th dc_Law_pop_11 ?_
    refine RO_iconst dc_Law_pop_14 ?_
    refine RO_isub dc_Law_pop_15 ?_
    refine RO_putI gp_Law_89 hk_th dc_Law_pop_16 ?_
    refine RO_bnM (fun m1 => ?_)
    refine RO_aload_n dc_Law_pop_19 rfl rfl ?_
    refine RO_getR (b := (th + 2)) gf_Law_15 hk_th (by omega) dc_Law_pop_20 ?_
    refine RO_aload_n dc_Law_pop_23 rfl rfl ?_
    refine RO_getI gf_Law_89 hk_th dc_Law_pop_24 ?_
    refine RO_chk (fun hi2 => ?_)
    refine RO_ia (cl_2_1 hk_th) hi2 dc_Law_pop_27 ?_
    exact RO_iret rfl dc_Law_pop_28
  · refine RO_iconst dc_Law_pop_7 ?_
    exact RO_iret rfl dc_Law_pop_8
def fn_Lines_copy (th : Nat) (p1 : Nat) (mem : Mm) : Res := bn (mst mem th 0 (mem p1 0)) fun m1 => bn (mcp m1 (p1 + 1) (0 : Int).toNat (th + 1) (0 : Int).toNat (30 : Int).toNat) fun m2 => bn (mcp m2 (p1 + 2) (0 : Int).toNat (th + 2) (0 : Int).toNat (30 : Int).toNat) fun m3 => bn (mcp m3 (p1 + 3) (0 : Int).toNat (th + 3) (0 : Int).toNat (30 : Int).toNat) fun m4 => some (0, m4)
set_option maxHeartbeats 4000000 in
theorem pf_Lines_copy {E : EE} (th : Nat) (p1 : Nat) (hk_th : ly_k th = (3, 4)) (hk_p1 : ly_k p1 = (3, 4)) (mem : Mm) {r : Int} {mem9 : Mm} (h : fn_Lines_copy th p1 mem = some (r, mem9)) : MetX E 1 yn_Lines_copy cd_Lines_copy 2 none [rf th, rf p1] mem r mem9 := by
  refine RO_met (y := yn_Lines_copy) (by decide +kernel) (Nat.le_of_ble_eq_true rfl) ?_ h
  show RO E mt_Lines_copy (fn_Lines_copy th p1 mem) 0 [(0, rf th), (1, rf p1)] [] mem
  unfold fn_Lines_copy
  refine RO_aload_n dc_Lines_copy_0 rfl rfl ?_
  refine RO_aload_n dc_Lines_copy_1 rfl rfl ?_
  refine RO_getI gf_Lines_21 hk_p1 dc_Lines_copy_2 ?_
  refine RO_putI gp_Lines_21 hk_th dc_Lines_copy_5 ?_
  refine RO_bnM (fun m1 => ?_)
  refine RO_aload_n dc_Lines_copy_8 rfl rfl ?_
  refine RO_getR (b := (p1 + 1)) gf_Lines_9 hk_p1 (by omega) dc_Lines_copy_9 ?_
  refine RO_iconst dc_Lines_copy_12 ?_
  refine RO_aload_n dc_Lines_copy_13 rfl rfl ?_
  refine RO_getR (b := (th + 1)) gf_Lines_9 hk_th (by omega) dc_Lines_copy_14 ?_
  refine RO_iconst dc_Lines_copy_17 ?_
  refine RO_bipush dc_Lines_copy_18 ?_
  refine RO_copy mw_copy ml_Lines_25 (cl_3_1 hk_p1) (cl_3_1 hk_th) (by decide) (Nat.le_of_ble_eq_true rfl) (Nat.le_of_ble_eq_true rfl) dc_Lines_copy_20 ?_
  refine RO_bnM (fun m2 => ?_)
  refine RO_aload_n dc_Lines_copy_23 rfl rfl ?_
  refine RO_getR (b := (p1 + 2)) gf_Lines_15 hk_p1 (by omega) dc_Lines_copy_24 ?_
  refine RO_iconst dc_Lines_copy_27 ?_
  refine RO_aload_n dc_Lines_copy_28 rfl rfl ?_
  refine RO_getR (b := (th + 2)) gf_Lines_15 hk_th (by omega) dc_Lines_copy_29 ?_
  refine RO_iconst dc_Lines_copy_32 ?_
  refine RO_bipush dc_Lines_copy_33 ?_
  refine RO_copy mw_copy ml_Lines_25 (cl_3_2 hk_p1) (cl_3_2 hk_th) (by decide) (Nat.le_of_ble_eq_true rfl) (Nat.le_of_ble_eq_true rfl) dc_Lines_copy_35 ?_
  refine RO_bnM (fun m3 => ?_)
  refine RO_aload_n dc_Lines_copy_38 rfl rfl ?_
  refine RO_getR (b := (p1 + 3)) gf_Lines_18 hk_p1 (by omega) dc_Lines_copy_39 ?_
  refine RO_iconst dc_Lines_copy_42 ?_
  refine RO_aload_n dc_Lines_copy_43 rfl rfl ?_
  refine RO_getR (b := (th + 3)) gf_Lines_18 hk_th (by omega) dc_Lines_copy_44 ?_
  refine RO_iconst dc_Lines_copy_47 ?_
  refine RO_bipush dc_Lines_copy_48 ?_
  refine RO_copy mw_copy ml_Lines_25 (cl_3_3 hk_p1) (cl_3_3 hk_th) (by decide) (Nat.le_of_ble_eq_true rfl) (Nat.le_of_ble_eq_true rfl) dc_Lines_copy_50 ?_
  refine RO_bnM (fun m4 => ?_)
  exact RO_vret rfl dc_Lines_copy_53
def fn_Lines_kindOf (p0 : Int) (mem : Mm) : Res := if p0 = (-16) then (some (0, mem)) else (if p0 = (-17) then (some (1, mem)) else (if p0 = (-18) then (some (2, mem)) else (if p0 = (-19) then (some (3, mem)) else (if p0 = (-20) then (some (4, mem)) else (some ((-1), mem))))))
set_option maxHeartbeats 4000000 in
theorem pf_Lines_kindOf {E : EE} (p0 : Int)  (mem : Mm) {r : Int} {mem9 : Mm} (h : fn_Lines_kindOf p0 mem = some (r, mem9)) : MetX E 1 yn_Lines_kindOf cd_Lines_kindOf 1 (some .int) [vw p0] mem r mem9 := by
  refine RO_met (y := yn_Lines_kindOf) (by decide +kernel) (Nat.le_of_ble_eq_true rfl) ?_ h
  show RO E mt_Lines_kindOf (fn_Lines_kindOf p0 mem) 0 [(0, vw p0)] [] mem
  unfold fn_Lines_kindOf
  refine RO_wload_n dc_Lines_kindOf_0 rfl rfl ?_
  refine RO_getsW 14 (by decide) (x := (-16)) (by decide) gs_Lines_90 dc_Lines_kindOf_1 ?_
  refine RO_acmp_ne (tgt := 9) dc_Lines_kindOf_4 rfl ?_ ?_
  · refine RO_iconst dc_Lines_kindOf_7 ?_
    exact RO_iret rfl dc_Lines_kindOf_8
  · refine RO_wload_n dc_Lines_kindOf_9 rfl rfl ?_
    refine RO_getsW 15 (by decide) (x := (-17)) (by decide) gs_Lines_95 dc_Lines_kindOf_10 ?_
    refine RO_acmp_ne (tgt := 18) dc_Lines_kindOf_13 rfl ?_ ?_
    · refine RO_iconst dc_Lines_kindOf_16 ?_
      exact RO_iret rfl dc_Lines_kindOf_17
    · refine RO_wload_n dc_Lines_kindOf_18 rfl rfl ?_
      refine RO_getsW 16 (by decide) (x := (-18)) (by decide) gs_Lines_98 dc_Lines_kindOf_19 ?_
      refine RO_acmp_ne (tgt := 27) dc_Lines_kindOf_22 rfl ?_ ?_
      · refine RO_iconst dc_Lines_kindOf_25 ?_
        exact RO_iret rfl dc_Lines_kindOf_26
      · refine RO_wload_n dc_Lines_kindOf_27 rfl rfl ?_
        refine RO_getsW 17 (by decide) (x := (-19)) (by decide) gs_Lines_101 dc_Lines_kindOf_28 ?_
        refine RO_acmp_ne (tgt := 36) dc_Lines_kindOf_31 rfl ?_ ?_
        · refine RO_iconst dc_Lines_kindOf_34 ?_
          exact RO_iret rfl dc_Lines_kindOf_35
        · refine RO_wload_n dc_Lines_kindOf_36 rfl rfl ?_
          refine RO_getsW 18 (by decide) (x := (-20)) (by decide) gs_Lines_104 dc_Lines_kindOf_37 ?_
          refine RO_acmp_ne (tgt := 47) dc_Lines_kindOf_40 rfl ?_ ?_
          · refine RO_iconst dc_Lines_kindOf_43 ?_
            refine RO_goto (tgt := 48) dc_Lines_kindOf_44 rfl ?_
            exact RO_iret rfl dc_Lines_kindOf_48
          · refine RO_iconst dc_Lines_kindOf_47 ?_
            exact RO_iret rfl dc_Lines_kindOf_48
def fn_Lines_isDay (th : Nat) (p1 : Int) (mem : Mm) : Res := if 0 ≤ p1 ∧ p1 < 30 then if (mem (th + 1) p1.toNat) = 4 then (some (1, mem)) else (some (0, mem)) else none
set_option maxHeartbeats 4000000 in
theorem pf_Lines_isDay {E : EE} (th : Nat) (p1 : Int) (hk_th : ly_k th = (3, 4)) (mem : Mm) {r : Int} {mem9 : Mm} (h : fn_Lines_isDay th p1 mem = some (r, mem9)) : MetX E 1 yn_Lines_isDay cd_Lines_isDay 2 (some .boolean) [rf th, vi p1] mem r mem9 := by
  refine RO_met (y := yn_Lines_isDay) (by decide +kernel) (Nat.le_of_ble_eq_true rfl) ?_ h
  show RO E mt_Lines_isDay (fn_Lines_isDay th p1 mem) 0 [(0, rf th), (1, vi p1)] [] mem
  unfold fn_Lines_isDay
  refine RO_aload_n dc_Lines_isDay_0 rfl rfl ?_
  refine RO_getR (b := (th + 1)) gf_Lines_9 hk_th (by omega) dc_Lines_isDay_1 ?_
  refine RO_iload_n dc_Lines_isDay_4 rfl rfl ?_
  refine RO_chk (fun hi1 => ?_)
  refine RO_ia (cl_3_1 hk_th) hi1 dc_Lines_isDay_5 ?_
  refine RO_iconst dc_Lines_isDay_6 ?_
  refine RO_icmp_ne (tgt := 14) dc_Lines_isDay_7 rfl ?_ ?_
  · refine RO_iconst dc_Lines_isDay_10 ?_
    refine RO_goto (tgt := 15) dc_Lines_isDay_11 rfl ?_
    exact RO_zret rfl (Or.inr rfl) dc_Lines_isDay_15
  · refine RO_iconst dc_Lines_isDay_14 ?_
    exact RO_zret rfl (Or.inl rfl) dc_Lines_isDay_15
def fn_Sight_at (p1 : Int) (p2 : Int) (mem : Mm) : Res := if 0 ≤ w32 ((w32 (p1 * 240)) + p2) ∧ w32 ((w32 (p1 * 240)) + p2) < 1440 then some (mem 105 (w32 ((w32 (p1 * 240)) + p2)).toNat, mem) else none
set_option maxHeartbeats 4000000 in
theorem pf_Sight_at {E : EE} (p1 : Int) (p2 : Int)  (mem : Mm) {r : Int} {mem9 : Mm} (h : fn_Sight_at p1 p2 mem = some (r, mem9)) : MetX E 1 yn_Sight_at cd_Sight_at 3 (some .int) [rf 104, vi p1, vi p2] mem r mem9 := by
  refine RO_met (y := yn_Sight_at) (by decide +kernel) (Nat.le_of_ble_eq_true rfl) ?_ h
  show RO E mt_Sight_at (fn_Sight_at p1 p2 mem) 0 [(0, rf 104), (1, vi p1), (2, vi p2)] [] mem
  unfold fn_Sight_at
  refine RO_aload_n dc_Sight_at_0 rfl rfl ?_
  refine RO_getR (b := 105) gf_Sight_9 lk_104 rfl dc_Sight_at_1 ?_
  refine RO_iload_n dc_Sight_at_4 rfl rfl ?_
  refine RO_sipush dc_Sight_at_5 ?_
  refine RO_imul dc_Sight_at_8 ?_
  refine RO_iload_n dc_Sight_at_9 rfl rfl ?_
  refine RO_iadd dc_Sight_at_10 ?_
  refine RO_chk (fun hi1 => ?_)
  refine RO_ia lk_105 hi1 dc_Sight_at_11 ?_
  exact RO_iret rfl dc_Sight_at_12
def bo_Sight_join_44 (p0 : Int) (p2 : Int) (k17 : Int → Int → Mm → Res) (v3 : Int) (v5 : Int) (mem : Mm) : Res := k17 v3 (w32 (v5 + 1)) mem
set_option maxHeartbeats 4000000 in
theorem rb_Sight_join_44 {E : EE} (p0 : Int) (p2 : Int)  (k17 : Int → Int → Mm → Res) (H17 : ∀ (v3 : Int) (v5 : Int)  (mem : Mm), RO E mt_Sight_join (k17 v3 v5 mem) 17 [(0, vl p0), (2, vi p2), (3, vl v3), (5, vi v5)] [] mem) (v3 : Int) (v5 : Int)  (mem : Mm) : RO E mt_Sight_join (bo_Sight_join_44 p0 p2 k17 v3 v5 mem) 44 [(0, vl p0), (2, vi p2), (3, vl v3), (5, vi v5)] [] mem := by
  unfold bo_Sight_join_44
  refine RO_iinc dc_Sight_join_44 rfl (Nat.le_of_ble_eq_true rfl) ?_
  refine RO_goto (tgt := 17) dc_Sight_join_47 rfl ?_
  refine RO_sub ?_ (H17 v3 (w32 (v5 + 1)) mem)
  exact ⟨rfl, rfl, rfl, rfl, trivial⟩
def bo_Sight_join_17 (p0 : Int) (p2 : Int) (k17 : Int → Int → Mm → Res) (v3 : Int) (v5 : Int) (mem : Mm) : Res := if v5 < 64 then (if (lcm (land (lushr p0 v5) 1) 0) = 0 then (bo_Sight_join_44 p0 p2 k17 v3 v5 mem) else (bn (lor v3 (lshl 1 (ior v5 p2))) fun x1 => bo_Sight_join_44 p0 p2 k17 x1 v5 mem)) else (some (v3, mem))
set_option maxHeartbeats 4000000 in
theorem rb_Sight_join_17 {E : EE} (p0 : Int) (p2 : Int)  (k17 : Int → Int → Mm → Res) (H17 : ∀ (v3 : Int) (v5 : Int)  (mem : Mm), RO E mt_Sight_join (k17 v3 v5 mem) 17 [(0, vl p0), (2, vi p2), (3, vl v3), (5, vi v5)] [] mem) (v3 : Int) (v5 : Int)  (mem : Mm) : RO E mt_Sight_join (bo_Sight_join_17 p0 p2 k17 v3 v5 mem) 17 [(0, vl p0), (2, vi p2), (3, vl v3), (5, vi v5)] [] mem := by
  unfold bo_Sight_join_17
  refine RO_iload dc_Sight_join_17 rfl ?_
  refine RO_bipush dc_Sight_join_19 ?_
  refine RO_icmp_ge (tgt := 50) dc_Sight_join_21 rfl ?_ ?_
  · refine RO_lload_n dc_Sight_join_24 rfl rfl ?_
    refine RO_iload dc_Sight_join_25 rfl ?_
    refine RO_lushr dc_Sight_join_27 ?_
    refine RO_lconst (x := 1) dc_Sight_join_28 ⟨by decide, ⟨by decide, by decide⟩⟩ ?_
    refine RO_land dc_Sight_join_29 ?_
    refine RO_lconst (x := 0) dc_Sight_join_30 ⟨by decide, ⟨by decide, by decide⟩⟩ ?_
    refine RO_lcmp dc_Sight_join_31 ?_
    refine RO_if_eq (tgt := 44) dc_Sight_join_32 rfl ?_ ?_
    · refine RO_sub ?_ (rb_Sight_join_44 p0 p2 k17 H17 v3 v5 mem)
      exact ⟨rfl, rfl, rfl, rfl, trivial⟩
    · refine RO_lload_n dc_Sight_join_35 rfl rfl ?_
      refine RO_lconst (x := 1) dc_Sight_join_36 ⟨by decide, ⟨by decide, by decide⟩⟩ ?_
      refine RO_iload dc_Sight_join_37 rfl ?_
      refine RO_iload_n dc_Sight_join_39 rfl rfl ?_
      refine RO_ior dc_Sight_join_40 ?_
      refine RO_lshl dc_Sight_join_41 ?_
      refine RO_lor dc_Sight_join_42 ?_
      refine RO_bnT (fun x1 => ?_)
      refine RO_lstore_n dc_Sight_join_43 rfl (Nat.le_of_ble_eq_true rfl) ?_
      refine RO_sub ?_ (rb_Sight_join_44 p0 p2 k17 H17 x1 v5 mem)
      exact ⟨rfl, rfl, rfl, rfl, trivial⟩
  · refine RO_lload_n dc_Sight_join_50 rfl rfl ?_
    exact RO_lret rfl dc_Sight_join_51
def lp_Sight_join_17 (p0 : Int) (p2 : Int)  : Nat → Int → Int → Mm → Res
  | 0 => fun _ _ _ => none
  | n + 1 => bo_Sight_join_17 p0 p2  (lp_Sight_join_17 p0 p2  n)
theorem rp_Sight_join_17 {E : EE} (p0 : Int) (p2 : Int)    : ∀ (n : Nat) (v3 : Int) (v5 : Int)  (mem : Mm), RO E mt_Sight_join (lp_Sight_join_17 p0 p2  n v3 v5 mem) 17 [(0, vl p0), (2, vi p2), (3, vl v3), (5, vi v5)] [] mem := by
  intro n
  induction n with
  | zero => intro v3 v5  mem; exact RO_none
  | succ n ih => intro v3 v5  mem; exact rb_Sight_join_17 p0 p2   (lp_Sight_join_17 p0 p2  n)  ih v3 v5  mem
def fn_Sight_join (p0 : Int) (p2 : Int) (mem : Mm) : Res := if (lcm p0 0) = 0 then (some (p0, mem)) else (if p2 = 0 then (some (p0, mem)) else (lp_Sight_join_17 p0 p2 FU 0 0 mem))
set_option maxHeartbeats 4000000 in
theorem pf_Sight_join {E : EE} (p0 : Int) (p2 : Int)  (mem : Mm) {r : Int} {mem9 : Mm} (h : fn_Sight_join p0 p2 mem = some (r, mem9)) : MetX E 1 yn_Sight_join cd_Sight_join 6 (some .long) [vl p0, vi p2] mem r mem9 := by
  refine RO_met (y := yn_Sight_join) (by decide +kernel) (Nat.le_of_ble_eq_true rfl) ?_ h
  show RO E mt_Sight_join (fn_Sight_join p0 p2 mem) 0 [(0, vl p0), (2, vi p2)] [] mem
  unfold fn_Sight_join
  refine RO_lload_n dc_Sight_join_0 rfl rfl ?_
  refine RO_lconst (x := 0) dc_Sight_join_1 ⟨by decide, ⟨by decide, by decide⟩⟩ ?_
  refine RO_lcmp dc_Sight_join_2 ?_
  refine RO_if_eq (tgt := 10) dc_Sight_join_3 rfl ?_ ?_
  · refine RO_lload_n dc_Sight_join_10 rfl rfl ?_
    exact RO_lret rfl dc_Sight_join_11
  · refine RO_iload_n dc_Sight_join_6 rfl rfl ?_
    refine RO_if_ne (tgt := 12) dc_Sight_join_7 rfl ?_ ?_
    · refine RO_lload_n dc_Sight_join_10 rfl rfl ?_
      exact RO_lret rfl dc_Sight_join_11
    · refine RO_lconst (x := 0) dc_Sight_join_12 ⟨by decide, ⟨by decide, by decide⟩⟩ ?_
      refine RO_lstore_n dc_Sight_join_13 rfl (Nat.le_of_ble_eq_true rfl) ?_
      refine RO_iconst dc_Sight_join_14 ?_
      refine RO_istore dc_Sight_join_15 (Nat.le_of_ble_eq_true rfl) ?_
      refine RO_sub ?_ (rp_Sight_join_17 p0 p2 FU 0 0 mem)
      exact ⟨rfl, rfl, rfl, rfl, trivial⟩
def bo_Sight_spread_89 (p1 : Nat) (p2 : Int) (p3 : Int) (p4 : Int) (p5 : Int) (k3 : Int → Mm → Res) (v7 : Int) (mem : Mm) : Res := k3 (w32 (v7 + 1)) mem
set_option maxHeartbeats 4000000 in
theorem rb_Sight_spread_89 {E : EE} (p1 : Nat) (p2 : Int) (p3 : Int) (p4 : Int) (p5 : Int) (hk_p1 : ly_k p1 = (0, 15)) (k3 : Int → Mm → Res) (H3 : ∀ (v7 : Int)  (mem : Mm), RO E mt_Sight_spread (k3 v7 mem) 3 [(0, rf 104), (1, rf p1), (2, vi p2), (3, vi p3), (4, vi p4), (5, vl p5), (7, vi v7)] [] mem) (v7 : Int)  (mem : Mm) : RO E mt_Sight_spread (bo_Sight_spread_89 p1 p2 p3 p4 p5 k3 v7 mem) 89 [(0, rf 104), (1, rf p1), (2, vi p2), (3, vi p3), (4, vi p4), (5, vl p5), (7, vi v7)] [] mem := by
  unfold bo_Sight_spread_89
  refine RO_iinc dc_Sight_spread_89 rfl (Nat.le_of_ble_eq_true rfl) ?_
  refine RO_goto (tgt := 3) dc_Sight_spread_92 rfl ?_
  refine RO_sub ?_ (H3 (w32 (v7 + 1)) mem)
  exact ⟨rfl, rfl, rfl, rfl, rfl, rfl, rfl, trivial⟩
def bo_Sight_spread_49 (p1 : Nat) (p2 : Int) (p3 : Int) (p4 : Int) (p5 : Int) (k3 : Int → Mm → Res) (v7 : Int) (s0 : Int) (mem : Mm) : Res := if 0 < s0 then (if (w32 (p4 + s0)) < 240 then (bn (w32 ((w32 ((w32 (v7 * 240)) + p4)) + s0)) fun x1 => if 0 ≤ x1 ∧ x1 < 1440 then if 0 ≤ x1 ∧ x1 < 1440 then bn (mst mem 106 x1.toNat (lor (mem 106 x1.toNat) p5)) fun m4 => bo_Sight_spread_89 p1 p2 p3 p4 p5 k3 v7 m4 else none else none) else (bo_Sight_spread_89 p1 p2 p3 p4 p5 k3 v7 mem)) else (bo_Sight_spread_89 p1 p2 p3 p4 p5 k3 v7 mem)
set_option maxHeartbeats 4000000 in
theorem rb_Sight_spread_49 {E : EE} (p1 : Nat) (p2 : Int) (p3 : Int) (p4 : Int) (p5 : Int) (hk_p1 : ly_k p1 = (0, 15)) (k3 : Int → Mm → Res) (H3 : ∀ (v7 : Int)  (mem : Mm), RO E mt_Sight_spread (k3 v7 mem) 3 [(0, rf 104), (1, rf p1), (2, vi p2), (3, vi p3), (4, vi p4), (5, vl p5), (7, vi v7)] [] mem) (v7 : Int) (s0 : Int)  (mem : Mm) : RO E mt_Sight_spread (bo_Sight_spread_49 p1 p2 p3 p4 p5 k3 v7 s0 mem) 49 [(0, rf 104), (1, rf p1), (2, vi p2), (3, vi p3), (4, vi p4), (5, vl p5), (7, vi v7)] [vi s0] mem := by
  unfold bo_Sight_spread_49
  refine RO_istore dc_Sight_spread_49 (Nat.le_of_ble_eq_true rfl) ?_
  refine RO_iload dc_Sight_spread_51 rfl ?_
  refine RO_if_le (tgt := 89) dc_Sight_spread_53 rfl ?_ ?_
  · refine RO_iload dc_Sight_spread_56 rfl ?_
    refine RO_iload dc_Sight_spread_58 rfl ?_
    refine RO_iadd dc_Sight_spread_60 ?_
    refine RO_sipush dc_Sight_spread_61 ?_
    refine RO_icmp_ge (tgt := 89) dc_Sight_spread_64 rfl ?_ ?_
    · refine RO_aload_n dc_Sight_spread_67 rfl rfl ?_
      refine RO_getR (b := 106) gf_Sight_15 lk_104 rfl dc_Sight_spread_68 ?_
      refine RO_iload dc_Sight_spread_71 rfl ?_
      refine RO_sipush dc_Sight_spread_73 ?_
      refine RO_imul dc_Sight_spread_76 ?_
      refine RO_iload dc_Sight_spread_77 rfl ?_
      refine RO_iadd dc_Sight_spread_79 ?_
      refine RO_iload dc_Sight_spread_80 rfl ?_
      refine RO_iadd dc_Sight_spread_82 ?_
      refine RO_bnT (fun x1 => ?_)
      refine RO_dup2 dc_Sight_spread_83 (nt0 _) (nt2 _) ?_
      refine RO_chk (fun hi2 => ?_)
      refine RO_la lk_106 hi2 dc_Sight_spread_84 ?_
      refine RO_lload dc_Sight_spread_85 rfl ?_
      refine RO_lor dc_Sight_spread_87 ?_
      refine RO_chk (fun hi3 => ?_)
      refine RO_lst lk_106 hi3 dc_Sight_spread_88 ?_
      refine RO_bnM (fun m4 => ?_)
      refine RO_sub ?_ (rb_Sight_spread_89 p1 p2 p3 p4 p5 hk_p1 k3 H3 v7 m4)
      exact ⟨rfl, rfl, rfl, rfl, rfl, rfl, rfl, trivial⟩
    · refine RO_sub ?_ (rb_Sight_spread_89 p1 p2 p3 p4 p5 hk_p1 k3 H3 v7 mem)
      exact ⟨rfl, rfl, rfl, rfl, rfl, rfl, rfl, trivial⟩
  · refine RO_sub ?_ (rb_Sight_spread_89 p1 p2 p3 p4 p5 hk_p1 k3 H3 v7 mem)
    exact ⟨rfl, rfl, rfl, rfl, rfl, rfl, rfl, trivial⟩
def bo_Sight_spread_3 (p1 : Nat) (p2 : Int) (p3 : Int) (p4 : Int) (p5 : Int) (k3 : Int → Mm → Res) (v7 : Int) (mem : Mm) : Res := if v7 < (mem p1 0) then (if 0 ≤ w32 ((w32 (p3 * 6)) + v7) ∧ w32 ((w32 (p3 * 6)) + v7) < 36 then bn (mem (p1 + 4) (w32 ((w32 (p3 * 6)) + v7)).toNat) fun x2 => if v7 = p3 then (bo_Sight_spread_49 p1 p2 p3 p4 p5 k3 v7 1 mem) else (if p2 = 0 then (bo_Sight_spread_49 p1 p2 p3 p4 p5 k3 v7 x2 mem) else (bo_Sight_spread_49 p1 p2 p3 p4 p5 k3 v7 (w32 (2 * x2)) mem)) else none) else (some (0, mem))
set_option maxHeartbeats 4000000 in
theorem rb_Sight_spread_3 {E : EE} (p1 : Nat) (p2 : Int) (p3 : Int) (p4 : Int) (p5 : Int) (hk_p1 : ly_k p1 = (0, 15)) (k3 : Int → Mm → Res) (H3 : ∀ (v7 : Int)  (mem : Mm), RO E mt_Sight_spread (k3 v7 mem) 3 [(0, rf 104), (1, rf p1), (2, vi p2), (3, vi p3), (4, vi p4), (5, vl p5), (7, vi v7)] [] mem) (v7 : Int)  (mem : Mm) : RO E mt_Sight_spread (bo_Sight_spread_3 p1 p2 p3 p4 p5 k3 v7 mem) 3 [(0, rf 104), (1, rf p1), (2, vi p2), (3, vi p3), (4, vi p4), (5, vl p5), (7, vi v7)] [] mem := by
  unfold bo_Sight_spread_3
  refine RO_iload dc_Sight_spread_3 rfl ?_
  refine RO_aload_n dc_Sight_spread_5 rfl rfl ?_
  refine RO_getI gf_Sight_52 hk_p1 dc_Sight_spread_6 ?_
  refine RO_icmp_ge (tgt := 95) dc_Sight_spread_9 rfl ?_ ?_
  · refine RO_aload_n dc_Sight_spread_12 rfl rfl ?_
    refine RO_getR (b := (p1 + 4)) gf_Sight_66 hk_p1 (by omega) dc_Sight_spread_13 ?_
    refine RO_iload_n dc_Sight_spread_16 rfl rfl ?_
    refine RO_bipush dc_Sight_spread_17 ?_
    refine RO_imul dc_Sight_spread_19 ?_
    refine RO_iload dc_Sight_spread_20 rfl ?_
    refine RO_iadd dc_Sight_spread_22 ?_
    refine RO_chk (fun hi1 => ?_)
    refine RO_ia (cl_0_8 hk_p1) hi1 dc_Sight_spread_23 ?_
    refine RO_bnT (fun x2 => ?_)
    refine RO_istore dc_Sight_spread_24 (Nat.le_of_ble_eq_true rfl) ?_
    refine RO_iload dc_Sight_spread_26 rfl ?_
    refine RO_iload_n dc_Sight_spread_28 rfl rfl ?_
    refine RO_icmp_ne (tgt := 36) dc_Sight_spread_29 rfl ?_ ?_
    · refine RO_iconst dc_Sight_spread_32 ?_
      refine RO_goto (tgt := 49) dc_Sight_spread_33 rfl ?_
      refine RO_sub ?_ (rb_Sight_spread_49 p1 p2 p3 p4 p5 hk_p1 k3 H3 v7 1 mem)
      exact ⟨rfl, rfl, rfl, rfl, rfl, rfl, rfl, trivial⟩
    · refine RO_iload_n dc_Sight_spread_36 rfl rfl ?_
      refine RO_if_eq (tgt := 47) dc_Sight_spread_37 rfl ?_ ?_
      · refine RO_iload dc_Sight_spread_47 rfl ?_
        refine RO_sub ?_ (rb_Sight_spread_49 p1 p2 p3 p4 p5 hk_p1 k3 H3 v7 x2 mem)
        exact ⟨rfl, rfl, rfl, rfl, rfl, rfl, rfl, trivial⟩
      · refine RO_iconst dc_Sight_spread_40 ?_
        refine RO_iload dc_Sight_spread_41 rfl ?_
        refine RO_imul dc_Sight_spread_43 ?_
        refine RO_goto (tgt := 49) dc_Sight_spread_44 rfl ?_
        refine RO_sub ?_ (rb_Sight_spread_49 p1 p2 p3 p4 p5 hk_p1 k3 H3 v7 (w32 (2 * x2)) mem)
        exact ⟨rfl, rfl, rfl, rfl, rfl, rfl, rfl, trivial⟩
  · exact RO_vret rfl dc_Sight_spread_95
def lp_Sight_spread_3 (p1 : Nat) (p2 : Int) (p3 : Int) (p4 : Int) (p5 : Int)  : Nat → Int → Mm → Res
  | 0 => fun _ _ => none
  | n + 1 => bo_Sight_spread_3 p1 p2 p3 p4 p5  (lp_Sight_spread_3 p1 p2 p3 p4 p5  n)
theorem rp_Sight_spread_3 {E : EE} (p1 : Nat) (p2 : Int) (p3 : Int) (p4 : Int) (p5 : Int) (hk_p1 : ly_k p1 = (0, 15))   : ∀ (n : Nat) (v7 : Int)  (mem : Mm), RO E mt_Sight_spread (lp_Sight_spread_3 p1 p2 p3 p4 p5  n v7 mem) 3 [(0, rf 104), (1, rf p1), (2, vi p2), (3, vi p3), (4, vi p4), (5, vl p5), (7, vi v7)] [] mem := by
  intro n
  induction n with
  | zero => intro v7  mem; exact RO_none
  | succ n ih => intro v7  mem; exact rb_Sight_spread_3 p1 p2 p3 p4 p5 hk_p1  (lp_Sight_spread_3 p1 p2 p3 p4 p5  n)  ih v7  mem
def fn_Sight_spread (p1 : Nat) (p2 : Int) (p3 : Int) (p4 : Int) (p5 : Int) (mem : Mm) : Res := lp_Sight_spread_3 p1 p2 p3 p4 p5 FU 0 mem
set_option maxHeartbeats 4000000 in
theorem pf_Sight_spread {E : EE} (p1 : Nat) (p2 : Int) (p3 : Int) (p4 : Int) (p5 : Int) (hk_p1 : ly_k p1 = (0, 15)) (mem : Mm) {r : Int} {mem9 : Mm} (h : fn_Sight_spread p1 p2 p3 p4 p5 mem = some (r, mem9)) : MetX E 1 yn_Sight_spread cd_Sight_spread 10 none [rf 104, rf p1, vi p2, vi p3, vi p4, vl p5] mem r mem9 := by
  refine RO_met (y := yn_Sight_spread) (by decide +kernel) (Nat.le_of_ble_eq_true rfl) ?_ h
  show RO E mt_Sight_spread (fn_Sight_spread p1 p2 p3 p4 p5 mem) 0 [(0, rf 104), (1, rf p1), (2, vi p2), (3, vi p3), (4, vi p4), (5, vl p5)] [] mem
  unfold fn_Sight_spread
  refine RO_iconst dc_Sight_spread_0 ?_
  refine RO_istore dc_Sight_spread_1 (Nat.le_of_ble_eq_true rfl) ?_
  refine RO_sub ?_ (rp_Sight_spread_3 p1 p2 p3 p4 p5 hk_p1 FU 0 mem)
  exact ⟨rfl, rfl, rfl, rfl, rfl, rfl, rfl, trivial⟩
def bo_Standing_addSeen_63 (th : Nat) (p1 : Int) (p2 : Int) (p3 : Int)  (s0 : Nat) (s1 : Int) (mem : Mm) : Res := bn (mst mem s0 6 s1) fun m1 => bn (mst m1 th 3 (w32 ((m1 th 3) + 1))) fun m2 => some (1, m2)
set_option maxHeartbeats 4000000 in
theorem rb_Standing_addSeen_63 {E : EE} (th : Nat) (p1 : Int) (p2 : Int) (p3 : Int) (hk_th : ly_k th = (5, 8))   (s0 : Nat) (s1 : Int) (hk_s0 : ly_k s0 = (5, 8)) (mem : Mm) : RO E mt_Standing_addSeen (bo_Standing_addSeen_63 th p1 p2 p3  s0 s1 mem) 63 [(0, rf th)] [vi s1, rf s0] mem := by
  unfold bo_Standing_addSeen_63
  refine RO_putI gp_Standing_65 hk_s0 dc_Standing_addSeen_63 ?_
  refine RO_bnM (fun m1 => ?_)
  refine RO_aload_n dc_Standing_addSeen_66 rfl rfl ?_
  refine RO_dup dc_Standing_addSeen_67 (nt2 _) ?_
  refine RO_getI gf_Standing_43 hk_th dc_Standing_addSeen_68 ?_
  refine RO_iconst dc_Standing_addSeen_71 ?_
  refine RO_iadd dc_Standing_addSeen_72 ?_
  refine RO_putI gp_Standing_43 hk_th dc_Standing_addSeen_73 ?_
  refine RO_bnM (fun m2 => ?_)
  refine RO_iconst dc_Standing_addSeen_76 ?_
  exact RO_zret rfl (Or.inr rfl) dc_Standing_addSeen_77
def fn_Standing_addSeen (th : Nat) (p1 : Int) (p2 : Int) (p3 : Int) (mem : Mm) : Res := if (mem th 3) < 8 then (if 0 ≤ mem th 3 ∧ mem th 3 < 8 then bn (mst mem (th + 8) (mem th 3).toNat p1) fun m2 => if 0 ≤ m2 th 3 ∧ m2 th 3 < 8 then bn (mst m2 (th + 9) (m2 th 3).toNat p2) fun m4 => if p3 = 0 then (bo_Standing_addSeen_63 th p1 p2 p3 th (iand (m4 th 6) (ixor (ishl 1 (m4 th 3)) (-1))) m4) else (bo_Standing_addSeen_63 th p1 p2 p3 th (ior (m4 th 6) (ishl 1 (m4 th 3))) m4) else none else none) else (some (0, mem))
set_option maxHeartbeats 4000000 in
theorem pf_Standing_addSeen {E : EE} (th : Nat) (p1 : Int) (p2 : Int) (p3 : Int) (hk_th : ly_k th = (5, 8)) (mem : Mm) {r : Int} {mem9 : Mm} (h : fn_Standing_addSeen th p1 p2 p3 mem = some (r, mem9)) : MetX E 1 yn_Standing_addSeen cd_Standing_addSeen 4 (some .boolean) [rf th, vi p1, vi p2, vi p3] mem r mem9 := by
  refine RO_met (y := yn_Standing_addSeen) (by decide +kernel) (Nat.le_of_ble_eq_true rfl) ?_ h
  show RO E mt_Standing_addSeen (fn_Standing_addSeen th p1 p2 p3 mem) 0 [(0, rf th), (1, vi p1), (2, vi p2), (3, vi p3)] [] mem
  unfold fn_Standing_addSeen
  refine RO_aload_n dc_Standing_addSeen_0 rfl rfl ?_
  refine RO_getI gf_Standing_43 hk_th dc_Standing_addSeen_1 ?_
  refine RO_bipush dc_Standing_addSeen_4 ?_
  refine RO_icmp_lt (tgt := 11) dc_Standing_addSeen_6 rfl ?_ ?_
  · refine RO_aload_n dc_Standing_addSeen_11 rfl rfl ?_
    refine RO_getR (b := (th + 8)) gf_Standing_25 hk_th (by omega) dc_Standing_addSeen_12 ?_
    refine RO_aload_n dc_Standing_addSeen_15 rfl rfl ?_
    refine RO_getI gf_Standing_43 hk_th dc_Standing_addSeen_16 ?_
    refine RO_iload_n dc_Standing_addSeen_19 rfl rfl ?_
    refine RO_chk (fun hi1 => ?_)
    refine RO_is (cl_5_4 hk_th) hi1 dc_Standing_addSeen_20 ?_
    refine RO_bnM (fun m2 => ?_)
    refine RO_aload_n dc_Standing_addSeen_21 rfl rfl ?_
    refine RO_getR (b := (th + 9)) gf_Standing_29 hk_th (by omega) dc_Standing_addSeen_22 ?_
    refine RO_aload_n dc_Standing_addSeen_25 rfl rfl ?_
    refine RO_getI gf_Standing_43 hk_th dc_Standing_addSeen_26 ?_
    refine RO_iload_n dc_Standing_addSeen_29 rfl rfl ?_
    refine RO_chk (fun hi3 => ?_)
    refine RO_is (cl_5_5 hk_th) hi3 dc_Standing_addSeen_30 ?_
    refine RO_bnM (fun m4 => ?_)
    refine RO_aload_n dc_Standing_addSeen_31 rfl rfl ?_
    refine RO_iload_n dc_Standing_addSeen_32 rfl rfl ?_
    refine RO_if_eq (tgt := 50) dc_Standing_addSeen_33 rfl ?_ ?_
    · refine RO_aload_n dc_Standing_addSeen_50 rfl rfl ?_
      refine RO_getI gf_Standing_65 hk_th dc_Standing_addSeen_51 ?_
      refine RO_iconst dc_Standing_addSeen_54 ?_
      refine RO_aload_n dc_Standing_addSeen_55 rfl rfl ?_
      refine RO_getI gf_Standing_43 hk_th dc_Standing_addSeen_56 ?_
      refine RO_ishl dc_Standing_addSeen_59 ?_
      refine RO_iconst dc_Standing_addSeen_60 ?_
      refine RO_ixor dc_Standing_addSeen_61 ?_
      refine RO_iand dc_Standing_addSeen_62 ?_
      refine RO_sub ?_ (rb_Standing_addSeen_63 th p1 p2 p3 hk_th th (iand (m4 th 6) (ixor (ishl 1 (m4 th 3)) (-1))) hk_th m4)
      exact ⟨rfl, trivial⟩
    · refine RO_aload_n dc_Standing_addSeen_36 rfl rfl ?_
      refine RO_getI gf_Standing_65 hk_th dc_Standing_addSeen_37 ?_
      refine RO_iconst dc_Standing_addSeen_40 ?_
      refine RO_aload_n dc_Standing_addSeen_41 rfl rfl ?_
      refine RO_getI gf_Standing_43 hk_th dc_Standing_addSeen_42 ?_
      refine RO_ishl dc_Standing_addSeen_45 ?_
      refine RO_ior dc_Standing_addSeen_46 ?_
      refine RO_goto (tgt := 63) dc_Standing_addSeen_47 rfl ?_
      refine RO_sub ?_ (rb_Standing_addSeen_63 th p1 p2 p3 hk_th th (ior (m4 th 6) (ishl 1 (m4 th 3))) hk_th m4)
      exact ⟨rfl, trivial⟩
  · refine RO_iconst dc_Standing_addSeen_9 ?_
    exact RO_zret rfl (Or.inl rfl) dc_Standing_addSeen_10
def bo_Standing_hoursTold_26 (th : Nat) (p1 : Nat) (k4 : Int → Int → Mm → Res) (v2 : Int) (v3 : Int) (mem : Mm) : Res := k4 v2 (w32 (v3 + 1)) mem
set_option maxHeartbeats 4000000 in
theorem rb_Standing_hoursTold_26 {E : EE} (th : Nat) (p1 : Nat) (hk_th : ly_k th = (5, 8)) (hk_p1 : ly_k p1 = (0, 15)) (k4 : Int → Int → Mm → Res) (H4 : ∀ (v2 : Int) (v3 : Int)  (mem : Mm), RO E mt_Standing_hoursTold (k4 v2 v3 mem) 4 [(0, rf th), (1, rf p1), (2, vi v2), (3, vi v3)] [] mem) (v2 : Int) (v3 : Int)  (mem : Mm) : RO E mt_Standing_hoursTold (bo_Standing_hoursTold_26 th p1 k4 v2 v3 mem) 26 [(0, rf th), (1, rf p1), (2, vi v2), (3, vi v3)] [] mem := by
  unfold bo_Standing_hoursTold_26
  refine RO_iinc dc_Standing_hoursTold_26 rfl (Nat.le_of_ble_eq_true rfl) ?_
  refine RO_goto (tgt := 4) dc_Standing_hoursTold_29 rfl ?_
  refine RO_sub ?_ (H4 v2 (w32 (v3 + 1)) mem)
  exact ⟨rfl, rfl, rfl, rfl, trivial⟩
def bo_Standing_hoursTold_4 (th : Nat) (p1 : Nat) (k4 : Int → Int → Mm → Res) (v2 : Int) (v3 : Int) (mem : Mm) : Res := if v3 < (mem p1 2) then (if 0 ≤ v3 ∧ v3 < 6 then if (mem (th + 10) v3.toNat) = (-2) then (bo_Standing_hoursTold_26 th p1 k4 v2 v3 mem) else (bo_Standing_hoursTold_26 th p1 k4 (w32 (v2 + 1)) v3 mem) else none) else (some (v2, mem))
set_option maxHeartbeats 4000000 in
theorem rb_Standing_hoursTold_4 {E : EE} (th : Nat) (p1 : Nat) (hk_th : ly_k th = (5, 8)) (hk_p1 : ly_k p1 = (0, 15)) (k4 : Int → Int → Mm → Res) (H4 : ∀ (v2 : Int) (v3 : Int)  (mem : Mm), RO E mt_Standing_hoursTold (k4 v2 v3 mem) 4 [(0, rf th), (1, rf p1), (2, vi v2), (3, vi v3)] [] mem) (v2 : Int) (v3 : Int)  (mem : Mm) : RO E mt_Standing_hoursTold (bo_Standing_hoursTold_4 th p1 k4 v2 v3 mem) 4 [(0, rf th), (1, rf p1), (2, vi v2), (3, vi v3)] [] mem := by
  unfold bo_Standing_hoursTold_4
  refine RO_iload_n dc_Standing_hoursTold_4 rfl rfl ?_
  refine RO_aload_n dc_Standing_hoursTold_5 rfl rfl ?_
  refine RO_getI gf_Standing_74 hk_p1 dc_Standing_hoursTold_6 ?_
  refine RO_icmp_ge (tgt := 32) dc_Standing_hoursTold_9 rfl ?_ ?_
  · refine RO_aload_n dc_Standing_hoursTold_12 rfl rfl ?_
    refine RO_getR (b := (th + 10)) gf_Standing_32 hk_th (by omega) dc_Standing_hoursTold_13 ?_
    refine RO_iload_n dc_Standing_hoursTold_16 rfl rfl ?_
    refine RO_chk (fun hi1 => ?_)
    refine RO_ia (cl_5_7 hk_th) hi1 dc_Standing_hoursTold_17 ?_
    refine RO_bipush dc_Standing_hoursTold_18 ?_
    refine RO_icmp_eq (tgt := 26) dc_Standing_hoursTold_20 rfl ?_ ?_
    · refine RO_sub ?_ (rb_Standing_hoursTold_26 th p1 hk_th hk_p1 k4 H4 v2 v3 mem)
      exact ⟨rfl, rfl, rfl, rfl, trivial⟩
    · refine RO_iinc dc_Standing_hoursTold_23 rfl (Nat.le_of_ble_eq_true rfl) ?_
      refine RO_sub ?_ (rb_Standing_hoursTold_26 th p1 hk_th hk_p1 k4 H4 (w32 (v2 + 1)) v3 mem)
      exact ⟨rfl, rfl, rfl, rfl, trivial⟩
  · refine RO_iload_n dc_Standing_hoursTold_32 rfl rfl ?_
    exact RO_iret rfl dc_Standing_hoursTold_33
def lp_Standing_hoursTold_4 (th : Nat) (p1 : Nat)  : Nat → Int → Int → Mm → Res
  | 0 => fun _ _ _ => none
  | n + 1 => bo_Standing_hoursTold_4 th p1  (lp_Standing_hoursTold_4 th p1  n)
theorem rp_Standing_hoursTold_4 {E : EE} (th : Nat) (p1 : Nat) (hk_th : ly_k th = (5, 8)) (hk_p1 : ly_k p1 = (0, 15))   : ∀ (n : Nat) (v2 : Int) (v3 : Int)  (mem : Mm), RO E mt_Standing_hoursTold (lp_Standing_hoursTold_4 th p1  n v2 v3 mem) 4 [(0, rf th), (1, rf p1), (2, vi v2), (3, vi v3)] [] mem := by
  intro n
  induction n with
  | zero => intro v2 v3  mem; exact RO_none
  | succ n ih => intro v2 v3  mem; exact rb_Standing_hoursTold_4 th p1 hk_th hk_p1  (lp_Standing_hoursTold_4 th p1  n)  ih v2 v3  mem
def fn_Standing_hoursTold (th : Nat) (p1 : Nat) (mem : Mm) : Res := lp_Standing_hoursTold_4 th p1 FU 0 0 mem
set_option maxHeartbeats 4000000 in
theorem pf_Standing_hoursTold {E : EE} (th : Nat) (p1 : Nat) (hk_th : ly_k th = (5, 8)) (hk_p1 : ly_k p1 = (0, 15)) (mem : Mm) {r : Int} {mem9 : Mm} (h : fn_Standing_hoursTold th p1 mem = some (r, mem9)) : MetX E 1 yn_Standing_hoursTold cd_Standing_hoursTold 4 (some .int) [rf th, rf p1] mem r mem9 := by
  refine RO_met (y := yn_Standing_hoursTold) (by decide +kernel) (Nat.le_of_ble_eq_true rfl) ?_ h
  show RO E mt_Standing_hoursTold (fn_Standing_hoursTold th p1 mem) 0 [(0, rf th), (1, rf p1)] [] mem
  unfold fn_Standing_hoursTold
  refine RO_iconst dc_Standing_hoursTold_0 ?_
  refine RO_istore_n dc_Standing_hoursTold_1 rfl (Nat.le_of_ble_eq_true rfl) ?_
  refine RO_iconst dc_Standing_hoursTold_2 ?_
  refine RO_istore_n dc_Standing_hoursTold_3 rfl (Nat.le_of_ble_eq_true rfl) ?_
  refine RO_sub ?_ (rp_Standing_hoursTold_4 th p1 hk_th hk_p1 FU 0 0 mem)
  exact ⟨rfl, rfl, rfl, rfl, trivial⟩
def fn_State_copy (th : Nat) (p1 : Nat) (mem : Mm) : Res := bn (mst mem th 0 (mem p1 0)) fun m1 => bn (mst m1 th 1 (m1 p1 1)) fun m2 => bn (mst m2 th 2 (m2 p1 2)) fun m3 => if m3 p1 3 = 0 ∨ m3 p1 3 = 1 then bn (mst m3 th 3 (m3 p1 3)) fun m5 => bn (mcp m5 (p1 + 1) (0 : Int).toNat (th + 1) (0 : Int).toNat (6 : Int).toNat) fun m6 => bn (mcp m6 (p1 + 2) (0 : Int).toNat (th + 2) (0 : Int).toNat (6 : Int).toNat) fun m7 => some (0, m7) else none
set_option maxHeartbeats 4000000 in
theorem pf_State_copy {E : EE} (th : Nat) (p1 : Nat) (hk_th : ly_k th = (6, 6)) (hk_p1 : ly_k p1 = (6, 6)) (mem : Mm) {r : Int} {mem9 : Mm} (h : fn_State_copy th p1 mem = some (r, mem9)) : MetX E 1 yn_State_copy cd_State_copy 2 none [rf th, rf p1] mem r mem9 := by
  refine RO_met (y := yn_State_copy) (by decide +kernel) (Nat.le_of_ble_eq_true rfl) ?_ h
  show RO E mt_State_copy (fn_State_copy th p1 mem) 0 [(0, rf th), (1, rf p1)] [] mem
  unfold fn_State_copy
  refine RO_aload_n dc_State_copy_0 rfl rfl ?_
  refine RO_aload_n dc_State_copy_1 rfl rfl ?_
  refine RO_getI gf_State_18 hk_p1 dc_State_copy_2 ?_
  refine RO_putI gp_State_18 hk_th dc_State_copy_5 ?_
  refine RO_bnM (fun m1 => ?_)
  refine RO_aload_n dc_State_copy_8 rfl rfl ?_
  refine RO_aload_n dc_State_copy_9 rfl rfl ?_
  refine RO_getI gf_State_22 hk_p1 dc_State_copy_10 ?_
  refine RO_putI gp_State_22 hk_th dc_State_copy_13 ?_
  refine RO_bnM (fun m2 => ?_)
  refine RO_aload_n dc_State_copy_16 rfl rfl ?_
  refine RO_aload_n dc_State_copy_17 rfl rfl ?_
  refine RO_getI gf_State_30 hk_p1 dc_State_copy_18 ?_
  refine RO_putI gp_State_30 hk_th dc_State_copy_21 ?_
  refine RO_bnM (fun m3 => ?_)
  refine RO_aload_n dc_State_copy_24 rfl rfl ?_
  refine RO_aload_n dc_State_copy_25 rfl rfl ?_
  refine RO_getZ gf_State_33 hk_p1 dc_State_copy_26 ?_
  refine RO_chk (fun hz4 => ?_)
  refine RO_putZ gp_State_33 hk_th hz4 dc_State_copy_29 ?_
  refine RO_bnM (fun m5 => ?_)
  refine RO_aload_n dc_State_copy_32 rfl rfl ?_
  refine RO_getR (b := (p1 + 1)) gf_State_9 hk_p1 (by omega) dc_State_copy_33 ?_
  refine RO_iconst dc_State_copy_36 ?_
  refine RO_aload_n dc_State_copy_37 rfl rfl ?_
  refine RO_getR (b := (th + 1)) gf_State_9 hk_th (by omega) dc_State_copy_38 ?_
  refine RO_iconst dc_State_copy_41 ?_
  refine RO_bipush dc_State_copy_42 ?_
  refine RO_copy mw_copy ml_State_46 (cl_6_4 hk_p1) (cl_6_4 hk_th) (by decide) (Nat.le_of_ble_eq_true rfl) (Nat.le_of_ble_eq_true rfl) dc_State_copy_44 ?_
  refine RO_bnM (fun m6 => ?_)
  refine RO_aload_n dc_State_copy_47 rfl rfl ?_
  refine RO_getR (b := (p1 + 2)) gf_State_15 hk_p1 (by omega) dc_State_copy_48 ?_
  refine RO_iconst dc_State_copy_51 ?_
  refine RO_aload_n dc_State_copy_52 rfl rfl ?_
  refine RO_getR (b := (th + 2)) gf_State_15 hk_th (by omega) dc_State_copy_53 ?_
  refine RO_iconst dc_State_copy_56 ?_
  refine RO_bipush dc_State_copy_57 ?_
  refine RO_copy mw_copy ml_State_46 (cl_6_5 hk_p1) (cl_6_5 hk_th) (by decide) (Nat.le_of_ble_eq_true rfl) (Nat.le_of_ble_eq_true rfl) dc_State_copy_59 ?_
  refine RO_bnM (fun m7 => ?_)
  exact RO_vret rfl dc_State_copy_62
def fn_State_lives (th : Nat) (p1 : Int) (mem : Mm) : Res := if (iand (ishr (mem th 2) p1) 1) = 0 then (some (0, mem)) else (some (1, mem))
set_option maxHeartbeats 4000000 in
theorem pf_State_lives {E : EE} (th : Nat) (p1 : Int) (hk_th : ly_k th = (6, 6)) (mem : Mm) {r : Int} {mem9 : Mm} (h : fn_State_lives th p1 mem = some (r, mem9)) : MetX E 1 yn_State_lives cd_State_lives 2 (some .boolean) [rf th, vi p1] mem r mem9 := by
  refine RO_met (y := yn_State_lives) (by decide +kernel) (Nat.le_of_ble_eq_true rfl) ?_ h
  show RO E mt_State_lives (fn_State_lives th p1 mem) 0 [(0, rf th), (1, vi p1)] [] mem
  unfold fn_State_lives
  refine RO_aload_n dc_State_lives_0 rfl rfl ?_
  refine RO_getI gf_State_30 hk_th dc_State_lives_1 ?_
  refine RO_iload_n dc_State_lives_4 rfl rfl ?_
  refine RO_ishr dc_State_lives_5 ?_
  refine RO_iconst dc_State_lives_6 ?_
  refine RO_iand dc_State_lives_7 ?_
  refine RO_if_eq (tgt := 15) dc_State_lives_8 rfl ?_ ?_
  · refine RO_iconst dc_State_lives_15 ?_
    exact RO_zret rfl (Or.inl rfl) dc_State_lives_16
  · refine RO_iconst dc_State_lives_11 ?_
    refine RO_goto (tgt := 16) dc_State_lives_12 rfl ?_
    exact RO_zret rfl (Or.inr rfl) dc_State_lives_16
def fn_State_bury (th : Nat) (p1 : Int) (mem : Mm) : Res := bn (mst mem th 2 (iand (mem th 2) (ixor (ishl 1 p1) (-1)))) fun m1 => some (0, m1)
set_option maxHeartbeats 4000000 in
theorem pf_State_bury {E : EE} (th : Nat) (p1 : Int) (hk_th : ly_k th = (6, 6)) (mem : Mm) {r : Int} {mem9 : Mm} (h : fn_State_bury th p1 mem = some (r, mem9)) : MetX E 1 yn_State_bury cd_State_bury 2 none [rf th, vi p1] mem r mem9 := by
  refine RO_met (y := yn_State_bury) (by decide +kernel) (Nat.le_of_ble_eq_true rfl) ?_ h
  show RO E mt_State_bury (fn_State_bury th p1 mem) 0 [(0, rf th), (1, vi p1)] [] mem
  unfold fn_State_bury
  refine RO_aload_n dc_State_bury_0 rfl rfl ?_
  refine RO_dup dc_State_bury_1 (nt2 _) ?_
  refine RO_getI gf_State_30 hk_th dc_State_bury_2 ?_
  refine RO_iconst dc_State_bury_5 ?_
  refine RO_iload_n dc_State_bury_6 rfl rfl ?_
  refine RO_ishl dc_State_bury_7 ?_
  refine RO_iconst dc_State_bury_8 ?_
  refine RO_ixor dc_State_bury_9 ?_
  refine RO_iand dc_State_bury_10 ?_
  refine RO_putI gp_State_30 hk_th dc_State_bury_11 ?_
  refine RO_bnM (fun m1 => ?_)
  exact RO_vret rfl dc_State_bury_14
def bo_State_delay_26 (th : Nat) (p1 : Int) (p2 : Int) (k2 : Int → Mm → Res) (v3 : Int) (mem : Mm) : Res := k2 (w32 (v3 + 1)) mem
set_option maxHeartbeats 4000000 in
theorem rb_State_delay_26 {E : EE} (th : Nat) (p1 : Int) (p2 : Int) (hk_th : ly_k th = (6, 6)) (k2 : Int → Mm → Res) (H2 : ∀ (v3 : Int)  (mem : Mm), RO E mt_State_delay (k2 v3 mem) 2 [(0, rf th), (1, vi p1), (2, vi p2), (3, vi v3)] [] mem) (v3 : Int)  (mem : Mm) : RO E mt_State_delay (bo_State_delay_26 th p1 p2 k2 v3 mem) 26 [(0, rf th), (1, vi p1), (2, vi p2), (3, vi v3)] [] mem := by
  unfold bo_State_delay_26
  refine RO_iinc dc_State_delay_26 rfl (Nat.le_of_ble_eq_true rfl) ?_
  refine RO_goto (tgt := 2) dc_State_delay_29 rfl ?_
  refine RO_sub ?_ (H2 (w32 (v3 + 1)) mem)
  exact ⟨rfl, rfl, rfl, rfl, trivial⟩
def bo_State_delay_2 (th : Nat) (p1 : Int) (p2 : Int) (k2 : Int → Mm → Res) (v3 : Int) (mem : Mm) : Res := if v3 < 6 then (if (iand (ishr p1 v3) 1) = 0 then (bo_State_delay_26 th p1 p2 k2 v3 mem) else (if 0 ≤ v3 ∧ v3 < 6 then if 0 ≤ v3 ∧ v3 < 6 then bn (mst mem (th + 1) v3.toNat (w32 ((mem (th + 1) v3.toNat) + p2))) fun m3 => bo_State_delay_26 th p1 p2 k2 v3 m3 else none else none)) else (some (0, mem))
set_option maxHeartbeats 4000000 in
theorem rb_State_delay_2 {E : EE} (th : Nat) (p1 : Int) (p2 : Int) (hk_th : ly_k th = (6, 6)) (k2 : Int → Mm → Res) (H2 : ∀ (v3 : Int)  (mem : Mm), RO E mt_State_delay (k2 v3 mem) 2 [(0, rf th), (1, vi p1), (2, vi p2), (3, vi v3)] [] mem) (v3 : Int)  (mem : Mm) : RO E mt_State_delay (bo_State_delay_2 th p1 p2 k2 v3 mem) 2 [(0, rf th), (1, vi p1), (2, vi p2), (3, vi v3)] [] mem := by
  unfold bo_State_delay_2
  refine RO_iload_n dc_State_delay_2 rfl rfl ?_
  refine RO_bipush dc_State_delay_3 ?_
  refine RO_icmp_ge (tgt := 32) dc_State_delay_5 rfl ?_ ?_
  · refine RO_iload_n dc_State_delay_8 rfl rfl ?_
    refine RO_iload_n dc_State_delay_9 rfl rfl ?_
    refine RO_ishr dc_State_delay_10 ?_
    refine RO_iconst dc_State_delay_11 ?_
    refine RO_iand dc_State_delay_12 ?_
    refine RO_if_eq (tgt := 26) dc_State_delay_13 rfl ?_ ?_
    · refine RO_sub ?_ (rb_State_delay_26 th p1 p2 hk_th k2 H2 v3 mem)
      exact ⟨rfl, rfl, rfl, rfl, trivial⟩
    · refine RO_aload_n dc_State_delay_16 rfl rfl ?_
      refine RO_getR (b := (th + 1)) gf_State_9 hk_th (by omega) dc_State_delay_17 ?_
      refine RO_iload_n dc_State_delay_20 rfl rfl ?_
      refine RO_dup2 dc_State_delay_21 (nt0 _) (nt2 _) ?_
      refine RO_chk (fun hi1 => ?_)
      refine RO_ia (cl_6_4 hk_th) hi1 dc_State_delay_22 ?_
      refine RO_iload_n dc_State_delay_23 rfl rfl ?_
      refine RO_iadd dc_State_delay_24 ?_
      refine RO_chk (fun hi2 => ?_)
      refine RO_is (cl_6_4 hk_th) hi2 dc_State_delay_25 ?_
      refine RO_bnM (fun m3 => ?_)
      refine RO_sub ?_ (rb_State_delay_26 th p1 p2 hk_th k2 H2 v3 m3)
      exact ⟨rfl, rfl, rfl, rfl, trivial⟩
  · exact RO_vret rfl dc_State_delay_32
def lp_State_delay_2 (th : Nat) (p1 : Int) (p2 : Int)  : Nat → Int → Mm → Res
  | 0 => fun _ _ => none
  | n + 1 => bo_State_delay_2 th p1 p2  (lp_State_delay_2 th p1 p2  n)
theorem rp_State_delay_2 {E : EE} (th : Nat) (p1 : Int) (p2 : Int) (hk_th : ly_k th = (6, 6))   : ∀ (n : Nat) (v3 : Int)  (mem : Mm), RO E mt_State_delay (lp_State_delay_2 th p1 p2  n v3 mem) 2 [(0, rf th), (1, vi p1), (2, vi p2), (3, vi v3)] [] mem := by
  intro n
  induction n with
  | zero => intro v3  mem; exact RO_none
  | succ n ih => intro v3  mem; exact rb_State_delay_2 th p1 p2 hk_th  (lp_State_delay_2 th p1 p2  n)  ih v3  mem
def fn_State_delay (th : Nat) (p1 : Int) (p2 : Int) (mem : Mm) : Res := lp_State_delay_2 th p1 p2 FU 0 mem
set_option maxHeartbeats 4000000 in
theorem pf_State_delay {E : EE} (th : Nat) (p1 : Int) (p2 : Int) (hk_th : ly_k th = (6, 6)) (mem : Mm) {r : Int} {mem9 : Mm} (h : fn_State_delay th p1 p2 mem = some (r, mem9)) : MetX E 1 yn_State_delay cd_State_delay 4 none [rf th, vi p1, vi p2] mem r mem9 := by
  refine RO_met (y := yn_State_delay) (by decide +kernel) (Nat.le_of_ble_eq_true rfl) ?_ h
  show RO E mt_State_delay (fn_State_delay th p1 p2 mem) 0 [(0, rf th), (1, vi p1), (2, vi p2)] [] mem
  unfold fn_State_delay
  refine RO_iconst dc_State_delay_0 ?_
  refine RO_istore_n dc_State_delay_1 rfl (Nat.le_of_ble_eq_true rfl) ?_
  refine RO_sub ?_ (rp_State_delay_2 th p1 p2 hk_th FU 0 mem)
  exact ⟨rfl, rfl, rfl, rfl, trivial⟩
def fn_Tape_close  (mem : Mm) : Res := bn (mst mem 1 0 0) fun m1 => some (m1 1 1, m1)
set_option maxHeartbeats 4000000 in
theorem pf_Tape_close {E : EE}   (mem : Mm) {r : Int} {mem9 : Mm} (h : fn_Tape_close  mem = some (r, mem9)) : MetX E 1 yn_Tape_close cd_Tape_close 1 (some .int) [rf 1] mem r mem9 := by
  refine RO_met (y := yn_Tape_close) (by decide +kernel) (Nat.le_of_ble_eq_true rfl) ?_ h
  show RO E mt_Tape_close (fn_Tape_close  mem) 0 [(0, rf 1)] [] mem
  unfold fn_Tape_close
  refine RO_aload_n dc_Tape_close_0 rfl rfl ?_
  refine RO_iconst dc_Tape_close_1 ?_
  refine RO_putI gp_Tape_21 lk_1 dc_Tape_close_2 ?_
  refine RO_bnM (fun m1 => ?_)
  refine RO_aload_n dc_Tape_close_5 rfl rfl ?_
  refine RO_getI gf_Tape_25 lk_1 dc_Tape_close_6 ?_
  exact RO_iret rfl dc_Tape_close_9
