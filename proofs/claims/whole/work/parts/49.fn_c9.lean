def bo_Clock_hills_52  (k52 : Int → Int → Mm → Res) (v1 : Int) (v3 : Int) (mem : Mm) : Res := if v3 < 4 then (if 0 ≤ v3 ∧ v3 < 4 then bn (mst mem ((11 * v3.toNat) + 111) 0 0) fun m4 => k52 v1 (w32 (v3 + 1)) m4 else none) else (some (v1, mem))
set_option maxHeartbeats 4000000 in
theorem rb_Clock_hills_52 {E : EE}   (k52 : Int → Int → Mm → Res) (H52 : ∀ (v1 : Int) (v3 : Int)  (mem : Mm), RO E mt_Clock_hills (k52 v1 v3 mem) 52 [(0, rf 0), (1, vi v1), (3, vi v3)] [] mem) (v1 : Int) (v3 : Int)  (mem : Mm) : RO E mt_Clock_hills (bo_Clock_hills_52  k52 v1 v3 mem) 52 [(0, rf 0), (1, vi v1), (3, vi v3)] [] mem := by
  unfold bo_Clock_hills_52
  refine RO_iload_n dc_Clock_hills_52 rfl rfl ?_
  refine RO_iconst dc_Clock_hills_53 ?_
  refine RO_icmp_ge (tgt := 73) dc_Clock_hills_54 rfl ?_ ?_
  · refine RO_aload_n dc_Clock_hills_57 rfl rfl ?_
    refine RO_getR (b := 93) gf_Clock_49 lk_0 rfl dc_Clock_hills_58 ?_
    refine RO_iload_n dc_Clock_hills_61 rfl rfl ?_
    refine RO_chk (fun hi1 => ?_)
    have hb2 : 93 + (raO 16).1 + (raO 16).2 * v3.toNat = ((11 * v3.toNat) + 111) := by show _ + 18 + 11 * _ = _; omega
    have hk3 := el_16 lk_93 hi1 hb2
    refine RO_aa (by decide) lk_93 hi1 hb2 dc_Clock_hills_62 ?_
    refine RO_iconst dc_Clock_hills_63 ?_
    refine RO_putZ gp_Clock_110 hk3 (Or.inl rfl) dc_Clock_hills_64 ?_
    refine RO_bnM (fun m4 => ?_)
    refine RO_iinc dc_Clock_hills_67 rfl (Nat.le_of_ble_eq_true rfl) ?_
    refine RO_goto (tgt := 52) dc_Clock_hills_70 rfl ?_
    refine RO_sub ?_ (H52 v1 (w32 (v3 + 1)) m4)
    exact ⟨rfl, rfl, rfl, trivial⟩
  · refine RO_iload_n dc_Clock_hills_73 rfl rfl ?_
    exact RO_iret rfl dc_Clock_hills_74
def lp_Clock_hills_52   : Nat → Int → Int → Mm → Res
  | 0 => fun _ _ _ => none
  | n + 1 => bo_Clock_hills_52   (lp_Clock_hills_52   n)
theorem rp_Clock_hills_52 {E : EE}     : ∀ (n : Nat) (v1 : Int) (v3 : Int)  (mem : Mm), RO E mt_Clock_hills (lp_Clock_hills_52   n v1 v3 mem) 52 [(0, rf 0), (1, vi v1), (3, vi v3)] [] mem := by
  intro n
  induction n with
  | zero => intro v1 v3  mem; exact RO_none
  | succ n ih => intro v1 v3  mem; exact rb_Clock_hills_52    (lp_Clock_hills_52   n)  ih v1 v3  mem
def fn_Clock_hills  (mem : Mm) : Res := if isK 0 (mem 0 3) = true then bd (fn_HillsReader_read (mem 0 3).toNat mem) fun r2 m3 => if r2 = 0 then (if isK 0 (m3 0 3) = true then if isK 0 (m3 0 2) = true then bn (mst m3 0 3 ((((m3 0 2).toNat : Nat) : Int))) fun m6 => bn (mst m6 0 2 ((((m3 0 3).toNat : Nat) : Int))) fun m7 => if isK 0 (m7 0 2) = true then bd (fn_Standing_begin 82 (m7 0 2).toNat m7) fun r9 m10 => bn (mst m10 0 9 0) fun m11 => lp_Clock_hills_52 FU r2 0 m11 else none else none else none) else (some (r2, m3)) else none
set_option maxHeartbeats 4000000 in
theorem pf_Clock_hills {E : EE}   (mem : Mm) {r : Int} {mem9 : Mm} (h : fn_Clock_hills  mem = some (r, mem9)) : MetX E 49 yn_Clock_hills cd_Clock_hills 4 (some .int) [rf 0] mem r mem9 := by
  refine RO_met (y := yn_Clock_hills) (by decide +kernel) (Nat.le_of_ble_eq_true rfl) ?_ h
  show RO E mt_Clock_hills (fn_Clock_hills  mem) 0 [(0, rf 0)] [] mem
  unfold fn_Clock_hills
  refine RO_aload_n dc_Clock_hills_0 rfl rfl ?_
  refine RO_getR (b := 3) gf_Clock_21 lk_0 rfl dc_Clock_hills_1 ?_
  refine RO_aload_n dc_Clock_hills_4 rfl rfl ?_
  refine RO_chk (fun hz1 => ?_)
  refine RO_getM gf_Clock_32 lk_0 (isK_0 hz1) dc_Clock_hills_5 ?_
  refine RO_callVi (As := [rf (mem 0 3).toNat]) (rest := []) mi_HillsReader_read mv_HillsReader_read ml_Clock_99 lk_3 (Nat.le_of_ble_eq_true rfl) rfl (Nat.le_of_ble_eq_true rfl) (fun _ => rfl) dc_Clock_hills_8 (fun rq mq hq => pf_HillsReader_read (mem 0 3).toNat (kd_0 hz1) mem hq) (fun r2 m3 => ?_)
  refine RO_istore_n dc_Clock_hills_11 rfl (Nat.le_of_ble_eq_true rfl) ?_
  refine RO_iload_n dc_Clock_hills_12 rfl rfl ?_
  refine RO_if_ne (tgt := 73) dc_Clock_hills_13 rfl ?_ ?_
  · refine RO_aload_n dc_Clock_hills_16 rfl rfl ?_
    refine RO_chk (fun hz4 => ?_)
    refine RO_getM gf_Clock_32 lk_0 (isK_0 hz4) dc_Clock_hills_17 ?_
    refine RO_astore_n dc_Clock_hills_20 rfl (Nat.le_of_ble_eq_true rfl) ?_
    refine RO_aload_n dc_Clock_hills_21 rfl rfl ?_
    refine RO_aload_n dc_Clock_hills_22 rfl rfl ?_
    refine RO_chk (fun hz5 => ?_)
    refine RO_getM gf_Clock_28 lk_0 (isK_0 hz5) dc_Clock_hills_23 ?_
    refine RO_putM gp_Clock_32 lk_0 dc_Clock_hills_26 ?_
    refine RO_bnM (fun m6 => ?_)
    refine RO_aload_n dc_Clock_hills_29 rfl rfl ?_
    refine RO_aload_n dc_Clock_hills_30 rfl rfl ?_
    refine RO_putM gp_Clock_28 lk_0 dc_Clock_hills_31 ?_
    refine RO_bnM (fun m7 => ?_)
    refine RO_aload_n dc_Clock_hills_34 rfl rfl ?_
    refine RO_getR (b := 82) gf_Clock_45 lk_0 rfl dc_Clock_hills_35 ?_
    refine RO_aload_n dc_Clock_hills_38 rfl rfl ?_
    refine RO_chk (fun hz8 => ?_)
    refine RO_getM gf_Clock_28 lk_0 (isK_0 hz8) dc_Clock_hills_39 ?_
    refine RO_callVv (As := [rf (m7 0 2).toNat]) (rest := []) mi_Standing_begin mv_Standing_begin ml_Clock_103 lk_82 (Nat.le_of_ble_eq_true rfl) rfl (Nat.le_of_ble_eq_true rfl) dc_Clock_hills_42 (fun rq mq hq => pf_Standing_begin 82 (m7 0 2).toNat lk_82 (kd_0 hz8) m7 hq) (fun r9 m10 => ?_)
    refine RO_aload_n dc_Clock_hills_45 rfl rfl ?_
    refine RO_iconst dc_Clock_hills_46 ?_
    refine RO_putI gp_Clock_107 lk_0 dc_Clock_hills_47 ?_
    refine RO_bnM (fun m11 => ?_)
    refine RO_iconst dc_Clock_hills_50 ?_
    refine RO_istore_n dc_Clock_hills_51 rfl (Nat.le_of_ble_eq_true rfl) ?_
    refine RO_sub ?_ (rp_Clock_hills_52 FU r2 0 m11)
    exact ⟨rfl, rfl, rfl, trivial⟩
  · refine RO_iload_n dc_Clock_hills_73 rfl rfl ?_
    exact RO_iret rfl dc_Clock_hills_74
