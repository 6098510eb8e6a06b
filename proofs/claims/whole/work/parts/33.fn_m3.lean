def bo_Model_fresh_33  (k33 : Int → Mm → Res) (v1 : Int) (mem : Mm) : Res := if v1 < (mem 205 (2 : Int).toNat) then (if 0 ≤ v1 ∧ v1 < 12 then if 0 ≤ w32 (10 + v1) ∧ w32 (10 + v1) < 16 then bn (mst mem 245 (w32 (10 + v1)).toNat (mem 218 v1.toNat)) fun m3 => k33 (w32 (v1 + 1)) m3 else none else none) else (some (0, mem))
set_option maxHeartbeats 4000000 in
theorem rb_Model_fresh_33 {E : EE}   (k33 : Int → Mm → Res) (H33 : ∀ (v1 : Int)  (mem : Mm), RO E mt_Model_fresh (k33 v1 mem) 33 [(0, rf 203), (1, vi v1)] [] mem) (v1 : Int)  (mem : Mm) : RO E mt_Model_fresh (bo_Model_fresh_33  k33 v1 mem) 33 [(0, rf 203), (1, vi v1)] [] mem := by
  unfold bo_Model_fresh_33
  refine RO_iload_n dc_Model_fresh_33 rfl rfl ?_
  refine RO_aload_n dc_Model_fresh_34 rfl rfl ?_
  refine RO_getR (b := 205) gf_Model_13 lk_203 rfl dc_Model_fresh_35 ?_
  refine RO_iconst dc_Model_fresh_38 ?_
  refine RO_ia lk_205 ⟨by decide, by decide⟩ dc_Model_fresh_39 ?_
  refine RO_icmp_ge (tgt := 64) dc_Model_fresh_40 rfl ?_ ?_
  · refine RO_aload_n dc_Model_fresh_43 rfl rfl ?_
    refine RO_getR (b := 245) gf_Model_135 lk_203 rfl dc_Model_fresh_44 ?_
    refine RO_bipush dc_Model_fresh_47 ?_
    refine RO_iload_n dc_Model_fresh_49 rfl rfl ?_
    refine RO_iadd dc_Model_fresh_50 ?_
    refine RO_aload_n dc_Model_fresh_51 rfl rfl ?_
    refine RO_getR (b := 218) gf_Model_53 lk_203 rfl dc_Model_fresh_52 ?_
    refine RO_iload_n dc_Model_fresh_55 rfl rfl ?_
    refine RO_chk (fun hi1 => ?_)
    refine RO_ia lk_218 hi1 dc_Model_fresh_56 ?_
    refine RO_chk (fun hi2 => ?_)
    refine RO_is lk_245 hi2 dc_Model_fresh_57 ?_
    refine RO_bnM (fun m3 => ?_)
    refine RO_iinc dc_Model_fresh_58 rfl (Nat.le_of_ble_eq_true rfl) ?_
    refine RO_goto (tgt := 33) dc_Model_fresh_61 rfl ?_
    refine RO_sub ?_ (H33 (w32 (v1 + 1)) m3)
    exact ⟨rfl, rfl, trivial⟩
  · exact RO_vret rfl dc_Model_fresh_64
def lp_Model_fresh_33   : Nat → Int → Mm → Res
  | 0 => fun _ _ => none
  | n + 1 => bo_Model_fresh_33   (lp_Model_fresh_33   n)
theorem rp_Model_fresh_33 {E : EE}     : ∀ (n : Nat) (v1 : Int)  (mem : Mm), RO E mt_Model_fresh (lp_Model_fresh_33   n v1 mem) 33 [(0, rf 203), (1, vi v1)] [] mem := by
  intro n
  induction n with
  | zero => intro v1  mem; exact RO_none
  | succ n ih => intro v1  mem; exact rb_Model_fresh_33    (lp_Model_fresh_33   n)  ih v1  mem
def bo_Model_fresh_21    (mem : Mm) : Res := bd (fn_Model_allWalkers  mem) fun r1 m2 => bn (mst m2 245 (2 : Int).toNat r1) fun m3 => lp_Model_fresh_33 FU 0 m3
set_option maxHeartbeats 4000000 in
theorem rb_Model_fresh_21 {E : EE}       (mem : Mm) : RO E mt_Model_fresh (bo_Model_fresh_21    mem) 21 [(0, rf 203)] [] mem := by
  unfold bo_Model_fresh_21
  refine RO_aload_n dc_Model_fresh_21 rfl rfl ?_
  refine RO_getR (b := 245) gf_Model_135 lk_203 rfl dc_Model_fresh_22 ?_
  refine RO_iconst dc_Model_fresh_25 ?_
  refine RO_aload_n dc_Model_fresh_26 rfl rfl ?_
  refine RO_callVi (As := []) (rest := [vi 2, rf 245]) mi_Model_allWalkers mv_Model_allWalkers ml_Model_402 lk_203 (Nat.le_of_ble_eq_true rfl) rfl (Nat.le_of_ble_eq_true rfl) (fun _ => rfl) dc_Model_fresh_27 (fun rq mq hq => pf_Model_allWalkers   mem hq) (fun r1 m2 => ?_)
  refine RO_is lk_245 ⟨by decide, by decide⟩ dc_Model_fresh_30 ?_
  refine RO_bnM (fun m3 => ?_)
  refine RO_iconst dc_Model_fresh_31 ?_
  refine RO_istore_n dc_Model_fresh_32 rfl (Nat.le_of_ble_eq_true rfl) ?_
  refine RO_sub ?_ (rp_Model_fresh_33 FU 0 m3)
  exact ⟨rfl, rfl, trivial⟩
def bo_Model_fresh_2  (k2 : Int → Mm → Res) (v1 : Int) (mem : Mm) : Res := if v1 < 16 then (if 0 ≤ v1 ∧ v1 < 16 then bn (mst mem 245 v1.toNat 0) fun m2 => k2 (w32 (v1 + 1)) m2 else none) else (bo_Model_fresh_21 mem)
set_option maxHeartbeats 4000000 in
theorem rb_Model_fresh_2 {E : EE}   (k2 : Int → Mm → Res) (H2 : ∀ (v1 : Int)  (mem : Mm), RO E mt_Model_fresh (k2 v1 mem) 2 [(0, rf 203), (1, vi v1)] [] mem) (v1 : Int)  (mem : Mm) : RO E mt_Model_fresh (bo_Model_fresh_2  k2 v1 mem) 2 [(0, rf 203), (1, vi v1)] [] mem := by
  unfold bo_Model_fresh_2
  refine RO_iload_n dc_Model_fresh_2 rfl rfl ?_
  refine RO_bipush dc_Model_fresh_3 ?_
  refine RO_icmp_ge (tgt := 21) dc_Model_fresh_5 rfl ?_ ?_
  · refine RO_aload_n dc_Model_fresh_8 rfl rfl ?_
    refine RO_getR (b := 245) gf_Model_135 lk_203 rfl dc_Model_fresh_9 ?_
    refine RO_iload_n dc_Model_fresh_12 rfl rfl ?_
    refine RO_iconst dc_Model_fresh_13 ?_
    refine RO_chk (fun hi1 => ?_)
    refine RO_is lk_245 hi1 dc_Model_fresh_14 ?_
    refine RO_bnM (fun m2 => ?_)
    refine RO_iinc dc_Model_fresh_15 rfl (Nat.le_of_ble_eq_true rfl) ?_
    refine RO_goto (tgt := 2) dc_Model_fresh_18 rfl ?_
    refine RO_sub ?_ (H2 (w32 (v1 + 1)) m2)
    exact ⟨rfl, rfl, trivial⟩
  · refine RO_sub ?_ (rb_Model_fresh_21 mem)
    exact ⟨rfl, trivial⟩
def lp_Model_fresh_2   : Nat → Int → Mm → Res
  | 0 => fun _ _ => none
  | n + 1 => bo_Model_fresh_2   (lp_Model_fresh_2   n)
theorem rp_Model_fresh_2 {E : EE}     : ∀ (n : Nat) (v1 : Int)  (mem : Mm), RO E mt_Model_fresh (lp_Model_fresh_2   n v1 mem) 2 [(0, rf 203), (1, vi v1)] [] mem := by
  intro n
  induction n with
  | zero => intro v1  mem; exact RO_none
  | succ n ih => intro v1  mem; exact rb_Model_fresh_2    (lp_Model_fresh_2   n)  ih v1  mem
def fn_Model_fresh  (mem : Mm) : Res := lp_Model_fresh_2 FU 0 mem
set_option maxHeartbeats 4000000 in
theorem pf_Model_fresh {E : EE}   (mem : Mm) {r : Int} {mem9 : Mm} (h : fn_Model_fresh  mem = some (r, mem9)) : MetX E 2 yn_Model_fresh cd_Model_fresh 2 none [rf 203] mem r mem9 := by
  refine RO_met (y := yn_Model_fresh) (by decide +kernel) (Nat.le_of_ble_eq_true rfl) ?_ h
  show RO E mt_Model_fresh (fn_Model_fresh  mem) 0 [(0, rf 203)] [] mem
  unfold fn_Model_fresh
  refine RO_iconst dc_Model_fresh_0 ?_
  refine RO_istore_n dc_Model_fresh_1 rfl (Nat.le_of_ble_eq_true rfl) ?_
  refine RO_sub ?_ (rp_Model_fresh_2 FU 0 mem)
  exact ⟨rfl, rfl, trivial⟩
def fn_Model_way (p1 : Int) (p2 : Int) (mem : Mm) : Res := bn (mst mem 203 0 0) fun m1 => bd (fn_Model_isPlace p1 m1) fun r2 m3 => if r2 = 0 then (some ((-1), m3)) else (bd (fn_Model_isPlace p2 m3) fun r4 m5 => if r4 = 0 then (some ((-1), m5)) else (if 0 ≤ w32 ((w32 (6 * p1)) + p2) ∧ w32 ((w32 (6 * p1)) + p2) < 36 then if (m5 250 (w32 ((w32 (6 * p1)) + p2)).toNat) < 100000 then (if 0 ≤ w32 ((w32 (6 * p1)) + p2) ∧ w32 ((w32 (6 * p1)) + p2) < 36 then some (m5 250 (w32 ((w32 (6 * p1)) + p2)).toNat, m5) else none) else (some ((-1), m5)) else none))
set_option maxHeartbeats 4000000 in
theorem pf_Model_way {E : EE} (p1 : Int) (p2 : Int)  (mem : Mm) {r : Int} {mem9 : Mm} (h : fn_Model_way p1 p2 mem = some (r, mem9)) : MetX E 2 yn_Model_way cd_Model_way 3 (some .int) [rf 203, vi p1, vi p2] mem r mem9 := by
  refine RO_met (y := yn_Model_way) (by decide +kernel) (Nat.le_of_ble_eq_true rfl) ?_ h
  show RO E mt_Model_way (fn_Model_way p1 p2 mem) 0 [(0, rf 203), (1, vi p1), (2, vi p2)] [] mem
  unfold fn_Model_way
  refine RO_aload_n dc_Model_way_0 rfl rfl ?_
  refine RO_iconst dc_Model_way_1 ?_
  refine RO_putI gp_Model_183 lk_203 dc_Model_way_2 ?_
  refine RO_bnM (fun m1 => ?_)
  refine RO_aload_n dc_Model_way_5 rfl rfl ?_
  refine RO_iload_n dc_Model_way_6 rfl rfl ?_
  refine RO_callVi (As := [vi p1]) (rest := []) mi_Model_isPlace mv_Model_isPlace ml_Model_433 lk_203 (Nat.le_of_ble_eq_true rfl) rfl (Nat.le_of_ble_eq_true rfl) (fun _ => rfl) dc_Model_way_7 (fun rq mq hq => pf_Model_isPlace p1  m1 hq) (fun r2 m3 => ?_)
  refine RO_if_eq (tgt := 52) dc_Model_way_10 rfl ?_ ?_
  · refine RO_iconst dc_Model_way_52 ?_
    exact RO_iret rfl dc_Model_way_53
  · refine RO_aload_n dc_Model_way_13 rfl rfl ?_
    refine RO_iload_n dc_Model_way_14 rfl rfl ?_
    refine RO_callVi (As := [vi p2]) (rest := []) mi_Model_isPlace mv_Model_isPlace ml_Model_433 lk_203 (Nat.le_of_ble_eq_true rfl) rfl (Nat.le_of_ble_eq_true rfl) (fun _ => rfl) dc_Model_way_15 (fun rq mq hq => pf_Model_isPlace p2  m3 hq) (fun r4 m5 => ?_)
    refine RO_if_eq (tgt := 52) dc_Model_way_18 rfl ?_ ?_
    · refine RO_iconst dc_Model_way_52 ?_
      exact RO_iret rfl dc_Model_way_53
    · refine RO_aload_n dc_Model_way_21 rfl rfl ?_
      refine RO_getR (b := 250) gf_Model_150 lk_203 rfl dc_Model_way_22 ?_
      refine RO_bipush dc_Model_way_25 ?_
      refine RO_iload_n dc_Model_way_27 rfl rfl ?_
      refine RO_imul dc_Model_way_28 ?_
      refine RO_iload_n dc_Model_way_29 rfl rfl ?_
      refine RO_iadd dc_Model_way_30 ?_
      refine RO_chk (fun hi6 => ?_)
      refine RO_ia lk_250 hi6 dc_Model_way_31 ?_
      refine RO_ldcw (x := 100000) c1_Model_426 ⟨by decide, ⟨by decide, by decide⟩⟩ dc_Model_way_32 ?_
      refine RO_icmp_ge (tgt := 52) dc_Model_way_35 rfl ?_ ?_
      · refine RO_aload_n dc_Model_way_38 rfl rfl ?_
        refine RO_getR (b := 250) gf_Model_150 lk_203 rfl dc_Model_way_39 ?_
        refine RO_bipush dc_Model_way_42 ?_
        refine RO_iload_n dc_Model_way_44 rfl rfl ?_
        refine RO_imul dc_Model_way_45 ?_
        refine RO_iload_n dc_Model_way_46 rfl rfl ?_
        refine RO_iadd dc_Model_way_47 ?_
        refine RO_chk (fun hi7 => ?_)
        refine RO_ia lk_250 hi7 dc_Model_way_48 ?_
        refine RO_goto (tgt := 53) dc_Model_way_49 rfl ?_
        exact RO_iret rfl dc_Model_way_53
      · refine RO_iconst dc_Model_way_52 ?_
        exact RO_iret rfl dc_Model_way_53
def bo_Model_minutesTo_42 (p1 : Int) (p2 : Int)  (s0 : Int) (s1 : Int) (mem : Mm) : Res := bn (w32 (s0 * s1)) fun x1 => if (mem 245 (3 : Int).toNat) = 1 then (if 0 ≤ p1 ∧ p1 < 12 then if (mem 210 p1.toNat) = 3 then (some (x1, mem)) else (some (w32 (2 * x1), mem)) else none) else (some (x1, mem))
set_option maxHeartbeats 4000000 in
theorem rb_Model_minutesTo_42 {E : EE} (p1 : Int) (p2 : Int)    (s0 : Int) (s1 : Int)  (mem : Mm) : RO E mt_Model_minutesTo (bo_Model_minutesTo_42 p1 p2  s0 s1 mem) 42 [(0, rf 203), (1, vi p1)] [vi s1, vi s0] mem := by
  unfold bo_Model_minutesTo_42
  refine RO_imul dc_Model_minutesTo_42 ?_
  refine RO_bnT (fun x1 => ?_)
  refine RO_istore_n dc_Model_minutesTo_43 rfl (Nat.le_of_ble_eq_true rfl) ?_
  refine RO_aload_n dc_Model_minutesTo_44 rfl rfl ?_
  refine RO_getR (b := 245) gf_Model_135 lk_203 rfl dc_Model_minutesTo_45 ?_
  refine RO_iconst dc_Model_minutesTo_48 ?_
  refine RO_ia lk_245 ⟨by decide, by decide⟩ dc_Model_minutesTo_49 ?_
  refine RO_iconst dc_Model_minutesTo_50 ?_
  refine RO_icmp_ne (tgt := 70) dc_Model_minutesTo_51 rfl ?_ ?_
  · refine RO_aload_n dc_Model_minutesTo_54 rfl rfl ?_
    refine RO_getR (b := 210) gf_Model_29 lk_203 rfl dc_Model_minutesTo_55 ?_
    refine RO_iload_n dc_Model_minutesTo_58 rfl rfl ?_
    refine RO_chk (fun hi2 => ?_)
    refine RO_ia lk_210 hi2 dc_Model_minutesTo_59 ?_
    refine RO_iconst dc_Model_minutesTo_60 ?_
    refine RO_icmp_eq (tgt := 70) dc_Model_minutesTo_61 rfl ?_ ?_
    · refine RO_iload_n dc_Model_minutesTo_70 rfl rfl ?_
      exact RO_iret rfl dc_Model_minutesTo_71
    · refine RO_iconst dc_Model_minutesTo_64 ?_
      refine RO_iload_n dc_Model_minutesTo_65 rfl rfl ?_
      refine RO_imul dc_Model_minutesTo_66 ?_
      refine RO_goto (tgt := 71) dc_Model_minutesTo_67 rfl ?_
      exact RO_iret rfl dc_Model_minutesTo_71
  · refine RO_iload_n dc_Model_minutesTo_70 rfl rfl ?_
    exact RO_iret rfl dc_Model_minutesTo_71
def fn_Model_minutesTo (p1 : Int) (p2 : Int) (mem : Mm) : Res := bd (fn_Model_placeIn p1 mem) fun r1 m2 => if 0 ≤ w32 ((w32 (6 * r1)) + p2) ∧ w32 ((w32 (6 * r1)) + p2) < 36 then if 0 ≤ p1 ∧ p1 < 12 then if (m2 210 p1.toNat) = 1 then (if 0 ≤ p1 ∧ p1 < 12 then bo_Model_minutesTo_42 p1 p2 (m2 250 (w32 ((w32 (6 * r1)) + p2)).toNat) (w32 ((m2 212 p1.toNat) + 1)) m2 else none) else (if 0 ≤ p1 ∧ p1 < 12 then bo_Model_minutesTo_42 p1 p2 (m2 250 (w32 ((w32 (6 * r1)) + p2)).toNat) (m2 212 p1.toNat) m2 else none) else none else none
set_option maxHeartbeats 4000000 in
theorem pf_Model_minutesTo {E : EE} (p1 : Int) (p2 : Int)  (mem : Mm) {r : Int} {mem9 : Mm} (h : fn_Model_minutesTo p1 p2 mem = some (r, mem9)) : MetX E 2 yn_Model_minutesTo cd_Model_minutesTo 4 (some .int) [rf 203, vi p1, vi p2] mem r mem9 := by
  refine RO_met (y := yn_Model_minutesTo) (by decide +kernel) (Nat.le_of_ble_eq_true rfl) ?_ h
  show RO E mt_Model_minutesTo (fn_Model_minutesTo p1 p2 mem) 0 [(0, rf 203), (1, vi p1), (2, vi p2)] [] mem
  unfold fn_Model_minutesTo
  refine RO_aload_n dc_Model_minutesTo_0 rfl rfl ?_
  refine RO_getR (b := 250) gf_Model_150 lk_203 rfl dc_Model_minutesTo_1 ?_
  refine RO_bipush dc_Model_minutesTo_4 ?_
  refine RO_aload_n dc_Model_minutesTo_6 rfl rfl ?_
  refine RO_iload_n dc_Model_minutesTo_7 rfl rfl ?_
  refine RO_callVi (As := [vi p1]) (rest := [vi 6, rf 250]) mi_Model_placeIn mv_Model_placeIn ml_Model_436 lk_203 (Nat.le_of_ble_eq_true rfl) rfl (Nat.le_of_ble_eq_true rfl) (fun _ => rfl) dc_Model_minutesTo_8 (fun rq mq hq => pf_Model_placeIn p1  mem hq) (fun r1 m2 => ?_)
  refine RO_imul dc_Model_minutesTo_11 ?_
  refine RO_iload_n dc_Model_minutesTo_12 rfl rfl ?_
  refine RO_iadd dc_Model_minutesTo_13 ?_
  refine RO_chk (fun hi3 => ?_)
  refine RO_ia lk_250 hi3 dc_Model_minutesTo_14 ?_
  refine RO_aload_n dc_Model_minutesTo_15 rfl rfl ?_
  refine RO_getR (b := 210) gf_Model_29 lk_203 rfl dc_Model_minutesTo_16 ?_
  refine RO_iload_n dc_Model_minutesTo_19 rfl rfl ?_
  refine RO_chk (fun hi4 => ?_)
  refine RO_ia lk_210 hi4 dc_Model_minutesTo_20 ?_
  refine RO_iconst dc_Model_minutesTo_21 ?_
  refine RO_icmp_ne (tgt := 36) dc_Model_minutesTo_22 rfl ?_ ?_
  · refine RO_aload_n dc_Model_minutesTo_25 rfl rfl ?_
    refine RO_getR (b := 212) gf_Model_35 lk_203 rfl dc_Model_minutesTo_26 ?_
    refine RO_iload_n dc_Model_minutesTo_29 rfl rfl ?_
    refine RO_chk (fun hi5 => ?_)
    refine RO_ia lk_212 hi5 dc_Model_minutesTo_30 ?_
    refine RO_iconst dc_Model_minutesTo_31 ?_
    refine RO_iadd dc_Model_minutesTo_32 ?_
    refine RO_goto (tgt := 42) dc_Model_minutesTo_33 rfl ?_
    refine RO_sub ?_ (rb_Model_minutesTo_42 p1 p2 (m2 250 (w32 ((w32 (6 * r1)) + p2)).toNat) (w32 ((m2 212 p1.toNat) + 1)) m2)
    exact ⟨rfl, rfl, trivial⟩
  · refine RO_aload_n dc_Model_minutesTo_36 rfl rfl ?_
    refine RO_getR (b := 212) gf_Model_35 lk_203 rfl dc_Model_minutesTo_37 ?_
    refine RO_iload_n dc_Model_minutesTo_40 rfl rfl ?_
    refine RO_chk (fun hi6 => ?_)
    refine RO_ia lk_212 hi6 dc_Model_minutesTo_41 ?_
    refine RO_sub ?_ (rb_Model_minutesTo_42 p1 p2 (m2 250 (w32 ((w32 (6 * r1)) + p2)).toNat) (m2 212 p1.toNat) m2)
    exact ⟨rfl, rfl, trivial⟩
def bo_Model_isFree_37 (p1 : Int) (p2 : Int)  (v3 : Int) (s0 : Int) (s1 : Int) (mem : Mm) : Res := if s0 < s1 then (some (0, mem)) else (bd (fn_Model_placeIn p1 mem) fun r1 m2 => bn (w32 ((w32 (6 * p1)) + r1)) fun x3 => if 0 ≤ x3 ∧ x3 < 72 then if (m2 216 x3.toNat) = 0 then (some (1, m2)) else (if 0 ≤ p1 ∧ p1 < 6 then if (m2 254 p1.toNat) = 0 then (if 0 ≤ x3 ∧ x3 < 72 then if v3 < (m2 217 x3.toNat) then (some (0, m2)) else (some (1, m2)) else none) else (some (1, m2)) else none) else none)
set_option maxHeartbeats 4000000 in
theorem rb_Model_isFree_37 {E : EE} (p1 : Int) (p2 : Int)    (v3 : Int) (s0 : Int) (s1 : Int)  (mem : Mm) : RO E mt_Model_isFree (bo_Model_isFree_37 p1 p2  v3 s0 s1 mem) 37 [(0, rf 203), (1, vi p1), (3, vi v3)] [vi s1, vi s0] mem := by
  unfold bo_Model_isFree_37
  refine RO_icmp_ge (tgt := 42) dc_Model_isFree_37 rfl ?_ ?_
  · refine RO_iconst dc_Model_isFree_40 ?_
    exact RO_zret rfl (Or.inl rfl) dc_Model_isFree_41
  · refine RO_bipush dc_Model_isFree_42 ?_
    refine RO_iload_n dc_Model_isFree_44 rfl rfl ?_
    refine RO_imul dc_Model_isFree_45 ?_
    refine RO_aload_n dc_Model_isFree_46 rfl rfl ?_
    refine RO_iload_n dc_Model_isFree_47 rfl rfl ?_
    refine RO_callVi (As := [vi p1]) (rest := [vi (w32 (6 * p1))]) mi_Model_placeIn mv_Model_placeIn ml_Model_436 lk_203 (Nat.le_of_ble_eq_true rfl) rfl (Nat.le_of_ble_eq_true rfl) (fun _ => rfl) dc_Model_isFree_48 (fun rq mq hq => pf_Model_placeIn p1  mem hq) (fun r1 m2 => ?_)
    refine RO_iadd dc_Model_isFree_51 ?_
    refine RO_bnT (fun x3 => ?_)
    refine RO_istore dc_Model_isFree_52 (Nat.le_of_ble_eq_true rfl) ?_
    refine RO_aload_n dc_Model_isFree_54 rfl rfl ?_
    refine RO_getR (b := 216) gf_Model_47 lk_203 rfl dc_Model_isFree_55 ?_
    refine RO_iload dc_Model_isFree_58 rfl ?_
    refine RO_chk (fun hi4 => ?_)
    refine RO_ia lk_216 hi4 dc_Model_isFree_60 ?_
    refine RO_if_eq (tgt := 84) dc_Model_isFree_61 rfl ?_ ?_
    · refine RO_iconst dc_Model_isFree_84 ?_
      refine RO_goto (tgt := 89) dc_Model_isFree_85 rfl ?_
      exact RO_zret rfl (Or.inr rfl) dc_Model_isFree_89
    · refine RO_aload_n dc_Model_isFree_64 rfl rfl ?_
      refine RO_getR (b := 254) gf_Model_162 lk_203 rfl dc_Model_isFree_65 ?_
      refine RO_iload_n dc_Model_isFree_68 rfl rfl ?_
      refine RO_chk (fun hi5 => ?_)
      refine RO_za lk_254 hi5 dc_Model_isFree_69 ?_
      refine RO_if_ne (tgt := 84) dc_Model_isFree_70 rfl ?_ ?_
      · refine RO_iload_n dc_Model_isFree_73 rfl rfl ?_
        refine RO_aload_n dc_Model_isFree_74 rfl rfl ?_
        refine RO_getR (b := 217) gf_Model_50 lk_203 rfl dc_Model_isFree_75 ?_
        refine RO_iload dc_Model_isFree_78 rfl ?_
        refine RO_chk (fun hi6 => ?_)
        refine RO_ia lk_217 hi6 dc_Model_isFree_80 ?_
        refine RO_icmp_lt (tgt := 88) dc_Model_isFree_81 rfl ?_ ?_
        · refine RO_iconst dc_Model_isFree_88 ?_
          exact RO_zret rfl (Or.inl rfl) dc_Model_isFree_89
        · refine RO_iconst dc_Model_isFree_84 ?_
          refine RO_goto (tgt := 89) dc_Model_isFree_85 rfl ?_
          exact RO_zret rfl (Or.inr rfl) dc_Model_isFree_89
      · refine RO_iconst dc_Model_isFree_84 ?_
        refine RO_goto (tgt := 89) dc_Model_isFree_85 rfl ?_
        exact RO_zret rfl (Or.inr rfl) dc_Model_isFree_89
def fn_Model_isFree (p1 : Int) (p2 : Int) (mem : Mm) : Res := if 0 ≤ p1 ∧ p1 < 6 then bn (w32 (p2 - (mem 253 p1.toNat))) fun x2 => if 0 ≤ p1 ∧ p1 < 12 then if (mem 210 p1.toNat) = 2 then (if 0 ≤ p1 ∧ p1 < 12 then bo_Model_isFree_37 p1 p2 x2 x2 (w32 (2 * (mem 213 p1.toNat))) mem else none) else (if 0 ≤ p1 ∧ p1 < 12 then bo_Model_isFree_37 p1 p2 x2 x2 (mem 213 p1.toNat) mem else none) else none else none
set_option maxHeartbeats 4000000 in
theorem pf_Model_isFree {E : EE} (p1 : Int) (p2 : Int)  (mem : Mm) {r : Int} {mem9 : Mm} (h : fn_Model_isFree p1 p2 mem = some (r, mem9)) : MetX E 2 yn_Model_isFree cd_Model_isFree 5 (some .boolean) [rf 203, vi p1, vi p2] mem r mem9 := by
  refine RO_met (y := yn_Model_isFree) (by decide +kernel) (Nat.le_of_ble_eq_true rfl) ?_ h
  show RO E mt_Model_isFree (fn_Model_isFree p1 p2 mem) 0 [(0, rf 203), (1, vi p1), (2, vi p2)] [] mem
  unfold fn_Model_isFree
  refine RO_iload_n dc_Model_isFree_0 rfl rfl ?_
  refine RO_aload_n dc_Model_isFree_1 rfl rfl ?_
  refine RO_getR (b := 253) gf_Model_159 lk_203 rfl dc_Model_isFree_2 ?_
  refine RO_iload_n dc_Model_isFree_5 rfl rfl ?_
  refine RO_chk (fun hi1 => ?_)
  refine RO_ia lk_253 hi1 dc_Model_isFree_6 ?_
  refine RO_isub dc_Model_isFree_7 ?_
  refine RO_bnT (fun x2 => ?_)
  refine RO_istore_n dc_Model_isFree_8 rfl (Nat.le_of_ble_eq_true rfl) ?_
  refine RO_iload_n dc_Model_isFree_9 rfl rfl ?_
  refine RO_aload_n dc_Model_isFree_10 rfl rfl ?_
  refine RO_getR (b := 210) gf_Model_29 lk_203 rfl dc_Model_isFree_11 ?_
  refine RO_iload_n dc_Model_isFree_14 rfl rfl ?_
  refine RO_chk (fun hi3 => ?_)
  refine RO_ia lk_210 hi3 dc_Model_isFree_15 ?_
  refine RO_iconst dc_Model_isFree_16 ?_
  refine RO_icmp_ne (tgt := 31) dc_Model_isFree_17 rfl ?_ ?_
  · refine RO_iconst dc_Model_isFree_20 ?_
    refine RO_aload_n dc_Model_isFree_21 rfl rfl ?_
    refine RO_getR (b := 213) gf_Model_38 lk_203 rfl dc_Model_isFree_22 ?_
    refine RO_iload_n dc_Model_isFree_25 rfl rfl ?_
    refine RO_chk (fun hi4 => ?_)
    refine RO_ia lk_213 hi4 dc_Model_isFree_26 ?_
    refine RO_imul dc_Model_isFree_27 ?_
    refine RO_goto (tgt := 37) dc_Model_isFree_28 rfl ?_
    refine RO_sub ?_ (rb_Model_isFree_37 p1 p2 x2 x2 (w32 (2 * (mem 213 p1.toNat))) mem)
    exact ⟨rfl, rfl, rfl, trivial⟩
  · refine RO_aload_n dc_Model_isFree_31 rfl rfl ?_
    refine RO_getR (b := 213) gf_Model_38 lk_203 rfl dc_Model_isFree_32 ?_
    refine RO_iload_n dc_Model_isFree_35 rfl rfl ?_
    refine RO_chk (fun hi5 => ?_)
    refine RO_ia lk_213 hi5 dc_Model_isFree_36 ?_
    refine RO_sub ?_ (rb_Model_isFree_37 p1 p2 x2 x2 (mem 213 p1.toNat) mem)
    exact ⟨rfl, rfl, rfl, trivial⟩
def fn_Model_isWhen (p1 : Int) (mem : Mm) : Res := if 0 ≤ w32 (10 + p1) ∧ w32 (10 + p1) < 16 then if 0 ≤ p1 ∧ p1 < 12 then bd (fn_Model_firstAt (mem 245 (w32 (10 + p1)).toNat) (mem 219 p1.toNat) mem) fun r3 m4 => some (r3, m4) else none else none
set_option maxHeartbeats 4000000 in
theorem pf_Model_isWhen {E : EE} (p1 : Int)  (mem : Mm) {r : Int} {mem9 : Mm} (h : fn_Model_isWhen p1 mem = some (r, mem9)) : MetX E 2 yn_Model_isWhen cd_Model_isWhen 2 (some .int) [rf 203, vi p1] mem r mem9 := by
  refine RO_met (y := yn_Model_isWhen) (by decide +kernel) (Nat.le_of_ble_eq_true rfl) ?_ h
  show RO E mt_Model_isWhen (fn_Model_isWhen p1 mem) 0 [(0, rf 203), (1, vi p1)] [] mem
  unfold fn_Model_isWhen
  refine RO_aload_n dc_Model_isWhen_0 rfl rfl ?_
  refine RO_aload_n dc_Model_isWhen_1 rfl rfl ?_
  refine RO_getR (b := 245) gf_Model_135 lk_203 rfl dc_Model_isWhen_2 ?_
  refine RO_bipush dc_Model_isWhen_5 ?_
  refine RO_iload_n dc_Model_isWhen_7 rfl rfl ?_
  refine RO_iadd dc_Model_isWhen_8 ?_
  refine RO_chk (fun hi1 => ?_)
  refine RO_ia lk_245 hi1 dc_Model_isWhen_9 ?_
  refine RO_aload_n dc_Model_isWhen_10 rfl rfl ?_
  refine RO_getR (b := 219) gf_Model_56 lk_203 rfl dc_Model_isWhen_11 ?_
  refine RO_iload_n dc_Model_isWhen_14 rfl rfl ?_
  refine RO_chk (fun hi2 => ?_)
  refine RO_ia lk_219 hi2 dc_Model_isWhen_15 ?_
  refine RO_callVi (As := [vi (mem 245 (w32 (10 + p1)).toNat), vi (mem 219 p1.toNat)]) (rest := []) mi_Model_firstAt mv_Model_firstAt ml_Model_448 lk_203 (Nat.le_of_ble_eq_true rfl) rfl (Nat.le_of_ble_eq_true rfl) (fun _ => rfl) dc_Model_isWhen_16 (fun rq mq hq => pf_Model_firstAt (mem 245 (w32 (10 + p1)).toNat) (mem 219 p1.toNat)  mem hq) (fun r3 m4 => ?_)
  exact RO_iret rfl dc_Model_isWhen_19
def fn_Model_offBy (p1 : Int) (p2 : Int) (mem : Mm) : Res := if p2 < 0 then (some (240, mem)) else (if 0 ≤ p1 ∧ p1 < 12 then bd (fn_Model_away p2 (mem 220 p1.toNat) mem) fun r2 m3 => some (r2, m3) else none)
set_option maxHeartbeats 4000000 in
theorem pf_Model_offBy {E : EE} (p1 : Int) (p2 : Int)  (mem : Mm) {r : Int} {mem9 : Mm} (h : fn_Model_offBy p1 p2 mem = some (r, mem9)) : MetX E 2 yn_Model_offBy cd_Model_offBy 3 (some .int) [rf 203, vi p1, vi p2] mem r mem9 := by
  refine RO_met (y := yn_Model_offBy) (by decide +kernel) (Nat.le_of_ble_eq_true rfl) ?_ h
  show RO E mt_Model_offBy (fn_Model_offBy p1 p2 mem) 0 [(0, rf 203), (1, vi p1), (2, vi p2)] [] mem
  unfold fn_Model_offBy
  refine RO_iload_n dc_Model_offBy_0 rfl rfl ?_
  refine RO_if_ge (tgt := 10) dc_Model_offBy_1 rfl ?_ ?_
  · refine RO_sipush dc_Model_offBy_4 ?_
    refine RO_goto (tgt := 20) dc_Model_offBy_7 rfl ?_
    exact RO_iret rfl dc_Model_offBy_20
  · refine RO_iload_n dc_Model_offBy_10 rfl rfl ?_
    refine RO_aload_n dc_Model_offBy_11 rfl rfl ?_
    refine RO_getR (b := 220) gf_Model_59 lk_203 rfl dc_Model_offBy_12 ?_
    refine RO_iload_n dc_Model_offBy_15 rfl rfl ?_
    refine RO_chk (fun hi1 => ?_)
    refine RO_ia lk_220 hi1 dc_Model_offBy_16 ?_
    refine RO_callSi (As := [vi p2, vi (mem 220 p1.toNat)]) (rest := []) mi_Model_away ms_Model_away ml_Model_451 (Nat.le_of_ble_eq_true rfl) rfl (Nat.le_of_ble_eq_true rfl) (fun _ => rfl) dc_Model_offBy_17 (fun rq mq hq => pf_Model_away p2 (mem 220 p1.toNat)  mem hq) (fun r2 m3 => ?_)
    exact RO_iret rfl dc_Model_offBy_20
def fn_Model_walker (p1 : Int) (p2 : Int) (mem : Mm) : Res := bn (mst mem 203 0 0) fun m1 => bd (fn_Model_isWalker p1 m1) fun r2 m3 => if r2 = 0 then (some ((-1), m3)) else (if p2 < 0 then (some ((-1), m3)) else (if p2 < 3 then (if p2 = 0 then (if 0 ≤ p1 ∧ p1 < 12 then some (m3 210 p1.toNat, m3) else none) else (if p2 = 1 then (some (iand (ishr (m3 245 (2 : Int).toNat) p1) 1, m3)) else (if 0 ≤ w32 (4 + p1) ∧ w32 (4 + p1) < 16 then some (m3 245 (w32 (4 + p1)).toNat, m3) else none))) else (if 0 ≤ p1 ∧ p1 < 12 then if (w32 (p2 - 3)) < (m3 215 p1.toNat) then (if 0 ≤ w32 ((w32 ((w32 (4 * p1)) + p2)) - 3) ∧ w32 ((w32 ((w32 (4 * p1)) + p2)) - 3) < 48 then some (m3 214 (w32 ((w32 ((w32 (4 * p1)) + p2)) - 3)).toNat, m3) else none) else (some ((-1), m3)) else none)))
set_option maxHeartbeats 4000000 in
theorem pf_Model_walker {E : EE} (p1 : Int) (p2 : Int)  (mem : Mm) {r : Int} {mem9 : Mm} (h : fn_Model_walker p1 p2 mem = some (r, mem9)) : MetX E 2 yn_Model_walker cd_Model_walker 3 (some .int) [rf 203, vi p1, vi p2] mem r mem9 := by
  refine RO_met (y := yn_Model_walker) (by decide +kernel) (Nat.le_of_ble_eq_true rfl) ?_ h
  show RO E mt_Model_walker (fn_Model_walker p1 p2 mem) 0 [(0, rf 203), (1, vi p1), (2, vi p2)] [] mem
  unfold fn_Model_walker
  refine RO_aload_n dc_Model_walker_0 rfl rfl ?_
  refine RO_iconst dc_Model_walker_1 ?_
  refine RO_putI gp_Model_183 lk_203 dc_Model_walker_2 ?_
  refine RO_bnM (fun m1 => ?_)
  refine RO_aload_n dc_Model_walker_5 rfl rfl ?_
  refine RO_iload_n dc_Model_walker_6 rfl rfl ?_
  refine RO_callVi (As := [vi p1]) (rest := []) mi_Model_isWalker mv_Model_isWalker ml_Model_467 lk_203 (Nat.le_of_ble_eq_true rfl) rfl (Nat.le_of_ble_eq_true rfl) (fun _ => rfl) dc_Model_walker_7 (fun rq mq hq => pf_Model_isWalker p1  m1 hq) (fun r2 m3 => ?_)
  refine RO_if_eq (tgt := 17) dc_Model_walker_10 rfl ?_ ?_
  · refine RO_iconst dc_Model_walker_17 ?_
    exact RO_iret rfl dc_Model_walker_18
  · refine RO_iload_n dc_Model_walker_13 rfl rfl ?_
    refine RO_if_ge (tgt := 19) dc_Model_walker_14 rfl ?_ ?_
    · refine RO_iconst dc_Model_walker_17 ?_
      exact RO_iret rfl dc_Model_walker_18
    · refine RO_iload_n dc_Model_walker_19 rfl rfl ?_
      refine RO_iconst dc_Model_walker_20 ?_
      refine RO_icmp_ge (tgt := 64) dc_Model_walker_21 rfl ?_ ?_
      · refine RO_iload_n dc_Model_walker_24 rfl rfl ?_
        refine RO_if_ne (tgt := 37) dc_Model_walker_25 rfl ?_ ?_
        · refine RO_aload_n dc_Model_walker_28 rfl rfl ?_
          refine RO_getR (b := 210) gf_Model_29 lk_203 rfl dc_Model_walker_29 ?_
          refine RO_iload_n dc_Model_walker_32 rfl rfl ?_
          refine RO_chk (fun hi4 => ?_)
          refine RO_ia lk_210 hi4 dc_Model_walker_33 ?_
          refine RO_goto (tgt := 63) dc_Model_walker_34 rfl ?_
          exact RO_iret rfl dc_Model_walker_63
        · refine RO_iload_n dc_Model_walker_37 rfl rfl ?_
          refine RO_iconst dc_Model_walker_38 ?_
          refine RO_icmp_ne (tgt := 55) dc_Model_walker_39 rfl ?_ ?_
          · refine RO_aload_n dc_Model_walker_42 rfl rfl ?_
            refine RO_getR (b := 245) gf_Model_135 lk_203 rfl dc_Model_walker_43 ?_
            refine RO_iconst dc_Model_walker_46 ?_
            refine RO_ia lk_245 ⟨by decide, by decide⟩ dc_Model_walker_47 ?_
            refine RO_iload_n dc_Model_walker_48 rfl rfl ?_
            refine RO_ishr dc_Model_walker_49 ?_
            refine RO_iconst dc_Model_walker_50 ?_
            refine RO_iand dc_Model_walker_51 ?_
            refine RO_goto (tgt := 63) dc_Model_walker_52 rfl ?_
            exact RO_iret rfl dc_Model_walker_63
          · refine RO_aload_n dc_Model_walker_55 rfl rfl ?_
            refine RO_getR (b := 245) gf_Model_135 lk_203 rfl dc_Model_walker_56 ?_
            refine RO_iconst dc_Model_walker_59 ?_
            refine RO_iload_n dc_Model_walker_60 rfl rfl ?_
            refine RO_iadd dc_Model_walker_61 ?_
            refine RO_chk (fun hi5 => ?_)
            refine RO_ia lk_245 hi5 dc_Model_walker_62 ?_
            exact RO_iret rfl dc_Model_walker_63
      · refine RO_iload_n dc_Model_walker_64 rfl rfl ?_
        refine RO_iconst dc_Model_walker_65 ?_
        refine RO_isub dc_Model_walker_66 ?_
        refine RO_aload_n dc_Model_walker_67 rfl rfl ?_
        refine RO_getR (b := 215) gf_Model_44 lk_203 rfl dc_Model_walker_68 ?_
        refine RO_iload_n dc_Model_walker_71 rfl rfl ?_
        refine RO_chk (fun hi6 => ?_)
        refine RO_ia lk_215 hi6 dc_Model_walker_72 ?_
        refine RO_icmp_ge (tgt := 91) dc_Model_walker_73 rfl ?_ ?_
        · refine RO_aload_n dc_Model_walker_76 rfl rfl ?_
          refine RO_getR (b := 214) gf_Model_41 lk_203 rfl dc_Model_walker_77 ?_
          refine RO_iconst dc_Model_walker_80 ?_
          refine RO_iload_n dc_Model_walker_81 rfl rfl ?_
          refine RO_imul dc_Model_walker_82 ?_
          refine RO_iload_n dc_Model_walker_83 rfl rfl ?_
          refine RO_iadd dc_Model_walker_84 ?_
          refine RO_iconst dc_Model_walker_85 ?_
          refine RO_isub dc_Model_walker_86 ?_
          refine RO_chk (fun hi7 => ?_)
          refine RO_ia lk_214 hi7 dc_Model_walker_87 ?_
          refine RO_goto (tgt := 92) dc_Model_walker_88 rfl ?_
          exact RO_iret rfl dc_Model_walker_92
        · refine RO_iconst dc_Model_walker_91 ?_
          exact RO_iret rfl dc_Model_walker_92
def bo_Model_keeps_49    (mem : Mm) : Res := bd (fn_Model_copies 16 245 0 256 248 (w32 (16 * (mem 203 58))) mem) fun r1 m2 => bn (mst m2 203 58 (w32 ((m2 203 58) + 1))) fun m3 => some (0, m3)
set_option maxHeartbeats 4000000 in
theorem rb_Model_keeps_49 {E : EE}       (mem : Mm) : RO E mt_Model_keeps (bo_Model_keeps_49    mem) 49 [(0, rf 203)] [] mem := by
  unfold bo_Model_keeps_49
  refine RO_aload_n dc_Model_keeps_49 rfl rfl ?_
  refine RO_getR (b := 245) gf_Model_135 lk_203 rfl dc_Model_keeps_50 ?_
  refine RO_iconst dc_Model_keeps_53 ?_
  refine RO_aload_n dc_Model_keeps_54 rfl rfl ?_
  refine RO_getR (b := 248) gf_Model_144 lk_203 rfl dc_Model_keeps_55 ?_
  refine RO_bipush dc_Model_keeps_58 ?_
  refine RO_aload_n dc_Model_keeps_60 rfl rfl ?_
  refine RO_getI gf_Model_416 lk_203 dc_Model_keeps_61 ?_
  refine RO_imul dc_Model_keeps_64 ?_
  refine RO_callSv (As := [rf 245, vi 0, rf 248, vi (w32 (16 * (mem 203 58)))]) (rest := []) mi_Model_copies ms_Model_copies ml_Model_482 (Nat.le_of_ble_eq_true rfl) rfl (Nat.le_of_ble_eq_true rfl) dc_Model_keeps_65 (fun rq mq hq => pf_Model_copies 16 245 0 256 248 (w32 (16 * (mem 203 58))) lk_245 lk_248 mem hq) (fun r1 m2 => ?_)
  refine RO_aload_n dc_Model_keeps_68 rfl rfl ?_
  refine RO_dup dc_Model_keeps_69 (nt2 _) ?_
  refine RO_getI gf_Model_416 lk_203 dc_Model_keeps_70 ?_
  refine RO_iconst dc_Model_keeps_73 ?_
  refine RO_iadd dc_Model_keeps_74 ?_
  refine RO_putI gp_Model_416 lk_203 dc_Model_keeps_75 ?_
  refine RO_bnM (fun m3 => ?_)
  exact RO_vret rfl dc_Model_keeps_78
def bo_Model_keeps_39    (mem : Mm) : Res := bn (mst mem 203 58 (w32 ((mem 203 58) - 1))) fun m1 => bo_Model_keeps_49 m1
set_option maxHeartbeats 4000000 in
theorem rb_Model_keeps_39 {E : EE}       (mem : Mm) : RO E mt_Model_keeps (bo_Model_keeps_39    mem) 39 [(0, rf 203)] [] mem := by
  unfold bo_Model_keeps_39
  refine RO_aload_n dc_Model_keeps_39 rfl rfl ?_
  refine RO_dup dc_Model_keeps_40 (nt2 _) ?_
  refine RO_getI gf_Model_416 lk_203 dc_Model_keeps_41 ?_
  refine RO_iconst dc_Model_keeps_44 ?_
  refine RO_isub dc_Model_keeps_45 ?_
  refine RO_putI gp_Model_416 lk_203 dc_Model_keeps_46 ?_
  refine RO_bnM (fun m1 => ?_)
  refine RO_sub ?_ (rb_Model_keeps_49 m1)
  exact ⟨rfl, trivial⟩
def bo_Model_keeps_11  (k11 : Int → Mm → Res) (v1 : Int) (mem : Mm) : Res := if v1 < 240 then (if 0 ≤ w32 (v1 + 16) ∧ w32 (v1 + 16) < 256 then if 0 ≤ v1 ∧ v1 < 256 then bn (mst mem 248 v1.toNat (mem 248 (w32 (v1 + 16)).toNat)) fun m3 => k11 (w32 (v1 + 1)) m3 else none else none) else (bo_Model_keeps_39 mem)
set_option maxHeartbeats 4000000 in
theorem rb_Model_keeps_11 {E : EE}   (k11 : Int → Mm → Res) (H11 : ∀ (v1 : Int)  (mem : Mm), RO E mt_Model_keeps (k11 v1 mem) 11 [(0, rf 203), (1, vi v1)] [] mem) (v1 : Int)  (mem : Mm) : RO E mt_Model_keeps (bo_Model_keeps_11  k11 v1 mem) 11 [(0, rf 203), (1, vi v1)] [] mem := by
  unfold bo_Model_keeps_11
  refine RO_iload_n dc_Model_keeps_11 rfl rfl ?_
  refine RO_sipush dc_Model_keeps_12 ?_
  refine RO_icmp_ge (tgt := 39) dc_Model_keeps_15 rfl ?_ ?_
  · refine RO_aload_n dc_Model_keeps_18 rfl rfl ?_
    refine RO_getR (b := 248) gf_Model_144 lk_203 rfl dc_Model_keeps_19 ?_
    refine RO_iload_n dc_Model_keeps_22 rfl rfl ?_
    refine RO_aload_n dc_Model_keeps_23 rfl rfl ?_
    refine RO_getR (b := 248) gf_Model_144 lk_203 rfl dc_Model_keeps_24 ?_
    refine RO_iload_n dc_Model_keeps_27 rfl rfl ?_
    refine RO_bipush dc_Model_keeps_28 ?_
    refine RO_iadd dc_Model_keeps_30 ?_
    refine RO_chk (fun hi1 => ?_)
    refine RO_ia lk_248 hi1 dc_Model_keeps_31 ?_
    refine RO_chk (fun hi2 => ?_)
    refine RO_is lk_248 hi2 dc_Model_keeps_32 ?_
    refine RO_bnM (fun m3 => ?_)
    refine RO_iinc dc_Model_keeps_33 rfl (Nat.le_of_ble_eq_true rfl) ?_
    refine RO_goto (tgt := 11) dc_Model_keeps_36 rfl ?_
    refine RO_sub ?_ (H11 (w32 (v1 + 1)) m3)
    exact ⟨rfl, rfl, trivial⟩
  · refine RO_sub ?_ (rb_Model_keeps_39 mem)
    exact ⟨rfl, trivial⟩
def lp_Model_keeps_11   : Nat → Int → Mm → Res
  | 0 => fun _ _ => none
  | n + 1 => bo_Model_keeps_11   (lp_Model_keeps_11   n)
theorem rp_Model_keeps_11 {E : EE}     : ∀ (n : Nat) (v1 : Int)  (mem : Mm), RO E mt_Model_keeps (lp_Model_keeps_11   n v1 mem) 11 [(0, rf 203), (1, vi v1)] [] mem := by
  intro n
  induction n with
  | zero => intro v1  mem; exact RO_none
  | succ n ih => intro v1  mem; exact rb_Model_keeps_11    (lp_Model_keeps_11   n)  ih v1  mem
def fn_Model_keeps  (mem : Mm) : Res := if (mem 203 58) = 16 then (lp_Model_keeps_11 FU 0 mem) else (bo_Model_keeps_49 mem)
set_option maxHeartbeats 4000000 in
theorem pf_Model_keeps {E : EE}   (mem : Mm) {r : Int} {mem9 : Mm} (h : fn_Model_keeps  mem = some (r, mem9)) : MetX E 2 yn_Model_keeps cd_Model_keeps 2 none [rf 203] mem r mem9 := by
  refine RO_met (y := yn_Model_keeps) (by decide +kernel) (Nat.le_of_ble_eq_true rfl) ?_ h
  show RO E mt_Model_keeps (fn_Model_keeps  mem) 0 [(0, rf 203)] [] mem
  unfold fn_Model_keeps
  refine RO_aload_n dc_Model_keeps_0 rfl rfl ?_
  refine RO_getI gf_Model_416 lk_203 dc_Model_keeps_1 ?_
  refine RO_bipush dc_Model_keeps_4 ?_
  refine RO_icmp_ne (tgt := 49) dc_Model_keeps_6 rfl ?_ ?_
  · refine RO_iconst dc_Model_keeps_9 ?_
    refine RO_istore_n dc_Model_keeps_10 rfl (Nat.le_of_ble_eq_true rfl) ?_
    refine RO_sub ?_ (rp_Model_keeps_11 FU 0 mem)
    exact ⟨rfl, rfl, trivial⟩
  · refine RO_sub ?_ (rb_Model_keeps_49 mem)
    exact ⟨rfl, trivial⟩
def fn_Model_canStand (p1 : Int) (p2 : Int) (mem : Mm) : Res := bd (fn_Model_isAlive p2 mem) fun r1 m2 => if r1 = 0 then (some (0, m2)) else (if 0 ≤ p1 ∧ p1 < 12 then bd (fn_Model_isOf 0 p2 (m2 219 p1.toNat) m2) fun r4 m5 => if r4 = 0 then (some (0, m5)) else (some (1, m5)) else none)
set_option maxHeartbeats 4000000 in
theorem pf_Model_canStand {E : EE} (p1 : Int) (p2 : Int)  (mem : Mm) {r : Int} {mem9 : Mm} (h : fn_Model_canStand p1 p2 mem = some (r, mem9)) : MetX E 2 yn_Model_canStand cd_Model_canStand 3 (some .boolean) [rf 203, vi p1, vi p2] mem r mem9 := by
  refine RO_met (y := yn_Model_canStand) (by decide +kernel) (Nat.le_of_ble_eq_true rfl) ?_ h
  show RO E mt_Model_canStand (fn_Model_canStand p1 p2 mem) 0 [(0, rf 203), (1, vi p1), (2, vi p2)] [] mem
  unfold fn_Model_canStand
  refine RO_aload_n dc_Model_canStand_0 rfl rfl ?_
  refine RO_iload_n dc_Model_canStand_1 rfl rfl ?_
  refine RO_callVi (As := [vi p2]) (rest := []) mi_Model_isAlive mv_Model_isAlive ml_Model_489 lk_203 (Nat.le_of_ble_eq_true rfl) rfl (Nat.le_of_ble_eq_true rfl) (fun _ => rfl) dc_Model_canStand_2 (fun rq mq hq => pf_Model_isAlive p2  mem hq) (fun r1 m2 => ?_)
  refine RO_if_eq (tgt := 27) dc_Model_canStand_5 rfl ?_ ?_
  · refine RO_iconst dc_Model_canStand_27 ?_
    exact RO_zret rfl (Or.inl rfl) dc_Model_canStand_28
  · refine RO_aload_n dc_Model_canStand_8 rfl rfl ?_
    refine RO_iconst dc_Model_canStand_9 ?_
    refine RO_iload_n dc_Model_canStand_10 rfl rfl ?_
    refine RO_aload_n dc_Model_canStand_11 rfl rfl ?_
    refine RO_getR (b := 219) gf_Model_56 lk_203 rfl dc_Model_canStand_12 ?_
    refine RO_iload_n dc_Model_canStand_15 rfl rfl ?_
    refine RO_chk (fun hi3 => ?_)
    refine RO_ia lk_219 hi3 dc_Model_canStand_16 ?_
    refine RO_callVi (As := [vi 0, vi p2, vi (m2 219 p1.toNat)]) (rest := []) mi_Model_isOf mv_Model_isOf ml_Model_367 lk_203 (Nat.le_of_ble_eq_true rfl) rfl (Nat.le_of_ble_eq_true rfl) (fun _ => rfl) dc_Model_canStand_17 (fun rq mq hq => pf_Model_isOf 0 p2 (m2 219 p1.toNat)  m2 hq) (fun r4 m5 => ?_)
    refine RO_if_eq (tgt := 27) dc_Model_canStand_20 rfl ?_ ?_
    · refine RO_iconst dc_Model_canStand_27 ?_
      exact RO_zret rfl (Or.inl rfl) dc_Model_canStand_28
    · refine RO_iconst dc_Model_canStand_23 ?_
      refine RO_goto (tgt := 28) dc_Model_canStand_24 rfl ?_
      exact RO_zret rfl (Or.inr rfl) dc_Model_canStand_28
def fn_Model_undo  (mem : Mm) : Res := bn (mst mem 203 0 0) fun m1 => if (m1 203 58) = 0 then (some (0, m1)) else (bn (mst m1 203 58 (w32 ((m1 203 58) - 1))) fun m2 => bd (fn_Model_copies 256 248 (w32 (16 * (m2 203 58))) 16 245 0 m2) fun r3 m4 => some (1, m4))
set_option maxHeartbeats 4000000 in
theorem pf_Model_undo {E : EE}   (mem : Mm) {r : Int} {mem9 : Mm} (h : fn_Model_undo  mem = some (r, mem9)) : MetX E 2 yn_Model_undo cd_Model_undo 1 (some .boolean) [rf 203] mem r mem9 := by
  refine RO_met (y := yn_Model_undo) (by decide +kernel) (Nat.le_of_ble_eq_true rfl) ?_ h
  show RO E mt_Model_undo (fn_Model_undo  mem) 0 [(0, rf 203)] [] mem
  unfold fn_Model_undo
  refine RO_aload_n dc_Model_undo_0 rfl rfl ?_
  refine RO_iconst dc_Model_undo_1 ?_
  refine RO_putI gp_Model_183 lk_203 dc_Model_undo_2 ?_
  refine RO_bnM (fun m1 => ?_)
  refine RO_aload_n dc_Model_undo_5 rfl rfl ?_
  refine RO_getI gf_Model_416 lk_203 dc_Model_undo_6 ?_
  refine RO_if_ne (tgt := 14) dc_Model_undo_9 rfl ?_ ?_
  · refine RO_iconst dc_Model_undo_12 ?_
    exact RO_zret rfl (Or.inl rfl) dc_Model_undo_13
  · refine RO_aload_n dc_Model_undo_14 rfl rfl ?_
    refine RO_dup dc_Model_undo_15 (nt2 _) ?_
    refine RO_getI gf_Model_416 lk_203 dc_Model_undo_16 ?_
    refine RO_iconst dc_Model_undo_19 ?_
    refine RO_isub dc_Model_undo_20 ?_
    refine RO_putI gp_Model_416 lk_203 dc_Model_undo_21 ?_
    refine RO_bnM (fun m2 => ?_)
    refine RO_aload_n dc_Model_undo_24 rfl rfl ?_
    refine RO_getR (b := 248) gf_Model_144 lk_203 rfl dc_Model_undo_25 ?_
    refine RO_bipush dc_Model_undo_28 ?_
    refine RO_aload_n dc_Model_undo_30 rfl rfl ?_
    refine RO_getI gf_Model_416 lk_203 dc_Model_undo_31 ?_
    refine RO_imul dc_Model_undo_34 ?_
    refine RO_aload_n dc_Model_undo_35 rfl rfl ?_
    refine RO_getR (b := 245) gf_Model_135 lk_203 rfl dc_Model_undo_36 ?_
    refine RO_iconst dc_Model_undo_39 ?_
    refine RO_callSv (As := [rf 248, vi (w32 (16 * (m2 203 58))), rf 245, vi 0]) (rest := []) mi_Model_copies ms_Model_copies ml_Model_482 (Nat.le_of_ble_eq_true rfl) rfl (Nat.le_of_ble_eq_true rfl) dc_Model_undo_40 (fun rq mq hq => pf_Model_copies 256 248 (w32 (16 * (m2 203 58))) 16 245 0 lk_248 lk_245 m2 hq) (fun r3 m4 => ?_)
    refine RO_iconst dc_Model_undo_43 ?_
    exact RO_zret rfl (Or.inr rfl) dc_Model_undo_44
def fn_Model_see (p1 : Int) (p2 : Int) (p3 : Int) (mem : Mm) : Res := bn (mst mem 203 0 0) fun m1 => bd (fn_Model_isWalker p1 m1) fun r2 m3 => if r2 = 0 then (some (0, m3)) else (bd (fn_Model_isPlace p2 m3) fun r4 m5 => if r4 = 0 then (some (0, m5)) else (if (m5 240 (0 : Int).toNat) = 8 then (some (0, m5)) else (if 0 ≤ m5 240 (0 : Int).toNat ∧ m5 240 (0 : Int).toNat < 40 then bn (mst m5 241 (m5 240 (0 : Int).toNat).toNat p1) fun m7 => if 0 ≤ m7 240 (0 : Int).toNat ∧ m7 240 (0 : Int).toNat < 40 then bn (mst m7 242 (m7 240 (0 : Int).toNat).toNat p2) fun m9 => if 0 ≤ m9 240 (0 : Int).toNat ∧ m9 240 (0 : Int).toNat < 40 then if p3 = 0 ∨ p3 = 1 then bn (mst m9 243 (m9 240 (0 : Int).toNat).toNat p3) fun m12 => bn (mst m12 240 (0 : Int).toNat (w32 ((m12 240 (0 : Int).toNat) + 1))) fun m13 => some (1, m13) else none else none else none else none)))
set_option maxHeartbeats 4000000 in
theorem pf_Model_see {E : EE} (p1 : Int) (p2 : Int) (p3 : Int)  (mem : Mm) {r : Int} {mem9 : Mm} (h : fn_Model_see p1 p2 p3 mem = some (r, mem9)) : MetX E 2 yn_Model_see cd_Model_see 4 (some .boolean) [rf 203, vi p1, vi p2, vi p3] mem r mem9 := by
  refine RO_met (y := yn_Model_see) (by decide +kernel) (Nat.le_of_ble_eq_true rfl) ?_ h
  show RO E mt_Model_see (fn_Model_see p1 p2 p3 mem) 0 [(0, rf 203), (1, vi p1), (2, vi p2), (3, vi p3)] [] mem
  unfold fn_Model_see
  refine RO_aload_n dc_Model_see_0 rfl rfl ?_
  refine RO_iconst dc_Model_see_1 ?_
  refine RO_putI gp_Model_183 lk_203 dc_Model_see_2 ?_
  refine RO_bnM (fun m1 => ?_)
  refine RO_aload_n dc_Model_see_5 rfl rfl ?_
  refine RO_iload_n dc_Model_see_6 rfl rfl ?_
  refine RO_callVi (As := [vi p1]) (rest := []) mi_Model_isWalker mv_Model_isWalker ml_Model_467 lk_203 (Nat.le_of_ble_eq_true rfl) rfl (Nat.le_of_ble_eq_true rfl) (fun _ => rfl) dc_Model_see_7 (fun rq mq hq => pf_Model_isWalker p1  m1 hq) (fun r2 m3 => ?_)
  refine RO_if_eq (tgt := 32) dc_Model_see_10 rfl ?_ ?_
  · refine RO_iconst dc_Model_see_32 ?_
    exact RO_zret rfl (Or.inl rfl) dc_Model_see_33
  · refine RO_aload_n dc_Model_see_13 rfl rfl ?_
    refine RO_iload_n dc_Model_see_14 rfl rfl ?_
    refine RO_callVi (As := [vi p2]) (rest := []) mi_Model_isPlace mv_Model_isPlace ml_Model_433 lk_203 (Nat.le_of_ble_eq_true rfl) rfl (Nat.le_of_ble_eq_true rfl) (fun _ => rfl) dc_Model_see_15 (fun rq mq hq => pf_Model_isPlace p2  m3 hq) (fun r4 m5 => ?_)
    refine RO_if_eq (tgt := 32) dc_Model_see_18 rfl ?_ ?_
    · refine RO_iconst dc_Model_see_32 ?_
      exact RO_zret rfl (Or.inl rfl) dc_Model_see_33
    · refine RO_aload_n dc_Model_see_21 rfl rfl ?_
      refine RO_getR (b := 240) gf_Model_120 lk_203 rfl dc_Model_see_22 ?_
      refine RO_iconst dc_Model_see_25 ?_
      refine RO_ia lk_240 ⟨by decide, by decide⟩ dc_Model_see_26 ?_
      refine RO_bipush dc_Model_see_27 ?_
      refine RO_icmp_ne (tgt := 34) dc_Model_see_29 rfl ?_ ?_
      · refine RO_iconst dc_Model_see_32 ?_
        exact RO_zret rfl (Or.inl rfl) dc_Model_see_33
      · refine RO_aload_n dc_Model_see_34 rfl rfl ?_
        refine RO_getR (b := 241) gf_Model_123 lk_203 rfl dc_Model_see_35 ?_
        refine RO_aload_n dc_Model_see_38 rfl rfl ?_
        refine RO_getR (b := 240) gf_Model_120 lk_203 rfl dc_Model_see_39 ?_
        refine RO_iconst dc_Model_see_42 ?_
        refine RO_ia lk_240 ⟨by decide, by decide⟩ dc_Model_see_43 ?_
        refine RO_iload_n dc_Model_see_44 rfl rfl ?_
        refine RO_chk (fun hi6 => ?_)
        refine RO_is lk_241 hi6 dc_Model_see_45 ?_
        refine RO_bnM (fun m7 => ?_)
        refine RO_aload_n dc_Model_see_46 rfl rfl ?_
        refine RO_getR (b := 242) gf_Model_126 lk_203 rfl dc_Model_see_47 ?_
        refine RO_aload_n dc_Model_see_50 rfl rfl ?_
        refine RO_getR (b := 240) gf_Model_120 lk_203 rfl dc_Model_see_51 ?_
        refine RO_iconst dc_Model_see_54 ?_
        refine RO_ia lk_240 ⟨by decide, by decide⟩ dc_Model_see_55 ?_
        refine RO_iload_n dc_Model_see_56 rfl rfl ?_
        refine RO_chk (fun hi8 => ?_)
        refine RO_is lk_242 hi8 dc_Model_see_57 ?_
        refine RO_bnM (fun m9 => ?_)
        refine RO_aload_n dc_Model_see_58 rfl rfl ?_
        refine RO_getR (b := 243) gf_Model_129 lk_203 rfl dc_Model_see_59 ?_
        refine RO_aload_n dc_Model_see_62 rfl rfl ?_
        refine RO_getR (b := 240) gf_Model_120 lk_203 rfl dc_Model_see_63 ?_
        refine RO_iconst dc_Model_see_66 ?_
        refine RO_ia lk_240 ⟨by decide, by decide⟩ dc_Model_see_67 ?_
        refine RO_iload_n dc_Model_see_68 rfl rfl ?_
        refine RO_chk (fun hi10 => ?_)
        refine RO_chk (fun hz11 => ?_)
        refine RO_zs lk_243 hi10 hz11 dc_Model_see_69 ?_
        refine RO_bnM (fun m12 => ?_)
        refine RO_aload_n dc_Model_see_70 rfl rfl ?_
        refine RO_getR (b := 240) gf_Model_120 lk_203 rfl dc_Model_see_71 ?_
        refine RO_iconst dc_Model_see_74 ?_
        refine RO_dup2 dc_Model_see_75 (nt0 _) (nt2 _) ?_
        refine RO_ia lk_240 ⟨by decide, by decide⟩ dc_Model_see_76 ?_
        refine RO_iconst dc_Model_see_77 ?_
        refine RO_iadd dc_Model_see_78 ?_
        refine RO_is lk_240 ⟨by decide, by decide⟩ dc_Model_see_79 ?_
        refine RO_bnM (fun m13 => ?_)
        refine RO_iconst dc_Model_see_80 ?_
        exact RO_zret rfl (Or.inr rfl) dc_Model_see_81
def bo_Model_mostAlike_74 (p1 : Int) (k25 : Int → Int → Mm → Res) (v2 : Int) (v3 : Int) (mem : Mm) : Res := k25 v2 (w32 (v3 + 1)) mem
set_option maxHeartbeats 4000000 in
theorem rb_Model_mostAlike_74 {E : EE} (p1 : Int)  (k25 : Int → Int → Mm → Res) (H25 : ∀ (v2 : Int) (v3 : Int)  (mem : Mm), RO E mt_Model_mostAlike (k25 v2 v3 mem) 25 [(0, rf 203), (1, vi p1), (2, vi v2), (3, vi v3)] [] mem) (v2 : Int) (v3 : Int)  (mem : Mm) : RO E mt_Model_mostAlike (bo_Model_mostAlike_74 p1 k25 v2 v3 mem) 74 [(0, rf 203), (1, vi p1), (2, vi v2), (3, vi v3)] [] mem := by
  unfold bo_Model_mostAlike_74
  refine RO_iinc dc_Model_mostAlike_74 rfl (Nat.le_of_ble_eq_true rfl) ?_
  refine RO_goto (tgt := 25) dc_Model_mostAlike_77 rfl ?_
  refine RO_sub ?_ (H25 v2 (w32 (v3 + 1)) mem)
  exact ⟨rfl, rfl, rfl, rfl, trivial⟩
def bo_Model_mostAlike_25 (p1 : Int) (k25 : Int → Int → Mm → Res) (v2 : Int) (v3 : Int) (mem : Mm) : Res := if v3 < 240 then (bd (fn_Model_isAsSeen v3 mem) fun r1 m2 => if r1 = 0 then (bo_Model_mostAlike_74 p1 k25 v2 v3 m2) else (bd (fn_Model_thereAt p1 v3 m2) fun r3 m4 => if 0 ≤ r3 ∧ r3 < 64 then if 0 ≤ r3 ∧ r3 < 64 then bn (mst m4 255 r3.toNat (w32 ((m4 255 r3.toNat) + 1))) fun m7 => if 0 ≤ r3 ∧ r3 < 64 then bn (imx v2 (m7 255 r3.toNat)) fun x9 => bo_Model_mostAlike_74 p1 k25 x9 v3 m7 else none else none else none)) else (some (v2, mem))
set_option maxHeartbeats 4000000 in
theorem rb_Model_mostAlike_25 {E : EE} (p1 : Int)  (k25 : Int → Int → Mm → Res) (H25 : ∀ (v2 : Int) (v3 : Int)  (mem : Mm), RO E mt_Model_mostAlike (k25 v2 v3 mem) 25 [(0, rf 203), (1, vi p1), (2, vi v2), (3, vi v3)] [] mem) (v2 : Int) (v3 : Int)  (mem : Mm) : RO E mt_Model_mostAlike (bo_Model_mostAlike_25 p1 k25 v2 v3 mem) 25 [(0, rf 203), (1, vi p1), (2, vi v2), (3, vi v3)] [] mem := by
  unfold bo_Model_mostAlike_25
  refine RO_iload_n dc_Model_mostAlike_25 rfl rfl ?_
  refine RO_sipush dc_Model_mostAlike_26 ?_
  refine RO_icmp_ge (tgt := 80) dc_Model_mostAlike_29 rfl ?_ ?_
  · refine RO_aload_n dc_Model_mostAlike_32 rfl rfl ?_
    refine RO_iload_n dc_Model_mostAlike_33 rfl rfl ?_
    refine RO_callVi (As := [vi v3]) (rest := []) mi_Model_isAsSeen mv_Model_isAsSeen ml_Model_507 lk_203 (Nat.le_of_ble_eq_true rfl) rfl (Nat.le_of_ble_eq_true rfl) (fun _ => rfl) dc_Model_mostAlike_34 (fun rq mq hq => pf_Model_isAsSeen v3  mem hq) (fun r1 m2 => ?_)
    refine RO_if_ne (tgt := 43) dc_Model_mostAlike_37 rfl ?_ ?_
    · refine RO_goto (tgt := 74) dc_Model_mostAlike_40 rfl ?_
      refine RO_sub ?_ (rb_Model_mostAlike_74 p1 k25 H25 v2 v3 m2)
      exact ⟨rfl, rfl, rfl, rfl, trivial⟩
    · refine RO_aload_n dc_Model_mostAlike_43 rfl rfl ?_
      refine RO_iload_n dc_Model_mostAlike_44 rfl rfl ?_
      refine RO_iload_n dc_Model_mostAlike_45 rfl rfl ?_
      refine RO_callVi (As := [vi p1, vi v3]) (rest := []) mi_Model_thereAt mv_Model_thereAt ml_Model_510 lk_203 (Nat.le_of_ble_eq_true rfl) rfl (Nat.le_of_ble_eq_true rfl) (fun _ => rfl) dc_Model_mostAlike_46 (fun rq mq hq => pf_Model_thereAt p1 v3  m2 hq) (fun r3 m4 => ?_)
      refine RO_istore dc_Model_mostAlike_49 (Nat.le_of_ble_eq_true rfl) ?_
      refine RO_aload_n dc_Model_mostAlike_51 rfl rfl ?_
      refine RO_getR (b := 255) gf_Model_165 lk_203 rfl dc_Model_mostAlike_52 ?_
      refine RO_iload dc_Model_mostAlike_55 rfl ?_
      refine RO_dup2 dc_Model_mostAlike_57 (nt0 _) (nt2 _) ?_
      refine RO_chk (fun hi5 => ?_)
      refine RO_ia lk_255 hi5 dc_Model_mostAlike_58 ?_
      refine RO_iconst dc_Model_mostAlike_59 ?_
      refine RO_iadd dc_Model_mostAlike_60 ?_
      refine RO_chk (fun hi6 => ?_)
      refine RO_is lk_255 hi6 dc_Model_mostAlike_61 ?_
      refine RO_bnM (fun m7 => ?_)
      refine RO_iload_n dc_Model_mostAlike_62 rfl rfl ?_
      refine RO_aload_n dc_Model_mostAlike_63 rfl rfl ?_
      refine RO_getR (b := 255) gf_Model_165 lk_203 rfl dc_Model_mostAlike_64 ?_
      refine RO_iload dc_Model_mostAlike_67 rfl ?_
      refine RO_chk (fun hi8 => ?_)
      refine RO_ia lk_255 hi8 dc_Model_mostAlike_69 ?_
      refine RO_max mw_max ml_Model_513 (Nat.le_of_ble_eq_true rfl) (Nat.le_of_ble_eq_true rfl) dc_Model_mostAlike_70 ?_
      refine RO_bnT (fun x9 => ?_)
      refine RO_istore_n dc_Model_mostAlike_73 rfl (Nat.le_of_ble_eq_true rfl) ?_
      refine RO_sub ?_ (rb_Model_mostAlike_74 p1 k25 H25 x9 v3 m7)
      exact ⟨rfl, rfl, rfl, rfl, trivial⟩
  · refine RO_iload_n dc_Model_mostAlike_80 rfl rfl ?_
    exact RO_iret rfl dc_Model_mostAlike_81
def lp_Model_mostAlike_25 (p1 : Int)  : Nat → Int → Int → Mm → Res
  | 0 => fun _ _ _ => none
  | n + 1 => bo_Model_mostAlike_25 p1  (lp_Model_mostAlike_25 p1  n)
theorem rp_Model_mostAlike_25 {E : EE} (p1 : Int)    : ∀ (n : Nat) (v2 : Int) (v3 : Int)  (mem : Mm), RO E mt_Model_mostAlike (lp_Model_mostAlike_25 p1  n v2 v3 mem) 25 [(0, rf 203), (1, vi p1), (2, vi v2), (3, vi v3)] [] mem := by
  intro n
  induction n with
  | zero => intro v2 v3  mem; exact RO_none
  | succ n ih => intro v2 v3  mem; exact rb_Model_mostAlike_25 p1   (lp_Model_mostAlike_25 p1  n)  ih v2 v3  mem
def bo_Model_mostAlike_21 (p1 : Int)   (mem : Mm) : Res := lp_Model_mostAlike_25 p1 FU 0 0 mem
set_option maxHeartbeats 4000000 in
theorem rb_Model_mostAlike_21 {E : EE} (p1 : Int)      (mem : Mm) : RO E mt_Model_mostAlike (bo_Model_mostAlike_21 p1   mem) 21 [(0, rf 203), (1, vi p1)] [] mem := by
  unfold bo_Model_mostAlike_21
  refine RO_iconst dc_Model_mostAlike_21 ?_
  refine RO_istore_n dc_Model_mostAlike_22 rfl (Nat.le_of_ble_eq_true rfl) ?_
  refine RO_iconst dc_Model_mostAlike_23 ?_
  refine RO_istore_n dc_Model_mostAlike_24 rfl (Nat.le_of_ble_eq_true rfl) ?_
  refine RO_sub ?_ (rp_Model_mostAlike_25 p1 FU 0 0 mem)
  exact ⟨rfl, rfl, rfl, rfl, trivial⟩
def bo_Model_mostAlike_2 (p1 : Int) (k2 : Int → Mm → Res) (v2 : Int) (mem : Mm) : Res := if v2 < 64 then (if 0 ≤ v2 ∧ v2 < 64 then bn (mst mem 255 v2.toNat 0) fun m2 => k2 (w32 (v2 + 1)) m2 else none) else (bo_Model_mostAlike_21 p1 mem)
set_option maxHeartbeats 4000000 in
theorem rb_Model_mostAlike_2 {E : EE} (p1 : Int)  (k2 : Int → Mm → Res) (H2 : ∀ (v2 : Int)  (mem : Mm), RO E mt_Model_mostAlike (k2 v2 mem) 2 [(0, rf 203), (1, vi p1), (2, vi v2)] [] mem) (v2 : Int)  (mem : Mm) : RO E mt_Model_mostAlike (bo_Model_mostAlike_2 p1 k2 v2 mem) 2 [(0, rf 203), (1, vi p1), (2, vi v2)] [] mem := by
  unfold bo_Model_mostAlike_2
  refine RO_iload_n dc_Model_mostAlike_2 rfl rfl ?_
  refine RO_bipush dc_Model_mostAlike_3 ?_
  refine RO_icmp_ge (tgt := 21) dc_Model_mostAlike_5 rfl ?_ ?_
  · refine RO_aload_n dc_Model_mostAlike_8 rfl rfl ?_
    refine RO_getR (b := 255) gf_Model_165 lk_203 rfl dc_Model_mostAlike_9 ?_
    refine RO_iload_n dc_Model_mostAlike_12 rfl rfl ?_
    refine RO_iconst dc_Model_mostAlike_13 ?_
    refine RO_chk (fun hi1 => ?_)
    refine RO_is lk_255 hi1 dc_Model_mostAlike_14 ?_
    refine RO_bnM (fun m2 => ?_)
    refine RO_iinc dc_Model_mostAlike_15 rfl (Nat.le_of_ble_eq_true rfl) ?_
    refine RO_goto (tgt := 2) dc_Model_mostAlike_18 rfl ?_
    refine RO_sub ?_ (H2 (w32 (v2 + 1)) m2)
    exact ⟨rfl, rfl, rfl, trivial⟩
  · refine RO_sub ?_ (rb_Model_mostAlike_21 p1 mem)
    exact ⟨rfl, rfl, trivial⟩
def lp_Model_mostAlike_2 (p1 : Int)  : Nat → Int → Mm → Res
  | 0 => fun _ _ => none
  | n + 1 => bo_Model_mostAlike_2 p1  (lp_Model_mostAlike_2 p1  n)
theorem rp_Model_mostAlike_2 {E : EE} (p1 : Int)    : ∀ (n : Nat) (v2 : Int)  (mem : Mm), RO E mt_Model_mostAlike (lp_Model_mostAlike_2 p1  n v2 mem) 2 [(0, rf 203), (1, vi p1), (2, vi v2)] [] mem := by
  intro n
  induction n with
  | zero => intro v2  mem; exact RO_none
  | succ n ih => intro v2  mem; exact rb_Model_mostAlike_2 p1   (lp_Model_mostAlike_2 p1  n)  ih v2  mem
def fn_Model_mostAlike (p1 : Int) (mem : Mm) : Res := lp_Model_mostAlike_2 p1 FU 0 mem
set_option maxHeartbeats 4000000 in
theorem pf_Model_mostAlike {E : EE} (p1 : Int)  (mem : Mm) {r : Int} {mem9 : Mm} (h : fn_Model_mostAlike p1 mem = some (r, mem9)) : MetX E 2 yn_Model_mostAlike cd_Model_mostAlike 5 (some .int) [rf 203, vi p1] mem r mem9 := by
  refine RO_met (y := yn_Model_mostAlike) (by decide +kernel) (Nat.le_of_ble_eq_true rfl) ?_ h
  show RO E mt_Model_mostAlike (fn_Model_mostAlike p1 mem) 0 [(0, rf 203), (1, vi p1)] [] mem
  unfold fn_Model_mostAlike
  refine RO_iconst dc_Model_mostAlike_0 ?_
  refine RO_istore_n dc_Model_mostAlike_1 rfl (Nat.le_of_ble_eq_true rfl) ?_
  refine RO_sub ?_ (rp_Model_mostAlike_2 p1 FU 0 mem)
  exact ⟨rfl, rfl, rfl, trivial⟩
def fn_Model_tell (p1 : Int) (p2 : Int) (mem : Mm) : Res := bn (mst mem 203 0 0) fun m1 => bd (fn_Model_isHour p1 m1) fun r2 m3 => if r2 = 0 then (some (0, m3)) else (bd (fn_Model_within p2 (-1) 239 m3) fun r4 m5 => if r4 = 0 then (some (0, m5)) else (if 0 ≤ p1 ∧ p1 < 30 then bn (mst m5 244 p1.toNat p2) fun m7 => some (1, m7) else none))
set_option maxHeartbeats 4000000 in
theorem pf_Model_tell {E : EE} (p1 : Int) (p2 : Int)  (mem : Mm) {r : Int} {mem9 : Mm} (h : fn_Model_tell p1 p2 mem = some (r, mem9)) : MetX E 2 yn_Model_tell cd_Model_tell 3 (some .boolean) [rf 203, vi p1, vi p2] mem r mem9 := by
  refine RO_met (y := yn_Model_tell) (by decide +kernel) (Nat.le_of_ble_eq_true rfl) ?_ h
  show RO E mt_Model_tell (fn_Model_tell p1 p2 mem) 0 [(0, rf 203), (1, vi p1), (2, vi p2)] [] mem
  unfold fn_Model_tell
  refine RO_aload_n dc_Model_tell_0 rfl rfl ?_
  refine RO_iconst dc_Model_tell_1 ?_
  refine RO_putI gp_Model_183 lk_203 dc_Model_tell_2 ?_
  refine RO_bnM (fun m1 => ?_)
  refine RO_aload_n dc_Model_tell_5 rfl rfl ?_
  refine RO_iload_n dc_Model_tell_6 rfl rfl ?_
  refine RO_callVi (As := [vi p1]) (rest := []) mi_Model_isHour mv_Model_isHour ml_Model_473 lk_203 (Nat.le_of_ble_eq_true rfl) rfl (Nat.le_of_ble_eq_true rfl) (fun _ => rfl) dc_Model_tell_7 (fun rq mq hq => pf_Model_isHour p1  m1 hq) (fun r2 m3 => ?_)
  refine RO_if_eq (tgt := 24) dc_Model_tell_10 rfl ?_ ?_
  · refine RO_iconst dc_Model_tell_24 ?_
    exact RO_zret rfl (Or.inl rfl) dc_Model_tell_25
  · refine RO_iload_n dc_Model_tell_13 rfl rfl ?_
    refine RO_iconst dc_Model_tell_14 ?_
    refine RO_sipush dc_Model_tell_15 ?_
    refine RO_callSi (As := [vi p2, vi (-1), vi 239]) (rest := []) mi_Model_within ms_Model_within ml_Model_318 (Nat.le_of_ble_eq_true rfl) rfl (Nat.le_of_ble_eq_true rfl) (fun _ => rfl) dc_Model_tell_18 (fun rq mq hq => pf_Model_within p2 (-1) 239  m3 hq) (fun r4 m5 => ?_)
    refine RO_if_ne (tgt := 26) dc_Model_tell_21 rfl ?_ ?_
    · refine RO_iconst dc_Model_tell_24 ?_
      exact RO_zret rfl (Or.inl rfl) dc_Model_tell_25
    · refine RO_aload_n dc_Model_tell_26 rfl rfl ?_
      refine RO_getR (b := 244) gf_Model_132 lk_203 rfl dc_Model_tell_27 ?_
      refine RO_iload_n dc_Model_tell_30 rfl rfl ?_
      refine RO_iload_n dc_Model_tell_31 rfl rfl ?_
      refine RO_chk (fun hi6 => ?_)
      refine RO_is lk_244 hi6 dc_Model_tell_32 ?_
      refine RO_bnM (fun m7 => ?_)
      refine RO_iconst dc_Model_tell_33 ?_
      exact RO_zret rfl (Or.inr rfl) dc_Model_tell_34
def bo_Model_isRest_3 (p0 : Int) (p1 : Int) (p2 : Int) (p3 : Int) (p4 : Int) (k3 : Int → Mm → Res) (v5 : Int) (mem : Mm) : Res := if v5 < 10 then (bd (fn_Model_getsBy p0 p1 p2 v5 p4 mem) fun r1 m2 => bd (fn_Model_getsBy p0 p1 p2 p3 p4 m2) fun r3 m4 => if r3 < r1 then (some (0, m4)) else (bd (fn_Model_getsBy p1 p0 p2 v5 p3 m4) fun r5 m6 => bd (fn_Model_getsBy p1 p0 p2 p4 p3 m6) fun r7 m8 => if r7 < r5 then (some (0, m8)) else (k3 (w32 (v5 + 1)) m8))) else (some (1, mem))
set_option maxHeartbeats 4000000 in
theorem rb_Model_isRest_3 {E : EE} (p0 : Int) (p1 : Int) (p2 : Int) (p3 : Int) (p4 : Int)  (k3 : Int → Mm → Res) (H3 : ∀ (v5 : Int)  (mem : Mm), RO E mt_Model_isRest (k3 v5 mem) 3 [(0, vi p0), (1, vi p1), (2, vi p2), (3, vi p3), (4, vi p4), (5, vi v5)] [] mem) (v5 : Int)  (mem : Mm) : RO E mt_Model_isRest (bo_Model_isRest_3 p0 p1 p2 p3 p4 k3 v5 mem) 3 [(0, vi p0), (1, vi p1), (2, vi p2), (3, vi p3), (4, vi p4), (5, vi v5)] [] mem := by
  unfold bo_Model_isRest_3
  refine RO_iload dc_Model_isRest_3 rfl ?_
  refine RO_bipush dc_Model_isRest_5 ?_
  refine RO_icmp_ge (tgt := 61) dc_Model_isRest_7 rfl ?_ ?_
  · refine RO_iload_n dc_Model_isRest_10 rfl rfl ?_
    refine RO_iload_n dc_Model_isRest_11 rfl rfl ?_
    refine RO_iload_n dc_Model_isRest_12 rfl rfl ?_
    refine RO_iload dc_Model_isRest_13 rfl ?_
    refine RO_iload dc_Model_isRest_15 rfl ?_
    refine RO_callSi (As := [vi p0, vi p1, vi p2, vi v5, vi p4]) (rest := []) mi_Model_getsBy ms_Model_getsBy ml_Model_545 (Nat.le_of_ble_eq_true rfl) rfl (Nat.le_of_ble_eq_true rfl) (fun _ => rfl) dc_Model_isRest_17 (fun rq mq hq => pf_Model_getsBy p0 p1 p2 v5 p4  mem hq) (fun r1 m2 => ?_)
    refine RO_iload_n dc_Model_isRest_20 rfl rfl ?_
    refine RO_iload_n dc_Model_isRest_21 rfl rfl ?_
    refine RO_iload_n dc_Model_isRest_22 rfl rfl ?_
    refine RO_iload_n dc_Model_isRest_23 rfl rfl ?_
    refine RO_iload dc_Model_isRest_24 rfl ?_
    refine RO_callSi (As := [vi p0, vi p1, vi p2, vi p3, vi p4]) (rest := [vi r1]) mi_Model_getsBy ms_Model_getsBy ml_Model_545 (Nat.le_of_ble_eq_true rfl) rfl (Nat.le_of_ble_eq_true rfl) (fun _ => rfl) dc_Model_isRest_26 (fun rq mq hq => pf_Model_getsBy p0 p1 p2 p3 p4  m2 hq) (fun r3 m4 => ?_)
    refine RO_icmp_gt (tgt := 53) dc_Model_isRest_29 rfl ?_ ?_
    · refine RO_iconst dc_Model_isRest_53 ?_
      exact RO_zret rfl (Or.inl rfl) dc_Model_isRest_54
    · refine RO_iload_n dc_Model_isRest_32 rfl rfl ?_
      refine RO_iload_n dc_Model_isRest_33 rfl rfl ?_
      refine RO_iload_n dc_Model_isRest_34 rfl rfl ?_
      refine RO_iload dc_Model_isRest_35 rfl ?_
      refine RO_iload_n dc_Model_isRest_37 rfl rfl ?_
      refine RO_callSi (As := [vi p1, vi p0, vi p2, vi v5, vi p3]) (rest := []) mi_Model_getsBy ms_Model_getsBy ml_Model_545 (Nat.le_of_ble_eq_true rfl) rfl (Nat.le_of_ble_eq_true rfl) (fun _ => rfl) dc_Model_isRest_38 (fun rq mq hq => pf_Model_getsBy p1 p0 p2 v5 p3  m4 hq) (fun r5 m6 => ?_)
      refine RO_iload_n dc_Model_isRest_41 rfl rfl ?_
      refine RO_iload_n dc_Model_isRest_42 rfl rfl ?_
      refine RO_iload_n dc_Model_isRest_43 rfl rfl ?_
      refine RO_iload dc_Model_isRest_44 rfl ?_
      refine RO_iload_n dc_Model_isRest_46 rfl rfl ?_
      refine RO_callSi (As := [vi p1, vi p0, vi p2, vi p4, vi p3]) (rest := [vi r5]) mi_Model_getsBy ms_Model_getsBy ml_Model_545 (Nat.le_of_ble_eq_true rfl) rfl (Nat.le_of_ble_eq_true rfl) (fun _ => rfl) dc_Model_isRest_47 (fun rq mq hq => pf_Model_getsBy p1 p0 p2 p4 p3  m6 hq) (fun r7 m8 => ?_)
      refine RO_icmp_le (tgt := 55) dc_Model_isRest_50 rfl ?_ ?_
      · refine RO_iconst dc_Model_isRest_53 ?_
        exact RO_zret rfl (Or.inl rfl) dc_Model_isRest_54
      · refine RO_iinc dc_Model_isRest_55 rfl (Nat.le_of_ble_eq_true rfl) ?_
        refine RO_goto (tgt := 3) dc_Model_isRest_58 rfl ?_
        refine RO_sub ?_ (H3 (w32 (v5 + 1)) m8)
        exact ⟨rfl, rfl, rfl, rfl, rfl, rfl, trivial⟩
  · refine RO_iconst dc_Model_isRest_61 ?_
    exact RO_zret rfl (Or.inr rfl) dc_Model_isRest_62
def lp_Model_isRest_3 (p0 : Int) (p1 : Int) (p2 : Int) (p3 : Int) (p4 : Int)  : Nat → Int → Mm → Res
  | 0 => fun _ _ => none
  | n + 1 => bo_Model_isRest_3 p0 p1 p2 p3 p4  (lp_Model_isRest_3 p0 p1 p2 p3 p4  n)
theorem rp_Model_isRest_3 {E : EE} (p0 : Int) (p1 : Int) (p2 : Int) (p3 : Int) (p4 : Int)    : ∀ (n : Nat) (v5 : Int)  (mem : Mm), RO E mt_Model_isRest (lp_Model_isRest_3 p0 p1 p2 p3 p4  n v5 mem) 3 [(0, vi p0), (1, vi p1), (2, vi p2), (3, vi p3), (4, vi p4), (5, vi v5)] [] mem := by
  intro n
  induction n with
  | zero => intro v5  mem; exact RO_none
  | succ n ih => intro v5  mem; exact rb_Model_isRest_3 p0 p1 p2 p3 p4   (lp_Model_isRest_3 p0 p1 p2 p3 p4  n)  ih v5  mem
def fn_Model_isRest (p0 : Int) (p1 : Int) (p2 : Int) (p3 : Int) (p4 : Int) (mem : Mm) : Res := lp_Model_isRest_3 p0 p1 p2 p3 p4 FU 0 mem
set_option maxHeartbeats 4000000 in
theorem pf_Model_isRest {E : EE} (p0 : Int) (p1 : Int) (p2 : Int) (p3 : Int) (p4 : Int)  (mem : Mm) {r : Int} {mem9 : Mm} (h : fn_Model_isRest p0 p1 p2 p3 p4 mem = some (r, mem9)) : MetX E 2 yn_Model_isRest cd_Model_isRest 6 (some .boolean) [vi p0, vi p1, vi p2, vi p3, vi p4] mem r mem9 := by
  refine RO_met (y := yn_Model_isRest) (by decide +kernel) (Nat.le_of_ble_eq_true rfl) ?_ h
  show RO E mt_Model_isRest (fn_Model_isRest p0 p1 p2 p3 p4 mem) 0 [(0, vi p0), (1, vi p1), (2, vi p2), (3, vi p3), (4, vi p4)] [] mem
  unfold fn_Model_isRest
  refine RO_iconst dc_Model_isRest_0 ?_
  refine RO_istore dc_Model_isRest_1 (Nat.le_of_ble_eq_true rfl) ?_
  refine RO_sub ?_ (rp_Model_isRest_3 p0 p1 p2 p3 p4 FU 0 mem)
  exact ⟨rfl, rfl, rfl, rfl, rfl, rfl, trivial⟩
def bo_Model_meetings_44  (k4 : Int → Int → Mm → Res) (v1 : Int) (v2 : Int) (mem : Mm) : Res := k4 v1 (w32 (v2 + 1)) mem
set_option maxHeartbeats 4000000 in
theorem rb_Model_meetings_44 {E : EE}   (k4 : Int → Int → Mm → Res) (H4 : ∀ (v1 : Int) (v2 : Int)  (mem : Mm), RO E mt_Model_meetings (k4 v1 v2 mem) 4 [(0, rf 203), (1, vi v1), (2, vi v2)] [] mem) (v1 : Int) (v2 : Int)  (mem : Mm) : RO E mt_Model_meetings (bo_Model_meetings_44  k4 v1 v2 mem) 44 [(0, rf 203), (1, vi v1), (2, vi v2)] [] mem := by
  unfold bo_Model_meetings_44
  refine RO_iinc dc_Model_meetings_44 rfl (Nat.le_of_ble_eq_true rfl) ?_
  refine RO_goto (tgt := 4) dc_Model_meetings_47 rfl ?_
  refine RO_sub ?_ (H4 v1 (w32 (v2 + 1)) mem)
  exact ⟨rfl, rfl, rfl, trivial⟩
def bo_Model_meetings_36  (k4 : Int → Int → Mm → Res) (k16 : Int → Int → Int → Mm → Res) (v2 : Int) (v3 : Int) (s0 : Int) (s1 : Int) (mem : Mm) : Res := bn (w32 (s0 + s1)) fun x1 => k16 x1 v2 (w32 (v3 + 1)) mem
set_option maxHeartbeats 4000000 in
theorem rb_Model_meetings_36 {E : EE}   (k4 : Int → Int → Mm → Res) (k16 : Int → Int → Int → Mm → Res) (H4 : ∀ (v1 : Int) (v2 : Int)  (mem : Mm), RO E mt_Model_meetings (k4 v1 v2 mem) 4 [(0, rf 203), (1, vi v1), (2, vi v2)] [] mem) (H16 : ∀ (v1 : Int) (v2 : Int) (v3 : Int)  (mem : Mm), RO E mt_Model_meetings (k16 v1 v2 v3 mem) 16 [(0, rf 203), (1, vi v1), (2, vi v2), (3, vi v3)] [] mem) (v2 : Int) (v3 : Int) (s0 : Int) (s1 : Int)  (mem : Mm) : RO E mt_Model_meetings (bo_Model_meetings_36  k4 k16 v2 v3 s0 s1 mem) 36 [(0, rf 203), (2, vi v2), (3, vi v3)] [vi s1, vi s0] mem := by
  unfold bo_Model_meetings_36
  refine RO_iadd dc_Model_meetings_36 ?_
  refine RO_bnT (fun x1 => ?_)
  refine RO_istore_n dc_Model_meetings_37 rfl (Nat.le_of_ble_eq_true rfl) ?_
  refine RO_iinc dc_Model_meetings_38 rfl (Nat.le_of_ble_eq_true rfl) ?_
  refine RO_goto (tgt := 16) dc_Model_meetings_41 rfl ?_
  refine RO_sub ?_ (H16 x1 v2 (w32 (v3 + 1)) mem)
  exact ⟨rfl, rfl, rfl, rfl, trivial⟩
def bo_Model_meetings_16  (k4 : Int → Int → Mm → Res) (k16 : Int → Int → Int → Mm → Res) (v1 : Int) (v2 : Int) (v3 : Int) (mem : Mm) : Res := if v3 < v2 then (bd (fn_Model_firstMeeting v2 v3 mem) fun r1 m2 => if r1 < 0 then (bo_Model_meetings_36 k4 k16 v2 v3 v1 0 m2) else (bo_Model_meetings_36 k4 k16 v2 v3 v1 1 m2)) else (bo_Model_meetings_44 k4 v1 v2 mem)
set_option maxHeartbeats 4000000 in
theorem rb_Model_meetings_16 {E : EE}   (k4 : Int → Int → Mm → Res) (k16 : Int → Int → Int → Mm → Res) (H4 : ∀ (v1 : Int) (v2 : Int)  (mem : Mm), RO E mt_Model_meetings (k4 v1 v2 mem) 4 [(0, rf 203), (1, vi v1), (2, vi v2)] [] mem) (H16 : ∀ (v1 : Int) (v2 : Int) (v3 : Int)  (mem : Mm), RO E mt_Model_meetings (k16 v1 v2 v3 mem) 16 [(0, rf 203), (1, vi v1), (2, vi v2), (3, vi v3)] [] mem) (v1 : Int) (v2 : Int) (v3 : Int)  (mem : Mm) : RO E mt_Model_meetings (bo_Model_meetings_16  k4 k16 v1 v2 v3 mem) 16 [(0, rf 203), (1, vi v1), (2, vi v2), (3, vi v3)] [] mem := by
  unfold bo_Model_meetings_16
  refine RO_iload_n dc_Model_meetings_16 rfl rfl ?_
  refine RO_iload_n dc_Model_meetings_17 rfl rfl ?_
  refine RO_icmp_ge (tgt := 44) dc_Model_meetings_18 rfl ?_ ?_
  · refine RO_iload_n dc_Model_meetings_21 rfl rfl ?_
    refine RO_aload_n dc_Model_meetings_22 rfl rfl ?_
    refine RO_iload_n dc_Model_meetings_23 rfl rfl ?_
    refine RO_iload_n dc_Model_meetings_24 rfl rfl ?_
    refine RO_callVi (As := [vi v2, vi v3]) (rest := [vi v1]) mi_Model_firstMeeting mv_Model_firstMeeting ml_Model_479 lk_203 (Nat.le_of_ble_eq_true rfl) rfl (Nat.le_of_ble_eq_true rfl) (fun _ => rfl) dc_Model_meetings_25 (fun rq mq hq => pf_Model_firstMeeting v2 v3  mem hq) (fun r1 m2 => ?_)
    refine RO_if_lt (tgt := 35) dc_Model_meetings_28 rfl ?_ ?_
    · refine RO_iconst dc_Model_meetings_35 ?_
      refine RO_sub ?_ (rb_Model_meetings_36 k4 k16 H4 H16 v2 v3 v1 0 m2)
      exact ⟨rfl, rfl, rfl, trivial⟩
    · refine RO_iconst dc_Model_meetings_31 ?_
      refine RO_goto (tgt := 36) dc_Model_meetings_32 rfl ?_
      refine RO_sub ?_ (rb_Model_meetings_36 k4 k16 H4 H16 v2 v3 v1 1 m2)
      exact ⟨rfl, rfl, rfl, trivial⟩
  · refine RO_sub ?_ (rb_Model_meetings_44 k4 H4 v1 v2 mem)
    exact ⟨rfl, rfl, rfl, trivial⟩
def lp_Model_meetings_16  (k4 : Int → Int → Mm → Res) : Nat → Int → Int → Int → Mm → Res
  | 0 => fun _ _ _ _ => none
  | n + 1 => bo_Model_meetings_16  k4 (lp_Model_meetings_16  k4 n)
theorem rp_Model_meetings_16 {E : EE}   (k4 : Int → Int → Mm → Res) (H4 : ∀ (v1 : Int) (v2 : Int)  (mem : Mm), RO E mt_Model_meetings (k4 v1 v2 mem) 4 [(0, rf 203), (1, vi v1), (2, vi v2)] [] mem) : ∀ (n : Nat) (v1 : Int) (v2 : Int) (v3 : Int)  (mem : Mm), RO E mt_Model_meetings (lp_Model_meetings_16  k4 n v1 v2 v3 mem) 16 [(0, rf 203), (1, vi v1), (2, vi v2), (3, vi v3)] [] mem := by
  intro n
  induction n with
  | zero => intro v1 v2 v3  mem; exact RO_none
  | succ n ih => intro v1 v2 v3  mem; exact rb_Model_meetings_16   k4 (lp_Model_meetings_16  k4 n) H4 ih v1 v2 v3  mem
def bo_Model_meetings_4  (k4 : Int → Int → Mm → Res) (v1 : Int) (v2 : Int) (mem : Mm) : Res := if v2 < (mem 205 (1 : Int).toNat) then (lp_Model_meetings_16 k4 FU v1 v2 0 mem) else (some (v1, mem))
set_option maxHeartbeats 4000000 in
theorem rb_Model_meetings_4 {E : EE}   (k4 : Int → Int → Mm → Res) (H4 : ∀ (v1 : Int) (v2 : Int)  (mem : Mm), RO E mt_Model_meetings (k4 v1 v2 mem) 4 [(0, rf 203), (1, vi v1), (2, vi v2)] [] mem) (v1 : Int) (v2 : Int)  (mem : Mm) : RO E mt_Model_meetings (bo_Model_meetings_4  k4 v1 v2 mem) 4 [(0, rf 203), (1, vi v1), (2, vi v2)] [] mem := by
  unfold bo_Model_meetings_4
  refine RO_iload_n dc_Model_meetings_4 rfl rfl ?_
  refine RO_aload_n dc_Model_meetings_5 rfl rfl ?_
  refine RO_getR (b := 205) gf_Model_13 lk_203 rfl dc_Model_meetings_6 ?_
  refine RO_iconst dc_Model_meetings_9 ?_
  refine RO_ia lk_205 ⟨by decide, by decide⟩ dc_Model_meetings_10 ?_
  refine RO_icmp_ge (tgt := 50) dc_Model_meetings_11 rfl ?_ ?_
  · refine RO_iconst dc_Model_meetings_14 ?_
    refine RO_istore_n dc_Model_meetings_15 rfl (Nat.le_of_ble_eq_true rfl) ?_
    refine RO_sub ?_ (rp_Model_meetings_16 k4 H4 FU v1 v2 0 mem)
    exact ⟨rfl, rfl, rfl, rfl, trivial⟩
  · refine RO_iload_n dc_Model_meetings_50 rfl rfl ?_
    exact RO_iret rfl dc_Model_meetings_51
def lp_Model_meetings_4   : Nat → Int → Int → Mm → Res
  | 0 => fun _ _ _ => none
  | n + 1 => bo_Model_meetings_4   (lp_Model_meetings_4   n)
theorem rp_Model_meetings_4 {E : EE}     : ∀ (n : Nat) (v1 : Int) (v2 : Int)  (mem : Mm), RO E mt_Model_meetings (lp_Model_meetings_4   n v1 v2 mem) 4 [(0, rf 203), (1, vi v1), (2, vi v2)] [] mem := by
  intro n
  induction n with
  | zero => intro v1 v2  mem; exact RO_none
  | succ n ih => intro v1 v2  mem; exact rb_Model_meetings_4    (lp_Model_meetings_4   n)  ih v1 v2  mem
def fn_Model_meetings  (mem : Mm) : Res := lp_Model_meetings_4 FU 0 0 mem
set_option maxHeartbeats 4000000 in
theorem pf_Model_meetings {E : EE}   (mem : Mm) {r : Int} {mem9 : Mm} (h : fn_Model_meetings  mem = some (r, mem9)) : MetX E 2 yn_Model_meetings cd_Model_meetings 4 (some .int) [rf 203] mem r mem9 := by
  refine RO_met (y := yn_Model_meetings) (by decide +kernel) (Nat.le_of_ble_eq_true rfl) ?_ h
  show RO E mt_Model_meetings (fn_Model_meetings  mem) 0 [(0, rf 203)] [] mem
  unfold fn_Model_meetings
  refine RO_iconst dc_Model_meetings_0 ?_
  refine RO_istore_n dc_Model_meetings_1 rfl (Nat.le_of_ble_eq_true rfl) ?_
  refine RO_iconst dc_Model_meetings_2 ?_
  refine RO_istore_n dc_Model_meetings_3 rfl (Nat.le_of_ble_eq_true rfl) ?_
  refine RO_sub ?_ (rp_Model_meetings_4 FU 0 0 mem)
  exact ⟨rfl, rfl, rfl, trivial⟩
