def bo_Tape_stepOverNumber_68    (mem : Mm) : Res := if 4 < (w32 ((mem 1 8) - (mem 1 7))) then (bn (mst mem 1 6 0) fun m1 => some (0, m1)) else (bn (mst mem 1 6 3) fun m2 => some (0, m2))
set_option maxHeartbeats 4000000 in
theorem rb_Tape_stepOverNumber_68 {E : EE}       (mem : Mm) : RO E mt_Tape_stepOverNumber (bo_Tape_stepOverNumber_68    mem) 68 [(0, rf 1)] [] mem := by
  unfold bo_Tape_stepOverNumber_68
  refine RO_aload_n dc_Tape_stepOverNumber_68 rfl rfl ?_
  refine RO_aload_n dc_Tape_stepOverNumber_69 rfl rfl ?_
  refine RO_getI gf_Tape_28 lk_1 dc_Tape_stepOverNumber_70 ?_
  refine RO_aload_n dc_Tape_stepOverNumber_73 rfl rfl ?_
  refine RO_getI gf_Tape_34 lk_1 dc_Tape_stepOverNumber_74 ?_
  refine RO_isub dc_Tape_stepOverNumber_77 ?_
  refine RO_iconst dc_Tape_stepOverNumber_78 ?_
  refine RO_icmp_gt (tgt := 86) dc_Tape_stepOverNumber_79 rfl ?_ ?_
  · refine RO_iconst dc_Tape_stepOverNumber_86 ?_
    refine RO_putI gp_Tape_41 lk_1 dc_Tape_stepOverNumber_87 ?_
    refine RO_bnM (fun m1 => ?_)
    exact RO_vret rfl dc_Tape_stepOverNumber_90
  · refine RO_iconst dc_Tape_stepOverNumber_82 ?_
    refine RO_goto (tgt := 87) dc_Tape_stepOverNumber_83 rfl ?_
    refine RO_putI gp_Tape_41 lk_1 dc_Tape_stepOverNumber_87 ?_
    refine RO_bnM (fun m2 => ?_)
    exact RO_vret rfl dc_Tape_stepOverNumber_90
def bo_Tape_stepOverNumber_5  (k5 : Mm → Res)  (mem : Mm) : Res := if (mem 1 8) < (mem 1 0) then (if 0 ≤ mem 1 8 ∧ mem 1 8 < 1000 then bd (fn_Tape_isDigit (mem 2 (mem 1 8).toNat) mem) fun r2 m3 => if r2 = 0 then (bo_Tape_stepOverNumber_68 m3) else (if 0 ≤ m3 1 8 ∧ m3 1 8 < 1000 then bn (mst m3 1 4 (w32 ((w32 ((w32 ((m3 1 4) * 10)) + (m3 2 (m3 1 8).toNat))) - 48))) fun m5 => bn (mst m5 1 8 (w32 ((m5 1 8) + 1))) fun m6 => k5 m6 else none) else none) else (bo_Tape_stepOverNumber_68 mem)
set_option maxHeartbeats 4000000 in
theorem rb_Tape_stepOverNumber_5 {E : EE}   (k5 : Mm → Res) (H5 : ∀   (mem : Mm), RO E mt_Tape_stepOverNumber (k5  mem) 5 [(0, rf 1)] [] mem)   (mem : Mm) : RO E mt_Tape_stepOverNumber (bo_Tape_stepOverNumber_5  k5  mem) 5 [(0, rf 1)] [] mem := by
  unfold bo_Tape_stepOverNumber_5
  refine RO_aload_n dc_Tape_stepOverNumber_5 rfl rfl ?_
  refine RO_getI gf_Tape_28 lk_1 dc_Tape_stepOverNumber_6 ?_
  refine RO_aload_n dc_Tape_stepOverNumber_9 rfl rfl ?_
  refine RO_getI gf_Tape_21 lk_1 dc_Tape_stepOverNumber_10 ?_
  refine RO_icmp_ge (tgt := 68) dc_Tape_stepOverNumber_13 rfl ?_ ?_
  · refine RO_aload_n dc_Tape_stepOverNumber_16 rfl rfl ?_
    refine RO_getR (b := 2) gf_Tape_9 lk_1 rfl dc_Tape_stepOverNumber_17 ?_
    refine RO_aload_n dc_Tape_stepOverNumber_20 rfl rfl ?_
    refine RO_getI gf_Tape_28 lk_1 dc_Tape_stepOverNumber_21 ?_
    refine RO_chk (fun hi1 => ?_)
    refine RO_ca lk_2 hi1 dc_Tape_stepOverNumber_24 ?_
    refine RO_callSi (As := [vi (mem 2 (mem 1 8).toNat)]) (rest := []) mi_Tape_isDigit ms_Tape_isDigit ml_Tape_50 (Nat.le_of_ble_eq_true rfl) rfl (Nat.le_of_ble_eq_true rfl) (fun _ => rfl) dc_Tape_stepOverNumber_25 (fun rq mq hq => pf_Tape_isDigit (mem 2 (mem 1 8).toNat)  mem hq) (fun r2 m3 => ?_)
    refine RO_if_eq (tgt := 68) dc_Tape_stepOverNumber_28 rfl ?_ ?_
    · refine RO_sub ?_ (rb_Tape_stepOverNumber_68 m3)
      exact ⟨rfl, trivial⟩
    · refine RO_aload_n dc_Tape_stepOverNumber_31 rfl rfl ?_
      refine RO_aload_n dc_Tape_stepOverNumber_32 rfl rfl ?_
      refine RO_getI gf_Tape_77 lk_1 dc_Tape_stepOverNumber_33 ?_
      refine RO_bipush dc_Tape_stepOverNumber_36 ?_
      refine RO_imul dc_Tape_stepOverNumber_38 ?_
      refine RO_aload_n dc_Tape_stepOverNumber_39 rfl rfl ?_
      refine RO_getR (b := 2) gf_Tape_9 lk_1 rfl dc_Tape_stepOverNumber_40 ?_
      refine RO_aload_n dc_Tape_stepOverNumber_43 rfl rfl ?_
      refine RO_getI gf_Tape_28 lk_1 dc_Tape_stepOverNumber_44 ?_
      refine RO_chk (fun hi4 => ?_)
      refine RO_ca lk_2 hi4 dc_Tape_stepOverNumber_47 ?_
      refine RO_iadd dc_Tape_stepOverNumber_48 ?_
      refine RO_bipush dc_Tape_stepOverNumber_49 ?_
      refine RO_isub dc_Tape_stepOverNumber_51 ?_
      refine RO_putI gp_Tape_77 lk_1 dc_Tape_stepOverNumber_52 ?_
      refine RO_bnM (fun m5 => ?_)
      refine RO_aload_n dc_Tape_stepOverNumber_55 rfl rfl ?_
      refine RO_dup dc_Tape_stepOverNumber_56 (nt2 _) ?_
      refine RO_getI gf_Tape_28 lk_1 dc_Tape_stepOverNumber_57 ?_
      refine RO_iconst dc_Tape_stepOverNumber_60 ?_
      refine RO_iadd dc_Tape_stepOverNumber_61 ?_
      refine RO_putI gp_Tape_28 lk_1 dc_Tape_stepOverNumber_62 ?_
      refine RO_bnM (fun m6 => ?_)
      refine RO_goto (tgt := 5) dc_Tape_stepOverNumber_65 rfl ?_
      refine RO_sub ?_ (H5 m6)
      exact ⟨rfl, trivial⟩
  · refine RO_sub ?_ (rb_Tape_stepOverNumber_68 mem)
    exact ⟨rfl, trivial⟩
def lp_Tape_stepOverNumber_5   : Nat → Mm → Res
  | 0 => fun _ => none
  | n + 1 => bo_Tape_stepOverNumber_5   (lp_Tape_stepOverNumber_5   n)
theorem rp_Tape_stepOverNumber_5 {E : EE}     : ∀ (n : Nat)   (mem : Mm), RO E mt_Tape_stepOverNumber (lp_Tape_stepOverNumber_5   n  mem) 5 [(0, rf 1)] [] mem := by
  intro n
  induction n with
  | zero => intro   mem; exact RO_none
  | succ n ih => intro   mem; exact rb_Tape_stepOverNumber_5    (lp_Tape_stepOverNumber_5   n)  ih   mem
def fn_Tape_stepOverNumber  (mem : Mm) : Res := bn (mst mem 1 4 0) fun m1 => lp_Tape_stepOverNumber_5 FU m1
set_option maxHeartbeats 4000000 in
theorem pf_Tape_stepOverNumber {E : EE}   (mem : Mm) {r : Int} {mem9 : Mm} (h : fn_Tape_stepOverNumber  mem = some (r, mem9)) : MetX E 2 yn_Tape_stepOverNumber cd_Tape_stepOverNumber 1 none [rf 1] mem r mem9 := by
  refine RO_met (y := yn_Tape_stepOverNumber) (by decide +kernel) (Nat.le_of_ble_eq_true rfl) ?_ h
  show RO E mt_Tape_stepOverNumber (fn_Tape_stepOverNumber  mem) 0 [(0, rf 1)] [] mem
  unfold fn_Tape_stepOverNumber
  refine RO_aload_n dc_Tape_stepOverNumber_0 rfl rfl ?_
  refine RO_iconst dc_Tape_stepOverNumber_1 ?_
  refine RO_putI gp_Tape_77 lk_1 dc_Tape_stepOverNumber_2 ?_
  refine RO_bnM (fun m1 => ?_)
  refine RO_sub ?_ (rp_Tape_stepOverNumber_5 FU m1)
  exact ⟨rfl, trivial⟩
def fn_Tape_isName  (mem : Mm) : Res := if (mem 1 6) = 2 then (if (mem 1 2) = -1 then (some (1, mem)) else (if (mem 1 2) ≠ -1 then bd (fn_Word_isFact (mem 1 2) mem) fun r1 m2 => if r1 = 0 then (some (0, m2)) else (some (1, m2)) else none)) else (some (0, mem))
set_option maxHeartbeats 4000000 in
theorem pf_Tape_isName {E : EE}   (mem : Mm) {r : Int} {mem9 : Mm} (h : fn_Tape_isName  mem = some (r, mem9)) : MetX E 2 yn_Tape_isName cd_Tape_isName 1 (some .boolean) [rf 1] mem r mem9 := by
  refine RO_met (y := yn_Tape_isName) (by decide +kernel) (Nat.le_of_ble_eq_true rfl) ?_ h
  show RO E mt_Tape_isName (fn_Tape_isName  mem) 0 [(0, rf 1)] [] mem
  unfold fn_Tape_isName
  refine RO_aload_n dc_Tape_isName_0 rfl rfl ?_
  refine RO_getI gf_Tape_41 lk_1 dc_Tape_isName_1 ?_
  refine RO_iconst dc_Tape_isName_4 ?_
  refine RO_icmp_ne (tgt := 29) dc_Tape_isName_5 rfl ?_ ?_
  · refine RO_aload_n dc_Tape_isName_8 rfl rfl ?_
    refine RO_getW gf_Tape_37 lk_1 dc_Tape_isName_9 ?_
    refine RO_ifnull (tgt := 25) dc_Tape_isName_12 rfl ?_ ?_
    · refine RO_iconst dc_Tape_isName_25 ?_
      refine RO_goto (tgt := 30) dc_Tape_isName_26 rfl ?_
      exact RO_zret rfl (Or.inr rfl) dc_Tape_isName_30
    · refine RO_aload_n dc_Tape_isName_15 rfl rfl ?_
      refine RO_getW gf_Tape_37 lk_1 dc_Tape_isName_16 ?_
      refine RO_chk (fun hw3 => ?_)
      refine RO_callW (rest := []) mi_Word_isFact mw_Word_isFact ml_Tape_80 hw3 (Nat.le_of_ble_eq_true rfl) (Nat.le_of_ble_eq_true rfl) dc_Tape_isName_19 (fun rq mq hq => pf_Word_isFact (mem 1 2)  mem hq) (fun r1 m2 => ?_)
      refine RO_if_eq (tgt := 29) dc_Tape_isName_22 rfl ?_ ?_
      · refine RO_iconst dc_Tape_isName_29 ?_
        exact RO_zret rfl (Or.inl rfl) dc_Tape_isName_30
      · refine RO_iconst dc_Tape_isName_25 ?_
        refine RO_goto (tgt := 30) dc_Tape_isName_26 rfl ?_
        exact RO_zret rfl (Or.inr rfl) dc_Tape_isName_30
  · refine RO_iconst dc_Tape_isName_29 ?_
    exact RO_zret rfl (Or.inl rfl) dc_Tape_isName_30
def fn_Walk_longestStay (p0 : Nat) (p1 : Int) (mem : Mm) : Res := if 0 ≤ p1 ∧ p1 < 6 then if (mem (p0 + 2) p1.toNat) = (-1) then (bd (fn_Walker_rest p0 mem) fun r2 m3 => some (r2, m3)) else (bd (fn_Walker_rest p0 mem) fun r4 m5 => if 0 ≤ p1 ∧ p1 < 6 then some (imx r4 (m5 (p0 + 3) p1.toNat), m5) else none) else none
set_option maxHeartbeats 4000000 in
theorem pf_Walk_longestStay {E : EE} (p0 : Nat) (p1 : Int) (hk_p0 : ly_k p0 = (9, 8)) (mem : Mm) {r : Int} {mem9 : Mm} (h : fn_Walk_longestStay p0 p1 mem = some (r, mem9)) : MetX E 2 yn_Walk_longestStay cd_Walk_longestStay 2 (some .int) [rf p0, vi p1] mem r mem9 := by
  refine RO_met (y := yn_Walk_longestStay) (by decide +kernel) (Nat.le_of_ble_eq_true rfl) ?_ h
  show RO E mt_Walk_longestStay (fn_Walk_longestStay p0 p1 mem) 0 [(0, rf p0), (1, vi p1)] [] mem
  unfold fn_Walk_longestStay
  refine RO_aload_n dc_Walk_longestStay_0 rfl rfl ?_
  refine RO_getR (b := (p0 + 2)) gf_Walk_103 hk_p0 (by omega) dc_Walk_longestStay_1 ?_
  refine RO_iload_n dc_Walk_longestStay_4 rfl rfl ?_
  refine RO_chk (fun hi1 => ?_)
  refine RO_ia (cl_9_6 hk_p0) hi1 dc_Walk_longestStay_5 ?_
  refine RO_iconst dc_Walk_longestStay_6 ?_
  refine RO_icmp_ne (tgt := 17) dc_Walk_longestStay_7 rfl ?_ ?_
  · refine RO_aload_n dc_Walk_longestStay_10 rfl rfl ?_
    refine RO_callVi (As := []) (rest := []) mi_Walker_rest mv_Walker_rest ml_Walk_106 hk_p0 (Nat.le_of_ble_eq_true rfl) rfl (Nat.le_of_ble_eq_true rfl) (fun _ => rfl) dc_Walk_longestStay_11 (fun rq mq hq => pf_Walker_rest p0 hk_p0 mem hq) (fun r2 m3 => ?_)
    refine RO_goto (tgt := 30) dc_Walk_longestStay_14 rfl ?_
    exact RO_iret rfl dc_Walk_longestStay_30
  · refine RO_aload_n dc_Walk_longestStay_17 rfl rfl ?_
    refine RO_callVi (As := []) (rest := []) mi_Walker_rest mv_Walker_rest ml_Walk_106 hk_p0 (Nat.le_of_ble_eq_true rfl) rfl (Nat.le_of_ble_eq_true rfl) (fun _ => rfl) dc_Walk_longestStay_18 (fun rq mq hq => pf_Walker_rest p0 hk_p0 mem hq) (fun r4 m5 => ?_)
    refine RO_aload_n dc_Walk_longestStay_21 rfl rfl ?_
    refine RO_getR (b := (p0 + 3)) gf_Walk_109 hk_p0 (by omega) dc_Walk_longestStay_22 ?_
    refine RO_iload_n dc_Walk_longestStay_25 rfl rfl ?_
    refine RO_chk (fun hi6 => ?_)
    refine RO_ia (cl_9_7 hk_p0) hi6 dc_Walk_longestStay_26 ?_
    refine RO_max mw_max ml_Walk_112 (Nat.le_of_ble_eq_true rfl) (Nat.le_of_ble_eq_true rfl) dc_Walk_longestStay_27 ?_
    exact RO_iret rfl dc_Walk_longestStay_30
def bo_Walk_greetAll_134 (p1 : Int) (k2 : Int → Mm → Res) (v2 : Int) (mem : Mm) : Res := k2 (w32 (v2 + 1)) mem
set_option maxHeartbeats 4000000 in
theorem rb_Walk_greetAll_134 {E : EE} (p1 : Int)  (k2 : Int → Mm → Res) (H2 : ∀ (v2 : Int)  (mem : Mm), RO E mt_Walk_greetAll (k2 v2 mem) 2 [(0, rf 98), (1, vi p1), (2, vi v2)] [] mem) (v2 : Int)  (mem : Mm) : RO E mt_Walk_greetAll (bo_Walk_greetAll_134 p1 k2 v2 mem) 134 [(0, rf 98), (1, vi p1), (2, vi v2)] [] mem := by
  unfold bo_Walk_greetAll_134
  refine RO_iinc dc_Walk_greetAll_134 rfl (Nat.le_of_ble_eq_true rfl) ?_
  refine RO_goto (tgt := 2) dc_Walk_greetAll_137 rfl ?_
  refine RO_sub ?_ (H2 (w32 (v2 + 1)) mem)
  exact ⟨rfl, rfl, rfl, trivial⟩
def bo_Walk_greetAll_2 (p1 : Int) (k2 : Int → Mm → Res) (v2 : Int) (mem : Mm) : Res := if isK 0 (mem 98 0) = true then if v2 < (mem (mem 98 0).toNat 1) then (bd (fn_Walk_isThere v2 mem) fun r2 m3 => if r2 = 0 then (bo_Walk_greetAll_134 p1 k2 v2 m3) else (if 0 ≤ v2 ∧ v2 < 6 then if (m3 103 v2.toNat) = 1000000 then (bo_Walk_greetAll_134 p1 k2 v2 m3) else (if isK 0 (m3 98 0) = true then if 0 ≤ v2 ∧ v2 < 6 then bd (fn_Walk_visitOf v2 m3) fun r9 m10 => if 0 ≤ r9 ∧ r9 < 24 then if 0 ≤ m10 100 r9.toNat ∧ m10 100 r9.toNat < 6 then bn (m10 (((m3 98 0).toNat + 4 * v2.toNat) + 15) (m10 100 r9.toNat).toNat) fun x13 => if x13 = (-1) then (bo_Walk_greetAll_134 p1 k2 v2 m10) else (bd (fn_Walk_isThere x13 m10) fun r14 m15 => if r14 = 0 then (bo_Walk_greetAll_134 p1 k2 v2 m15) else (bd (fn_Walk_visitOf x13 m15) fun r16 m17 => if 0 ≤ r16 ∧ r16 < 24 then if 0 ≤ r9 ∧ r9 < 24 then if (m17 100 r16.toNat) = (m17 100 r9.toNat) then (if 0 ≤ r9 ∧ r9 < 24 then bd (fn_Walker_rest (((m3 98 0).toNat + 4 * v2.toNat) + 13) m17) fun r21 m22 => bn (imx p1 (w32 ((m17 101 r9.toNat) + r21))) fun x23 => if 0 ≤ v2 ∧ v2 < 6 then if 0 ≤ v2 ∧ v2 < 6 then bn (mst m22 103 v2.toNat (imn (m22 103 v2.toNat) x23)) fun m26 => bo_Walk_greetAll_134 p1 k2 v2 m26 else none else none else none) else (bo_Walk_greetAll_134 p1 k2 v2 m17) else none else none)) else none else none else none else none) else none)) else (some (0, mem)) else none
set_option maxHeartbeats 4000000 in
theorem rb_Walk_greetAll_2 {E : EE} (p1 : Int)  (k2 : Int → Mm → Res) (H2 : ∀ (v2 : Int)  (mem : Mm), RO E mt_Walk_greetAll (k2 v2 mem) 2 [(0, rf 98), (1, vi p1), (2, vi v2)] [] mem) (v2 : Int)  (mem : Mm) : RO E mt_Walk_greetAll (bo_Walk_greetAll_2 p1 k2 v2 mem) 2 [(0, rf 98), (1, vi p1), (2, vi v2)] [] mem := by
  unfold bo_Walk_greetAll_2
  refine RO_iload_n dc_Walk_greetAll_2 rfl rfl ?_
  refine RO_aload_n dc_Walk_greetAll_3 rfl rfl ?_
  refine RO_chk (fun hz1 => ?_)
  refine RO_getM gf_Walk_27 lk_98 (isK_0 hz1) dc_Walk_greetAll_4 ?_
  refine RO_getI gf_Walk_39 (kd_0 hz1) dc_Walk_greetAll_7 ?_
  refine RO_icmp_ge (tgt := 140) dc_Walk_greetAll_10 rfl ?_ ?_
  · refine RO_aload_n dc_Walk_greetAll_13 rfl rfl ?_
    refine RO_iload_n dc_Walk_greetAll_14 rfl rfl ?_
    refine RO_callVi (As := [vi v2]) (rest := []) mi_Walk_isThere mv_Walk_isThere ml_Walk_83 lk_98 (Nat.le_of_ble_eq_true rfl) rfl (Nat.le_of_ble_eq_true rfl) (fun _ => rfl) dc_Walk_greetAll_15 (fun rq mq hq => pf_Walk_isThere v2  mem hq) (fun r2 m3 => ?_)
    refine RO_if_eq (tgt := 134) dc_Walk_greetAll_18 rfl ?_ ?_
    · refine RO_sub ?_ (rb_Walk_greetAll_134 p1 k2 H2 v2 m3)
      exact ⟨rfl, rfl, rfl, trivial⟩
    · refine RO_aload_n dc_Walk_greetAll_21 rfl rfl ?_
      refine RO_getR (b := 103) gf_Walk_24 lk_98 rfl dc_Walk_greetAll_22 ?_
      refine RO_iload_n dc_Walk_greetAll_25 rfl rfl ?_
      refine RO_chk (fun hi4 => ?_)
      refine RO_ia lk_103 hi4 dc_Walk_greetAll_26 ?_
      refine RO_ldc (x := 1000000) c1_Walk_62 ⟨by decide, ⟨by decide, by decide⟩⟩ dc_Walk_greetAll_27 ?_
      refine RO_icmp_eq (tgt := 134) dc_Walk_greetAll_29 rfl ?_ ?_
      · refine RO_sub ?_ (rb_Walk_greetAll_134 p1 k2 H2 v2 m3)
        exact ⟨rfl, rfl, rfl, trivial⟩
      · refine RO_aload_n dc_Walk_greetAll_32 rfl rfl ?_
        refine RO_chk (fun hz5 => ?_)
        refine RO_getM gf_Walk_27 lk_98 (isK_0 hz5) dc_Walk_greetAll_33 ?_
        refine RO_getR (b := ((m3 98 0).toNat + 6)) gf_Walk_50 (kd_0 hz5) (by omega) dc_Walk_greetAll_36 ?_
        refine RO_iload_n dc_Walk_greetAll_39 rfl rfl ?_
        refine RO_chk (fun hi6 => ?_)
        have hb7 : ((m3 98 0).toNat + 6) + (raO 18).1 + (raO 18).2 * v2.toNat = (((m3 98 0).toNat + 4 * v2.toNat) + 13) := by show _ + 7 + 4 * _ = _; omega
        have hk8 := el_18 (cl_0_10 (kd_0 hz5)) hi6 hb7
        refine RO_aa (by decide) (cl_0_10 (kd_0 hz5)) hi6 hb7 dc_Walk_greetAll_40 ?_
        refine RO_astore_n dc_Walk_greetAll_41 rfl (Nat.le_of_ble_eq_true rfl) ?_
        refine RO_aload_n dc_Walk_greetAll_42 rfl rfl ?_
        refine RO_iload_n dc_Walk_greetAll_43 rfl rfl ?_
        refine RO_callVi (As := [vi v2]) (rest := []) mi_Walk_visitOf mv_Walk_visitOf ml_Walk_115 lk_98 (Nat.le_of_ble_eq_true rfl) rfl (Nat.le_of_ble_eq_true rfl) (fun _ => rfl) dc_Walk_greetAll_44 (fun rq mq hq => pf_Walk_visitOf v2  m3 hq) (fun r9 m10 => ?_)
        refine RO_istore dc_Walk_greetAll_47 (Nat.le_of_ble_eq_true rfl) ?_
        refine RO_aload_n dc_Walk_greetAll_49 rfl rfl ?_
        refine RO_getR (b := (((m3 98 0).toNat + 4 * v2.toNat) + 15)) gf_Walk_103 hk8 (by omega) dc_Walk_greetAll_50 ?_
        refine RO_aload_n dc_Walk_greetAll_53 rfl rfl ?_
        refine RO_getR (b := 100) gf_Walk_15 lk_98 rfl dc_Walk_greetAll_54 ?_
        refine RO_iload dc_Walk_greetAll_57 rfl ?_
        refine RO_chk (fun hi11 => ?_)
        refine RO_ia lk_100 hi11 dc_Walk_greetAll_59 ?_
        refine RO_chk (fun hi12 => ?_)
        refine RO_ia (cl_9_6 hk8) hi12 dc_Walk_greetAll_60 ?_
        refine RO_bnT (fun x13 => ?_)
        refine RO_istore dc_Walk_greetAll_61 (Nat.le_of_ble_eq_true rfl) ?_
        refine RO_iload dc_Walk_greetAll_63 rfl ?_
        refine RO_iconst dc_Walk_greetAll_65 ?_
        refine RO_icmp_eq (tgt := 134) dc_Walk_greetAll_66 rfl ?_ ?_
        · refine RO_sub ?_ (rb_Walk_greetAll_134 p1 k2 H2 v2 m10)
          exact ⟨rfl, rfl, rfl, trivial⟩
        · refine RO_aload_n dc_Walk_greetAll_69 rfl rfl ?_
          refine RO_iload dc_Walk_greetAll_70 rfl ?_
          refine RO_callVi (As := [vi x13]) (rest := []) mi_Walk_isThere mv_Walk_isThere ml_Walk_83 lk_98 (Nat.le_of_ble_eq_true rfl) rfl (Nat.le_of_ble_eq_true rfl) (fun _ => rfl) dc_Walk_greetAll_72 (fun rq mq hq => pf_Walk_isThere x13  m10 hq) (fun r14 m15 => ?_)
          refine RO_if_eq (tgt := 134) dc_Walk_greetAll_75 rfl ?_ ?_
          · refine RO_sub ?_ (rb_Walk_greetAll_134 p1 k2 H2 v2 m15)
            exact ⟨rfl, rfl, rfl, trivial⟩
          · refine RO_aload_n dc_Walk_greetAll_78 rfl rfl ?_
            refine RO_getR (b := 100) gf_Walk_15 lk_98 rfl dc_Walk_greetAll_79 ?_
            refine RO_aload_n dc_Walk_greetAll_82 rfl rfl ?_
            refine RO_iload dc_Walk_greetAll_83 rfl ?_
            refine RO_callVi (As := [vi x13]) (rest := [rf 100]) mi_Walk_visitOf mv_Walk_visitOf ml_Walk_115 lk_98 (Nat.le_of_ble_eq_true rfl) rfl (Nat.le_of_ble_eq_true rfl) (fun _ => rfl) dc_Walk_greetAll_85 (fun rq mq hq => pf_Walk_visitOf x13  m15 hq) (fun r16 m17 => ?_)
            refine RO_chk (fun hi18 => ?_)
            refine RO_ia lk_100 hi18 dc_Walk_greetAll_88 ?_
            refine RO_aload_n dc_Walk_greetAll_89 rfl rfl ?_
            refine RO_getR (b := 100) gf_Walk_15 lk_98 rfl dc_Walk_greetAll_90 ?_
            refine RO_iload dc_Walk_greetAll_93 rfl ?_
            refine RO_chk (fun hi19 => ?_)
            refine RO_ia lk_100 hi19 dc_Walk_greetAll_95 ?_
            refine RO_icmp_ne (tgt := 134) dc_Walk_greetAll_96 rfl ?_ ?_
            · refine RO_iload_n dc_Walk_greetAll_99 rfl rfl ?_
              refine RO_aload_n dc_Walk_greetAll_100 rfl rfl ?_
              refine RO_getR (b := 101) gf_Walk_18 lk_98 rfl dc_Walk_greetAll_101 ?_
              refine RO_iload dc_Walk_greetAll_104 rfl ?_
              refine RO_chk (fun hi20 => ?_)
              refine RO_ia lk_101 hi20 dc_Walk_greetAll_106 ?_
              refine RO_aload_n dc_Walk_greetAll_107 rfl rfl ?_
              refine RO_callVi (As := []) (rest := [vi (m17 101 r9.toNat), vi p1]) mi_Walker_rest mv_Walker_rest ml_Walk_106 hk8 (Nat.le_of_ble_eq_true rfl) rfl (Nat.le_of_ble_eq_true rfl) (fun _ => rfl) dc_Walk_greetAll_108 (fun rq mq hq => pf_Walker_rest (((m3 98 0).toNat + 4 * v2.toNat) + 13) hk8 m17 hq) (fun r21 m22 => ?_)
              refine RO_iadd dc_Walk_greetAll_111 ?_
              refine RO_max mw_max ml_Walk_112 (Nat.le_of_ble_eq_true rfl) (Nat.le_of_ble_eq_true rfl) dc_Walk_greetAll_112 ?_
              refine RO_bnT (fun x23 => ?_)
              refine RO_istore dc_Walk_greetAll_115 (Nat.le_of_ble_eq_true rfl) ?_
              refine RO_aload_n dc_Walk_greetAll_117 rfl rfl ?_
              refine RO_getR (b := 103) gf_Walk_24 lk_98 rfl dc_Walk_greetAll_118 ?_
              refine RO_iload_n dc_Walk_greetAll_121 rfl rfl ?_
              refine RO_aload_n dc_Walk_greetAll_122 rfl rfl ?_
              refine RO_getR (b := 103) gf_Walk_24 lk_98 rfl dc_Walk_greetAll_123 ?_
              refine RO_iload_n dc_Walk_greetAll_126 rfl rfl ?_
              refine RO_chk (fun hi24 => ?_)
              refine RO_ia lk_103 hi24 dc_Walk_greetAll_127 ?_
              refine RO_iload dc_Walk_greetAll_128 rfl ?_
              refine RO_min mw_min ml_Walk_77 (Nat.le_of_ble_eq_true rfl) (Nat.le_of_ble_eq_true rfl) dc_Walk_greetAll_130 ?_
              refine RO_chk (fun hi25 => ?_)
              refine RO_is lk_103 hi25 dc_Walk_greetAll_133 ?_
              refine RO_bnM (fun m26 => ?_)
              refine RO_sub ?_ (rb_Walk_greetAll_134 p1 k2 H2 v2 m26)
              exact ⟨rfl, rfl, rfl, trivial⟩
            · refine RO_sub ?_ (rb_Walk_greetAll_134 p1 k2 H2 v2 m17)
              exact ⟨rfl, rfl, rfl, trivial⟩
  · exact RO_vret rfl dc_Walk_greetAll_140
def lp_Walk_greetAll_2 (p1 : Int)  : Nat → Int → Mm → Res
  | 0 => fun _ _ => none
  | n + 1 => bo_Walk_greetAll_2 p1  (lp_Walk_greetAll_2 p1  n)
theorem rp_Walk_greetAll_2 {E : EE} (p1 : Int)    : ∀ (n : Nat) (v2 : Int)  (mem : Mm), RO E mt_Walk_greetAll (lp_Walk_greetAll_2 p1  n v2 mem) 2 [(0, rf 98), (1, vi p1), (2, vi v2)] [] mem := by
  intro n
  induction n with
  | zero => intro v2  mem; exact RO_none
  | succ n ih => intro v2  mem; exact rb_Walk_greetAll_2 p1   (lp_Walk_greetAll_2 p1  n)  ih v2  mem
def fn_Walk_greetAll (p1 : Int) (mem : Mm) : Res := lp_Walk_greetAll_2 p1 FU 0 mem
set_option maxHeartbeats 4000000 in
theorem pf_Walk_greetAll {E : EE} (p1 : Int)  (mem : Mm) {r : Int} {mem9 : Mm} (h : fn_Walk_greetAll p1 mem = some (r, mem9)) : MetX E 2 yn_Walk_greetAll cd_Walk_greetAll 7 none [rf 98, vi p1] mem r mem9 := by
  refine RO_met (y := yn_Walk_greetAll) (by decide +kernel) (Nat.le_of_ble_eq_true rfl) ?_ h
  show RO E mt_Walk_greetAll (fn_Walk_greetAll p1 mem) 0 [(0, rf 98), (1, vi p1)] [] mem
  unfold fn_Walk_greetAll
  refine RO_iconst dc_Walk_greetAll_0 ?_
  refine RO_istore_n dc_Walk_greetAll_1 rfl (Nat.le_of_ble_eq_true rfl) ?_
  refine RO_sub ?_ (rp_Walk_greetAll_2 p1 FU 0 mem)
  exact ⟨rfl, rfl, rfl, trivial⟩
def bo_Walk_leaveAll_88 (p1 : Int) (k2 : Int → Mm → Res) (v2 : Int) (mem : Mm) : Res := k2 (w32 (v2 + 1)) mem
set_option maxHeartbeats 4000000 in
theorem rb_Walk_leaveAll_88 {E : EE} (p1 : Int)  (k2 : Int → Mm → Res) (H2 : ∀ (v2 : Int)  (mem : Mm), RO E mt_Walk_leaveAll (k2 v2 mem) 2 [(0, rf 98), (1, vi p1), (2, vi v2)] [] mem) (v2 : Int)  (mem : Mm) : RO E mt_Walk_leaveAll (bo_Walk_leaveAll_88 p1 k2 v2 mem) 88 [(0, rf 98), (1, vi p1), (2, vi v2)] [] mem := by
  unfold bo_Walk_leaveAll_88
  refine RO_iinc dc_Walk_leaveAll_88 rfl (Nat.le_of_ble_eq_true rfl) ?_
  refine RO_goto (tgt := 2) dc_Walk_leaveAll_91 rfl ?_
  refine RO_sub ?_ (H2 (w32 (v2 + 1)) mem)
  exact ⟨rfl, rfl, rfl, trivial⟩
def bo_Walk_leaveAll_2 (p1 : Int) (k2 : Int → Mm → Res) (v2 : Int) (mem : Mm) : Res := if isK 0 (mem 98 0) = true then if v2 < (mem (mem 98 0).toNat 1) then (bd (fn_Walk_isThere v2 mem) fun r2 m3 => if r2 = 0 then (bo_Walk_leaveAll_88 p1 k2 v2 m3) else (if 0 ≤ v2 ∧ v2 < 6 then if (m3 103 v2.toNat) = p1 then (bd (fn_Walk_visitOf v2 m3) fun r5 m6 => if 0 ≤ r5 ∧ r5 < 24 then bn (mst m6 102 r5.toNat p1) fun m8 => bn (mst m8 98 7 (iand (m8 98 7) (ixor (ishl 1 v2) (-1)))) fun m9 => if isK 0 (m9 98 0) = true then if 0 ≤ v2 ∧ v2 < 6 then bd (fn_Walk_nextWay v2 m9) fun r14 m15 => if isK 6 (m15 98 1) = true then bd (fn_Walker_minutesFor (((m9 98 0).toNat + 4 * v2.toNat) + 13) r14 (m15 (m15 98 1).toNat 3) m15) fun r17 m18 => if 0 ≤ v2 ∧ v2 < 6 then bn (mst m18 103 v2.toNat (w32 (p1 + r17))) fun m20 => bo_Walk_leaveAll_88 p1 k2 v2 m20 else none else none else none else none else none) else (bo_Walk_leaveAll_88 p1 k2 v2 m3) else none)) else (some (0, mem)) else none
set_option maxHeartbeats 4000000 in
theorem rb_Walk_leaveAll_2 {E : EE} (p1 : Int)  (k2 : Int → Mm → Res) (H2 : ∀ (v2 : Int)  (mem : Mm), RO E mt_Walk_leaveAll (k2 v2 mem) 2 [(0, rf 98), (1, vi p1), (2, vi v2)] [] mem) (v2 : Int)  (mem : Mm) : RO E mt_Walk_leaveAll (bo_Walk_leaveAll_2 p1 k2 v2 mem) 2 [(0, rf 98), (1, vi p1), (2, vi v2)] [] mem := by
  unfold bo_Walk_leaveAll_2
  refine RO_iload_n dc_Walk_leaveAll_2 rfl rfl ?_
  refine RO_aload_n dc_Walk_leaveAll_3 rfl rfl ?_
  refine RO_chk (fun hz1 => ?_)
  refine RO_getM gf_Walk_27 lk_98 (isK_0 hz1) dc_Walk_leaveAll_4 ?_
  refine RO_getI gf_Walk_39 (kd_0 hz1) dc_Walk_leaveAll_7 ?_
  refine RO_icmp_ge (tgt := 94) dc_Walk_leaveAll_10 rfl ?_ ?_
  · refine RO_aload_n dc_Walk_leaveAll_13 rfl rfl ?_
    refine RO_iload_n dc_Walk_leaveAll_14 rfl rfl ?_
    refine RO_callVi (As := [vi v2]) (rest := []) mi_Walk_isThere mv_Walk_isThere ml_Walk_83 lk_98 (Nat.le_of_ble_eq_true rfl) rfl (Nat.le_of_ble_eq_true rfl) (fun _ => rfl) dc_Walk_leaveAll_15 (fun rq mq hq => pf_Walk_isThere v2  mem hq) (fun r2 m3 => ?_)
    refine RO_if_eq (tgt := 88) dc_Walk_leaveAll_18 rfl ?_ ?_
    · refine RO_sub ?_ (rb_Walk_leaveAll_88 p1 k2 H2 v2 m3)
      exact ⟨rfl, rfl, rfl, trivial⟩
    · refine RO_aload_n dc_Walk_leaveAll_21 rfl rfl ?_
      refine RO_getR (b := 103) gf_Walk_24 lk_98 rfl dc_Walk_leaveAll_22 ?_
      refine RO_iload_n dc_Walk_leaveAll_25 rfl rfl ?_
      refine RO_chk (fun hi4 => ?_)
      refine RO_ia lk_103 hi4 dc_Walk_leaveAll_26 ?_
      refine RO_iload_n dc_Walk_leaveAll_27 rfl rfl ?_
      refine RO_icmp_ne (tgt := 88) dc_Walk_leaveAll_28 rfl ?_ ?_
      · refine RO_aload_n dc_Walk_leaveAll_31 rfl rfl ?_
        refine RO_getR (b := 102) gf_Walk_21 lk_98 rfl dc_Walk_leaveAll_32 ?_
        refine RO_aload_n dc_Walk_leaveAll_35 rfl rfl ?_
        refine RO_iload_n dc_Walk_leaveAll_36 rfl rfl ?_
        refine RO_callVi (As := [vi v2]) (rest := [rf 102]) mi_Walk_visitOf mv_Walk_visitOf ml_Walk_115 lk_98 (Nat.le_of_ble_eq_true rfl) rfl (Nat.le_of_ble_eq_true rfl) (fun _ => rfl) dc_Walk_leaveAll_37 (fun rq mq hq => pf_Walk_visitOf v2  m3 hq) (fun r5 m6 => ?_)
        refine RO_iload_n dc_Walk_leaveAll_40 rfl rfl ?_
        refine RO_chk (fun hi7 => ?_)
        refine RO_is lk_102 hi7 dc_Walk_leaveAll_41 ?_
        refine RO_bnM (fun m8 => ?_)
        refine RO_aload_n dc_Walk_leaveAll_42 rfl rfl ?_
        refine RO_dup dc_Walk_leaveAll_43 (nt2 _) ?_
        refine RO_getI gf_Walk_35 lk_98 dc_Walk_leaveAll_44 ?_
        refine RO_iconst dc_Walk_leaveAll_47 ?_
        refine RO_iload_n dc_Walk_leaveAll_48 rfl rfl ?_
        refine RO_ishl dc_Walk_leaveAll_49 ?_
        refine RO_iconst dc_Walk_leaveAll_50 ?_
        refine RO_ixor dc_Walk_leaveAll_51 ?_
        refine RO_iand dc_Walk_leaveAll_52 ?_
        refine RO_putI gp_Walk_35 lk_98 dc_Walk_leaveAll_53 ?_
        refine RO_bnM (fun m9 => ?_)
        refine RO_aload_n dc_Walk_leaveAll_56 rfl rfl ?_
        refine RO_getR (b := 103) gf_Walk_24 lk_98 rfl dc_Walk_leaveAll_57 ?_
        refine RO_iload_n dc_Walk_leaveAll_60 rfl rfl ?_
        refine RO_iload_n dc_Walk_leaveAll_61 rfl rfl ?_
        refine RO_aload_n dc_Walk_leaveAll_62 rfl rfl ?_
        refine RO_chk (fun hz10 => ?_)
        refine RO_getM gf_Walk_27 lk_98 (isK_0 hz10) dc_Walk_leaveAll_63 ?_
        refine RO_getR (b := ((m9 98 0).toNat + 6)) gf_Walk_50 (kd_0 hz10) (by omega) dc_Walk_leaveAll_66 ?_
        refine RO_iload_n dc_Walk_leaveAll_69 rfl rfl ?_
        refine RO_chk (fun hi11 => ?_)
        have hb12 : ((m9 98 0).toNat + 6) + (raO 18).1 + (raO 18).2 * v2.toNat = (((m9 98 0).toNat + 4 * v2.toNat) + 13) := by show _ + 7 + 4 * _ = _; omega
        have hk13 := el_18 (cl_0_10 (kd_0 hz10)) hi11 hb12
        refine RO_aa (by decide) (cl_0_10 (kd_0 hz10)) hi11 hb12 dc_Walk_leaveAll_70 ?_
        refine RO_aload_n dc_Walk_leaveAll_71 rfl rfl ?_
        refine RO_iload_n dc_Walk_leaveAll_72 rfl rfl ?_
        refine RO_callVi (As := [vi v2]) (rest := [rf (((m9 98 0).toNat + 4 * v2.toNat) + 13), vi p1, vi v2, rf 103]) mi_Walk_nextWay mv_Walk_nextWay ml_Walk_89 lk_98 (Nat.le_of_ble_eq_true rfl) rfl (Nat.le_of_ble_eq_true rfl) (fun _ => rfl) dc_Walk_leaveAll_73 (fun rq mq hq => pf_Walk_nextWay v2  m9 hq) (fun r14 m15 => ?_)
        refine RO_aload_n dc_Walk_leaveAll_76 rfl rfl ?_
        refine RO_chk (fun hz16 => ?_)
        refine RO_getM gf_Walk_31 lk_98 (isK_0 hz16) dc_Walk_leaveAll_77 ?_
        refine RO_getZ gf_Walk_118 (kd_6 hz16) dc_Walk_leaveAll_80 ?_
        refine RO_callVi (As := [vi r14, vi (m15 (m15 98 1).toNat 3)]) (rest := [vi p1, vi v2, rf 103]) mi_Walker_minutesFor mv_Walker_minutesFor ml_Walk_122 hk13 (Nat.le_of_ble_eq_true rfl) rfl (Nat.le_of_ble_eq_true rfl) (fun _ => rfl) dc_Walk_leaveAll_83 (fun rq mq hq => pf_Walker_minutesFor (((m9 98 0).toNat + 4 * v2.toNat) + 13) r14 (m15 (m15 98 1).toNat 3) hk13 m15 hq) (fun r17 m18 => ?_)
        refine RO_iadd dc_Walk_leaveAll_86 ?_
        refine RO_chk (fun hi19 => ?_)
        refine RO_is lk_103 hi19 dc_Walk_leaveAll_87 ?_
        refine RO_bnM (fun m20 => ?_)
        refine RO_sub ?_ (rb_Walk_leaveAll_88 p1 k2 H2 v2 m20)
        exact ⟨rfl, rfl, rfl, trivial⟩
      · refine RO_sub ?_ (rb_Walk_leaveAll_88 p1 k2 H2 v2 m3)
        exact ⟨rfl, rfl, rfl, trivial⟩
  · exact RO_vret rfl dc_Walk_leaveAll_94
def lp_Walk_leaveAll_2 (p1 : Int)  : Nat → Int → Mm → Res
  | 0 => fun _ _ => none
  | n + 1 => bo_Walk_leaveAll_2 p1  (lp_Walk_leaveAll_2 p1  n)
theorem rp_Walk_leaveAll_2 {E : EE} (p1 : Int)    : ∀ (n : Nat) (v2 : Int)  (mem : Mm), RO E mt_Walk_leaveAll (lp_Walk_leaveAll_2 p1  n v2 mem) 2 [(0, rf 98), (1, vi p1), (2, vi v2)] [] mem := by
  intro n
  induction n with
  | zero => intro v2  mem; exact RO_none
  | succ n ih => intro v2  mem; exact rb_Walk_leaveAll_2 p1   (lp_Walk_leaveAll_2 p1  n)  ih v2  mem
def fn_Walk_leaveAll (p1 : Int) (mem : Mm) : Res := lp_Walk_leaveAll_2 p1 FU 0 mem
set_option maxHeartbeats 4000000 in
theorem pf_Walk_leaveAll {E : EE} (p1 : Int)  (mem : Mm) {r : Int} {mem9 : Mm} (h : fn_Walk_leaveAll p1 mem = some (r, mem9)) : MetX E 2 yn_Walk_leaveAll cd_Walk_leaveAll 3 none [rf 98, vi p1] mem r mem9 := by
  refine RO_met (y := yn_Walk_leaveAll) (by decide +kernel) (Nat.le_of_ble_eq_true rfl) ?_ h
  show RO E mt_Walk_leaveAll (fn_Walk_leaveAll p1 mem) 0 [(0, rf 98), (1, vi p1)] [] mem
  unfold fn_Walk_leaveAll
  refine RO_iconst dc_Walk_leaveAll_0 ?_
  refine RO_istore_n dc_Walk_leaveAll_1 rfl (Nat.le_of_ble_eq_true rfl) ?_
  refine RO_sub ?_ (rp_Walk_leaveAll_2 p1 FU 0 mem)
  exact ⟨rfl, rfl, rfl, trivial⟩
def bo_Walk_firstMeeting_47 (p1 : Int) (p2 : Int) (k5 : Int → Int → Mm → Res) (v3 : Int) (v4 : Int) (mem : Mm) : Res := k5 v3 (w32 (v4 + 1)) mem
set_option maxHeartbeats 4000000 in
theorem rb_Walk_firstMeeting_47 {E : EE} (p1 : Int) (p2 : Int)  (k5 : Int → Int → Mm → Res) (H5 : ∀ (v3 : Int) (v4 : Int)  (mem : Mm), RO E mt_Walk_firstMeeting (k5 v3 v4 mem) 5 [(0, rf 98), (1, vi p1), (2, vi p2), (3, vi v3), (4, vi v4)] [] mem) (v3 : Int) (v4 : Int)  (mem : Mm) : RO E mt_Walk_firstMeeting (bo_Walk_firstMeeting_47 p1 p2 k5 v3 v4 mem) 47 [(0, rf 98), (1, vi p1), (2, vi p2), (3, vi v3), (4, vi v4)] [] mem := by
  unfold bo_Walk_firstMeeting_47
  refine RO_iinc dc_Walk_firstMeeting_47 rfl (Nat.le_of_ble_eq_true rfl) ?_
  refine RO_goto (tgt := 5) dc_Walk_firstMeeting_50 rfl ?_
  refine RO_sub ?_ (H5 v3 (w32 (v4 + 1)) mem)
  exact ⟨rfl, rfl, rfl, rfl, rfl, trivial⟩
def bo_Walk_firstMeeting_44 (p1 : Int) (p2 : Int) (k5 : Int → Int → Mm → Res) (v4 : Int) (v5 : Int) (mem : Mm) : Res := bo_Walk_firstMeeting_47 p1 p2 k5 v5 v4 mem
set_option maxHeartbeats 4000000 in
theorem rb_Walk_firstMeeting_44 {E : EE} (p1 : Int) (p2 : Int)  (k5 : Int → Int → Mm → Res) (H5 : ∀ (v3 : Int) (v4 : Int)  (mem : Mm), RO E mt_Walk_firstMeeting (k5 v3 v4 mem) 5 [(0, rf 98), (1, vi p1), (2, vi p2), (3, vi v3), (4, vi v4)] [] mem) (v4 : Int) (v5 : Int)  (mem : Mm) : RO E mt_Walk_firstMeeting (bo_Walk_firstMeeting_44 p1 p2 k5 v4 v5 mem) 44 [(0, rf 98), (1, vi p1), (2, vi p2), (4, vi v4), (5, vi v5)] [] mem := by
  unfold bo_Walk_firstMeeting_44
  refine RO_iload dc_Walk_firstMeeting_44 rfl ?_
  refine RO_istore_n dc_Walk_firstMeeting_46 rfl (Nat.le_of_ble_eq_true rfl) ?_
  refine RO_sub ?_ (rb_Walk_firstMeeting_47 p1 p2 k5 H5 v5 v4 mem)
  exact ⟨rfl, rfl, rfl, rfl, rfl, trivial⟩
def bo_Walk_firstMeeting_5 (p1 : Int) (p2 : Int) (k5 : Int → Int → Mm → Res) (v3 : Int) (v4 : Int) (mem : Mm) : Res := if isK 0 (mem 98 0) = true then if v4 < (mem (mem 98 0).toNat 0) then (bd (fn_Walk_firstMeetingAt p1 p2 v4 mem) fun r2 m3 => if r2 = (-1) then (bo_Walk_firstMeeting_47 p1 p2 k5 v3 v4 m3) else (if v3 = (-1) then (bo_Walk_firstMeeting_44 p1 p2 k5 v4 r2 m3) else (if r2 < v3 then (bo_Walk_firstMeeting_44 p1 p2 k5 v4 r2 m3) else (bo_Walk_firstMeeting_47 p1 p2 k5 v3 v4 m3)))) else (some (v3, mem)) else none
set_option maxHeartbeats 4000000 in
theorem rb_Walk_firstMeeting_5 {E : EE} (p1 : Int) (p2 : Int)  (k5 : Int → Int → Mm → Res) (H5 : ∀ (v3 : Int) (v4 : Int)  (mem : Mm), RO E mt_Walk_firstMeeting (k5 v3 v4 mem) 5 [(0, rf 98), (1, vi p1), (2, vi p2), (3, vi v3), (4, vi v4)] [] mem) (v3 : Int) (v4 : Int)  (mem : Mm) : RO E mt_Walk_firstMeeting (bo_Walk_firstMeeting_5 p1 p2 k5 v3 v4 mem) 5 [(0, rf 98), (1, vi p1), (2, vi p2), (3, vi v3), (4, vi v4)] [] mem := by
  unfold bo_Walk_firstMeeting_5
  refine RO_iload dc_Walk_firstMeeting_5 rfl ?_
  refine RO_aload_n dc_Walk_firstMeeting_7 rfl rfl ?_
  refine RO_chk (fun hz1 => ?_)
  refine RO_getM gf_Walk_27 lk_98 (isK_0 hz1) dc_Walk_firstMeeting_8 ?_
  refine RO_getI gf_Walk_126 (kd_0 hz1) dc_Walk_firstMeeting_11 ?_
  refine RO_icmp_ge (tgt := 53) dc_Walk_firstMeeting_14 rfl ?_ ?_
  · refine RO_aload_n dc_Walk_firstMeeting_17 rfl rfl ?_
    refine RO_iload_n dc_Walk_firstMeeting_18 rfl rfl ?_
    refine RO_iload_n dc_Walk_firstMeeting_19 rfl rfl ?_
    refine RO_iload dc_Walk_firstMeeting_20 rfl ?_
    refine RO_callVi (As := [vi p1, vi p2, vi v4]) (rest := []) mi_Walk_firstMeetingAt mv_Walk_firstMeetingAt ml_Walk_129 lk_98 (Nat.le_of_ble_eq_true rfl) rfl (Nat.le_of_ble_eq_true rfl) (fun _ => rfl) dc_Walk_firstMeeting_22 (fun rq mq hq => pf_Walk_firstMeetingAt p1 p2 v4  mem hq) (fun r2 m3 => ?_)
    refine RO_istore dc_Walk_firstMeeting_25 (Nat.le_of_ble_eq_true rfl) ?_
    refine RO_iload dc_Walk_firstMeeting_27 rfl ?_
    refine RO_iconst dc_Walk_firstMeeting_29 ?_
    refine RO_icmp_eq (tgt := 47) dc_Walk_firstMeeting_30 rfl ?_ ?_
    · refine RO_sub ?_ (rb_Walk_firstMeeting_47 p1 p2 k5 H5 v3 v4 m3)
      exact ⟨rfl, rfl, rfl, rfl, rfl, trivial⟩
    · refine RO_iload_n dc_Walk_firstMeeting_33 rfl rfl ?_
      refine RO_iconst dc_Walk_firstMeeting_34 ?_
      refine RO_icmp_eq (tgt := 44) dc_Walk_firstMeeting_35 rfl ?_ ?_
      · refine RO_sub ?_ (rb_Walk_firstMeeting_44 p1 p2 k5 H5 v4 r2 m3)
        exact ⟨rfl, rfl, rfl, rfl, rfl, trivial⟩
      · refine RO_iload dc_Walk_firstMeeting_38 rfl ?_
        refine RO_iload_n dc_Walk_firstMeeting_40 rfl rfl ?_
        refine RO_icmp_ge (tgt := 47) dc_Walk_firstMeeting_41 rfl ?_ ?_
        · refine RO_sub ?_ (rb_Walk_firstMeeting_44 p1 p2 k5 H5 v4 r2 m3)
          exact ⟨rfl, rfl, rfl, rfl, rfl, trivial⟩
        · refine RO_sub ?_ (rb_Walk_firstMeeting_47 p1 p2 k5 H5 v3 v4 m3)
          exact ⟨rfl, rfl, rfl, rfl, rfl, trivial⟩
  · refine RO_iload_n dc_Walk_firstMeeting_53 rfl rfl ?_
    exact RO_iret rfl dc_Walk_firstMeeting_54
def lp_Walk_firstMeeting_5 (p1 : Int) (p2 : Int)  : Nat → Int → Int → Mm → Res
  | 0 => fun _ _ _ => none
  | n + 1 => bo_Walk_firstMeeting_5 p1 p2  (lp_Walk_firstMeeting_5 p1 p2  n)
theorem rp_Walk_firstMeeting_5 {E : EE} (p1 : Int) (p2 : Int)    : ∀ (n : Nat) (v3 : Int) (v4 : Int)  (mem : Mm), RO E mt_Walk_firstMeeting (lp_Walk_firstMeeting_5 p1 p2  n v3 v4 mem) 5 [(0, rf 98), (1, vi p1), (2, vi p2), (3, vi v3), (4, vi v4)] [] mem := by
  intro n
  induction n with
  | zero => intro v3 v4  mem; exact RO_none
  | succ n ih => intro v3 v4  mem; exact rb_Walk_firstMeeting_5 p1 p2   (lp_Walk_firstMeeting_5 p1 p2  n)  ih v3 v4  mem
def fn_Walk_firstMeeting (p1 : Int) (p2 : Int) (mem : Mm) : Res := lp_Walk_firstMeeting_5 p1 p2 FU (-1) 0 mem
set_option maxHeartbeats 4000000 in
theorem pf_Walk_firstMeeting {E : EE} (p1 : Int) (p2 : Int)  (mem : Mm) {r : Int} {mem9 : Mm} (h : fn_Walk_firstMeeting p1 p2 mem = some (r, mem9)) : MetX E 2 yn_Walk_firstMeeting cd_Walk_firstMeeting 6 (some .int) [rf 98, vi p1, vi p2] mem r mem9 := by
  refine RO_met (y := yn_Walk_firstMeeting) (by decide +kernel) (Nat.le_of_ble_eq_true rfl) ?_ h
  show RO E mt_Walk_firstMeeting (fn_Walk_firstMeeting p1 p2 mem) 0 [(0, rf 98), (1, vi p1), (2, vi p2)] [] mem
  unfold fn_Walk_firstMeeting
  refine RO_iconst dc_Walk_firstMeeting_0 ?_
  refine RO_istore_n dc_Walk_firstMeeting_1 rfl (Nat.le_of_ble_eq_true rfl) ?_
  refine RO_iconst dc_Walk_firstMeeting_2 ?_
  refine RO_istore dc_Walk_firstMeeting_3 (Nat.le_of_ble_eq_true rfl) ?_
  refine RO_sub ?_ (rp_Walk_firstMeeting_5 p1 p2 FU (-1) 0 mem)
  exact ⟨rfl, rfl, rfl, rfl, rfl, trivial⟩
def fn_Walk_minuteOf (p1 : Int) (mem : Mm) : Res := if isK 6 (mem 98 1) = true then if 0 ≤ p1 ∧ p1 < 6 then if isK 0 (mem 98 0) = true then if 0 ≤ p1 ∧ p1 < 6 then bd (fn_Walk_firstAt (mem ((mem 98 1).toNat + 2) p1.toNat) (mem ((mem 98 0).toNat + 8) p1.toNat) mem) fun r5 m6 => some (r5, m6) else none else none else none else none
set_option maxHeartbeats 4000000 in
theorem pf_Walk_minuteOf {E : EE} (p1 : Int)  (mem : Mm) {r : Int} {mem9 : Mm} (h : fn_Walk_minuteOf p1 mem = some (r, mem9)) : MetX E 2 yn_Walk_minuteOf cd_Walk_minuteOf 2 (some .int) [rf 98, vi p1] mem r mem9 := by
  refine RO_met (y := yn_Walk_minuteOf) (by decide +kernel) (Nat.le_of_ble_eq_true rfl) ?_ h
  show RO E mt_Walk_minuteOf (fn_Walk_minuteOf p1 mem) 0 [(0, rf 98), (1, vi p1)] [] mem
  unfold fn_Walk_minuteOf
  refine RO_aload_n dc_Walk_minuteOf_0 rfl rfl ?_
  refine RO_aload_n dc_Walk_minuteOf_1 rfl rfl ?_
  refine RO_chk (fun hz1 => ?_)
  refine RO_getM gf_Walk_31 lk_98 (isK_0 hz1) dc_Walk_minuteOf_2 ?_
  refine RO_getR (b := ((mem 98 1).toNat + 2)) gf_Walk_133 (kd_6 hz1) (by omega) dc_Walk_minuteOf_5 ?_
  refine RO_iload_n dc_Walk_minuteOf_8 rfl rfl ?_
  refine RO_chk (fun hi2 => ?_)
  refine RO_ia (cl_6_5 (kd_6 hz1)) hi2 dc_Walk_minuteOf_9 ?_
  refine RO_aload_n dc_Walk_minuteOf_10 rfl rfl ?_
  refine RO_chk (fun hz3 => ?_)
  refine RO_getM gf_Walk_27 lk_98 (isK_0 hz3) dc_Walk_minuteOf_11 ?_
  refine RO_getR (b := ((mem 98 0).toNat + 8)) gf_Walk_136 (kd_0 hz3) (by omega) dc_Walk_minuteOf_14 ?_
  refine RO_iload_n dc_Walk_minuteOf_17 rfl rfl ?_
  refine RO_chk (fun hi4 => ?_)
  refine RO_ia (cl_0_12 (kd_0 hz3)) hi4 dc_Walk_minuteOf_18 ?_
  refine RO_callVi (As := [vi (mem ((mem 98 1).toNat + 2) p1.toNat), vi (mem ((mem 98 0).toNat + 8) p1.toNat)]) (rest := []) mi_Walk_firstAt mv_Walk_firstAt ml_Walk_139 lk_98 (Nat.le_of_ble_eq_true rfl) rfl (Nat.le_of_ble_eq_true rfl) (fun _ => rfl) dc_Walk_minuteOf_19 (fun rq mq hq => pf_Walk_firstAt (mem ((mem 98 1).toNat + 2) p1.toNat) (mem ((mem 98 0).toNat + 8) p1.toNat)  mem hq) (fun r5 m6 => ?_)
  exact RO_iret rfl dc_Walk_minuteOf_22
def fn_Walk_offBy (p1 : Int) (p2 : Int) (mem : Mm) : Res := if isK 0 (mem 98 0) = true then if 0 ≤ p1 ∧ p1 < 6 then bd (fn_Walk_firstAt p2 (mem ((mem 98 0).toNat + 8) p1.toNat) mem) fun r3 m4 => if r3 = (-1) then (some (240, m4)) else (if isK 0 (m4 98 0) = true then if 0 ≤ p1 ∧ p1 < 6 then some (iab (w32 (r3 - (m4 ((m4 98 0).toNat + 9) p1.toNat))), m4) else none else none) else none else none
set_option maxHeartbeats 4000000 in
theorem pf_Walk_offBy {E : EE} (p1 : Int) (p2 : Int)  (mem : Mm) {r : Int} {mem9 : Mm} (h : fn_Walk_offBy p1 p2 mem = some (r, mem9)) : MetX E 2 yn_Walk_offBy cd_Walk_offBy 4 (some .int) [rf 98, vi p1, vi p2] mem r mem9 := by
  refine RO_met (y := yn_Walk_offBy) (by decide +kernel) (Nat.le_of_ble_eq_true rfl) ?_ h
  show RO E mt_Walk_offBy (fn_Walk_offBy p1 p2 mem) 0 [(0, rf 98), (1, vi p1), (2, vi p2)] [] mem
  unfold fn_Walk_offBy
  refine RO_aload_n dc_Walk_offBy_0 rfl rfl ?_
  refine RO_iload_n dc_Walk_offBy_1 rfl rfl ?_
  refine RO_aload_n dc_Walk_offBy_2 rfl rfl ?_
  refine RO_chk (fun hz1 => ?_)
  refine RO_getM gf_Walk_27 lk_98 (isK_0 hz1) dc_Walk_offBy_3 ?_
  refine RO_getR (b := ((mem 98 0).toNat + 8)) gf_Walk_136 (kd_0 hz1) (by omega) dc_Walk_offBy_6 ?_
  refine RO_iload_n dc_Walk_offBy_9 rfl rfl ?_
  refine RO_chk (fun hi2 => ?_)
  refine RO_ia (cl_0_12 (kd_0 hz1)) hi2 dc_Walk_offBy_10 ?_
  refine RO_callVi (As := [vi p2, vi (mem ((mem 98 0).toNat + 8) p1.toNat)]) (rest := []) mi_Walk_firstAt mv_Walk_firstAt ml_Walk_139 lk_98 (Nat.le_of_ble_eq_true rfl) rfl (Nat.le_of_ble_eq_true rfl) (fun _ => rfl) dc_Walk_offBy_11 (fun rq mq hq => pf_Walk_firstAt p2 (mem ((mem 98 0).toNat + 8) p1.toNat)  mem hq) (fun r3 m4 => ?_)
  refine RO_istore_n dc_Walk_offBy_14 rfl (Nat.le_of_ble_eq_true rfl) ?_
  refine RO_iload_n dc_Walk_offBy_15 rfl rfl ?_
  refine RO_iconst dc_Walk_offBy_16 ?_
  refine RO_icmp_ne (tgt := 26) dc_Walk_offBy_17 rfl ?_ ?_
  · refine RO_sipush dc_Walk_offBy_20 ?_
    refine RO_goto (tgt := 40) dc_Walk_offBy_23 rfl ?_
    exact RO_iret rfl dc_Walk_offBy_40
  · refine RO_iload_n dc_Walk_offBy_26 rfl rfl ?_
    refine RO_aload_n dc_Walk_offBy_27 rfl rfl ?_
    refine RO_chk (fun hz5 => ?_)
    refine RO_getM gf_Walk_27 lk_98 (isK_0 hz5) dc_Walk_offBy_28 ?_
    refine RO_getR (b := ((m4 98 0).toNat + 9)) gf_Walk_145 (kd_0 hz5) (by omega) dc_Walk_offBy_31 ?_
    refine RO_iload_n dc_Walk_offBy_34 rfl rfl ?_
    refine RO_chk (fun hi6 => ?_)
    refine RO_ia (cl_0_13 (kd_0 hz5)) hi6 dc_Walk_offBy_35 ?_
    refine RO_isub dc_Walk_offBy_36 ?_
    refine RO_abs mw_abs ml_Walk_148 (Nat.le_of_ble_eq_true rfl) (Nat.le_of_ble_eq_true rfl) dc_Walk_offBy_37 ?_
    exact RO_iret rfl dc_Walk_offBy_40
def fn_Walker_begin (th : Nat) (mem : Mm) : Res := bn (mst mem th 4 0) fun m1 => bd (fn_Arrays_fillI 6 (th + 2) (-1) m1) fun r2 m3 => some (0, m3)
set_option maxHeartbeats 4000000 in
theorem pf_Walker_begin {E : EE} (th : Nat) (hk_th : ly_k th = (9, 8)) (mem : Mm) {r : Int} {mem9 : Mm} (h : fn_Walker_begin th mem = some (r, mem9)) : MetX E 2 yn_Walker_begin cd_Walker_begin 1 none [rf th] mem r mem9 := by
  refine RO_met (y := yn_Walker_begin) (by decide +kernel) (Nat.le_of_ble_eq_true rfl) ?_ h
  show RO E mt_Walker_begin (fn_Walker_begin th mem) 0 [(0, rf th)] [] mem
  unfold fn_Walker_begin
  refine RO_aload_n dc_Walker_begin_0 rfl rfl ?_
  refine RO_iconst dc_Walker_begin_1 ?_
  refine RO_putI gp_Walker_21 hk_th dc_Walker_begin_2 ?_
  refine RO_bnM (fun m1 => ?_)
  refine RO_aload_n dc_Walker_begin_5 rfl rfl ?_
  refine RO_getR (b := (th + 2)) gf_Walker_15 hk_th (by omega) dc_Walker_begin_6 ?_
  refine RO_iconst dc_Walker_begin_9 ?_
  refine RO_callSv (As := [rf (th + 2), vi (-1)]) (rest := []) mi_Arrays_fillI ms_Arrays_fillI ml_Walker_25 (Nat.le_of_ble_eq_true rfl) rfl (Nat.le_of_ble_eq_true rfl) dc_Walker_begin_10 (fun rq mq hq => pf_Arrays_fillI 6 (th + 2) (-1) (cl_9_6 hk_th) m1 hq) (fun r2 m3 => ?_)
  exact RO_vret rfl dc_Walker_begin_13
def fn_String_length  (mem : Mm) : Res := bd (fn_String_coder  mem) fun r1 m2 => some (ishr 8 r1, m2)
set_option maxHeartbeats 4000000 in
theorem pf_String_length {E : EE}   (mem : Mm) {r : Int} {mem9 : Mm} (h : fn_String_length  mem = some (r, mem9)) : MetX E 2 yn_String_length cd_String_length 1 (some .int) [vk 30] mem r mem9 := by
  refine RO_met (y := yn_String_length) (by decide +kernel) (Nat.le_of_ble_eq_true rfl) ?_ h
  show RO E mt_String_length (fn_String_length  mem) 0 [(0, vk 30)] [] mem
  unfold fn_String_length
  refine RO_kload_n dc_String_length_0 rfl rfl ?_
  refine RO_strV gS_9 dc_String_length_1 ?_
  refine RO_lenS dc_String_length_4 ?_
  refine RO_kload_n dc_String_length_5 rfl rfl ?_
  refine RO_callK (As := []) (rest := [vi 8]) mi_String_coder mk_String_coder ml_String_335 (Nat.le_of_ble_eq_true rfl) rfl (Nat.le_of_ble_eq_true rfl) (fun _ => rfl) dc_String_length_6 (fun rq mq hq => pf_String_coder   mem hq) (fun r1 m2 => ?_)
  refine RO_ishr dc_String_length_9 ?_
  exact RO_iret rfl dc_String_length_10
def fn_StringLatin1_indexOf (p1 : Int) (p2 : Int) (p3 : Int) (mem : Mm) : Res := bd (fn_StringLatin1_canEncode p1 mem) fun r1 m2 => if r1 = 0 then (some ((-1), m2)) else (bn (imx p2 0) fun x3 => bn (imn p3 8) fun x4 => if x3 < x4 then (bd (fn_StringLatin1_indexOfChar p1 x3 x4 m2) fun r5 m6 => some (r5, m6)) else (some ((-1), m2)))
set_option maxHeartbeats 4000000 in
theorem pf_StringLatin1_indexOf {E : EE} (p1 : Int) (p2 : Int) (p3 : Int)  (mem : Mm) {r : Int} {mem9 : Mm} (h : fn_StringLatin1_indexOf p1 p2 p3 mem = some (r, mem9)) : MetX E 2 yn_StringLatin1_indexOf cd_StringLatin1_indexOf 4 (some .int) [vk 31, vi p1, vi p2, vi p3] mem r mem9 := by
  refine RO_met (y := yn_StringLatin1_indexOf) (by decide +kernel) (Nat.le_of_ble_eq_true rfl) ?_ h
  show RO E mt_StringLatin1_indexOf (fn_StringLatin1_indexOf p1 p2 p3 mem) 0 [(0, vk 31), (1, vi p1), (2, vi p2), (3, vi p3)] [] mem
  unfold fn_StringLatin1_indexOf
  refine RO_iload_n dc_StringLatin1_indexOf_0 rfl rfl ?_
  refine RO_callSi (As := [vi p1]) (rest := []) mi_StringLatin1_canEncode ms_StringLatin1_canEncode ml_StringLatin1_88 (Nat.le_of_ble_eq_true rfl) rfl (Nat.le_of_ble_eq_true rfl) (fun _ => rfl) dc_StringLatin1_indexOf_1 (fun rq mq hq => pf_StringLatin1_canEncode p1  mem hq) (fun r1 m2 => ?_)
  refine RO_if_ne (tgt := 9) dc_StringLatin1_indexOf_4 rfl ?_ ?_
  · refine RO_iconst dc_StringLatin1_indexOf_7 ?_
    exact RO_iret rfl dc_StringLatin1_indexOf_8
  · refine RO_iload_n dc_StringLatin1_indexOf_9 rfl rfl ?_
    refine RO_iconst dc_StringLatin1_indexOf_10 ?_
    refine RO_max mw_max ml_StringLatin1_92 (Nat.le_of_ble_eq_true rfl) (Nat.le_of_ble_eq_true rfl) dc_StringLatin1_indexOf_11 ?_
    refine RO_bnT (fun x3 => ?_)
    refine RO_istore_n dc_StringLatin1_indexOf_14 rfl (Nat.le_of_ble_eq_true rfl) ?_
    refine RO_iload_n dc_StringLatin1_indexOf_15 rfl rfl ?_
    refine RO_kload_n dc_StringLatin1_indexOf_16 rfl rfl ?_
    refine RO_lenS dc_StringLatin1_indexOf_17 ?_
    refine RO_min mw_min ml_StringLatin1_38 (Nat.le_of_ble_eq_true rfl) (Nat.le_of_ble_eq_true rfl) dc_StringLatin1_indexOf_18 ?_
    refine RO_bnT (fun x4 => ?_)
    refine RO_istore_n dc_StringLatin1_indexOf_21 rfl (Nat.le_of_ble_eq_true rfl) ?_
    refine RO_iload_n dc_StringLatin1_indexOf_22 rfl rfl ?_
    refine RO_iload_n dc_StringLatin1_indexOf_23 rfl rfl ?_
    refine RO_icmp_lt (tgt := 29) dc_StringLatin1_indexOf_24 rfl ?_ ?_
    · refine RO_kload_n dc_StringLatin1_indexOf_29 rfl rfl ?_
      refine RO_iload_n dc_StringLatin1_indexOf_30 rfl rfl ?_
      refine RO_iload_n dc_StringLatin1_indexOf_31 rfl rfl ?_
      refine RO_iload_n dc_StringLatin1_indexOf_32 rfl rfl ?_
      refine RO_callSi (As := [vk 31, vi p1, vi x3, vi x4]) (rest := []) mi_StringLatin1_indexOfChar ms_StringLatin1_indexOfChar ml_StringLatin1_95 (Nat.le_of_ble_eq_true rfl) rfl (Nat.le_of_ble_eq_true rfl) (fun _ => rfl) dc_StringLatin1_indexOf_33 (fun rq mq hq => pf_StringLatin1_indexOfChar p1 x3 x4  m2 hq) (fun r5 m6 => ?_)
      exact RO_iret rfl dc_StringLatin1_indexOf_36
    · refine RO_iconst dc_StringLatin1_indexOf_27 ?_
      exact RO_iret rfl dc_StringLatin1_indexOf_28
def fn_Clock_feed (p1 : Int) (p3 : Int) (p5 : Int) (mem : Mm) : Res := bd (fn_Tape_append p1 mem) fun r1 m2 => bd (fn_Tape_append p3 m2) fun r3 m4 => bd (fn_Tape_append p5 m4) fun r5 m6 => some (m6 1 0, m6)
set_option maxHeartbeats 4000000 in
theorem pf_Clock_feed {E : EE} (p1 : Int) (p3 : Int) (p5 : Int)  (mem : Mm) {r : Int} {mem9 : Mm} (h : fn_Clock_feed p1 p3 p5 mem = some (r, mem9)) : MetX E 3 yn_Clock_feed cd_Clock_feed 7 (some .int) [rf 0, vl p1, vl p3, vl p5] mem r mem9 := by
  refine RO_met (y := yn_Clock_feed) (by decide +kernel) (Nat.le_of_ble_eq_true rfl) ?_ h
  show RO E mt_Clock_feed (fn_Clock_feed p1 p3 p5 mem) 0 [(0, rf 0), (1, vl p1), (3, vl p3), (5, vl p5)] [] mem
  unfold fn_Clock_feed
  refine RO_aload_n dc_Clock_feed_0 rfl rfl ?_
  refine RO_getR (b := 1) gf_Clock_10 lk_0 rfl dc_Clock_feed_1 ?_
  refine RO_lload_n dc_Clock_feed_4 rfl rfl ?_
  refine RO_callVv (As := [vl p1]) (rest := []) mi_Tape_append mv_Tape_append ml_Clock_91 lk_1 (Nat.le_of_ble_eq_true rfl) rfl (Nat.le_of_ble_eq_true rfl) dc_Clock_feed_5 (fun rq mq hq => pf_Tape_append p1  mem hq) (fun r1 m2 => ?_)
  refine RO_aload_n dc_Clock_feed_8 rfl rfl ?_
  refine RO_getR (b := 1) gf_Clock_10 lk_0 rfl dc_Clock_feed_9 ?_
  refine RO_lload_n dc_Clock_feed_12 rfl rfl ?_
  refine RO_callVv (As := [vl p3]) (rest := []) mi_Tape_append mv_Tape_append ml_Clock_91 lk_1 (Nat.le_of_ble_eq_true rfl) rfl (Nat.le_of_ble_eq_true rfl) dc_Clock_feed_13 (fun rq mq hq => pf_Tape_append p3  m2 hq) (fun r3 m4 => ?_)
  refine RO_aload_n dc_Clock_feed_16 rfl rfl ?_
  refine RO_getR (b := 1) gf_Clock_10 lk_0 rfl dc_Clock_feed_17 ?_
  refine RO_lload dc_Clock_feed_20 rfl ?_
  refine RO_callVv (As := [vl p5]) (rest := []) mi_Tape_append mv_Tape_append ml_Clock_91 lk_1 (Nat.le_of_ble_eq_true rfl) rfl (Nat.le_of_ble_eq_true rfl) dc_Clock_feed_22 (fun rq mq hq => pf_Tape_append p5  m4 hq) (fun r5 m6 => ?_)
  refine RO_aload_n dc_Clock_feed_25 rfl rfl ?_
  refine RO_getR (b := 1) gf_Clock_10 lk_0 rfl dc_Clock_feed_26 ?_
  refine RO_getI gf_Clock_95 lk_1 dc_Clock_feed_29 ?_
  exact RO_iret rfl dc_Clock_feed_32
def fn_Clock_late (p1 : Int) (p2 : Int) (mem : Mm) : Res := bd (fn_Clock_isWalker p1 mem) fun r1 m2 => if r1 = 0 then (some (0, m2)) else (if p2 < 0 then (some (0, m2)) else (if 60 < p2 then (some (0, m2)) else (bd (fn_Clock_remember  m2) fun r3 m4 => if 0 ≤ p1 ∧ p1 < 6 then bn (mst m4 84 p1.toNat p2) fun m6 => some (1, m6) else none)))
set_option maxHeartbeats 4000000 in
theorem pf_Clock_late {E : EE} (p1 : Int) (p2 : Int)  (mem : Mm) {r : Int} {mem9 : Mm} (h : fn_Clock_late p1 p2 mem = some (r, mem9)) : MetX E 3 yn_Clock_late cd_Clock_late 3 (some .boolean) [rf 0, vi p1, vi p2] mem r mem9 := by
  refine RO_met (y := yn_Clock_late) (by decide +kernel) (Nat.le_of_ble_eq_true rfl) ?_ h
  show RO E mt_Clock_late (fn_Clock_late p1 p2 mem) 0 [(0, rf 0), (1, vi p1), (2, vi p2)] [] mem
  unfold fn_Clock_late
  refine RO_aload_n dc_Clock_late_0 rfl rfl ?_
  refine RO_iload_n dc_Clock_late_1 rfl rfl ?_
  refine RO_callVi (As := [vi p1]) (rest := []) mi_Clock_isWalker mv_Clock_isWalker ml_Clock_131 lk_0 (Nat.le_of_ble_eq_true rfl) rfl (Nat.le_of_ble_eq_true rfl) (fun _ => rfl) dc_Clock_late_2 (fun rq mq hq => pf_Clock_isWalker p1  mem hq) (fun r1 m2 => ?_)
  refine RO_if_eq (tgt := 18) dc_Clock_late_5 rfl ?_ ?_
  · refine RO_iconst dc_Clock_late_18 ?_
    exact RO_zret rfl (Or.inl rfl) dc_Clock_late_19
  · refine RO_iload_n dc_Clock_late_8 rfl rfl ?_
    refine RO_if_lt (tgt := 18) dc_Clock_late_9 rfl ?_ ?_
    · refine RO_iconst dc_Clock_late_18 ?_
      exact RO_zret rfl (Or.inl rfl) dc_Clock_late_19
    · refine RO_iload_n dc_Clock_late_12 rfl rfl ?_
      refine RO_bipush dc_Clock_late_13 ?_
      refine RO_icmp_le (tgt := 20) dc_Clock_late_15 rfl ?_ ?_
      · refine RO_iconst dc_Clock_late_18 ?_
        exact RO_zret rfl (Or.inl rfl) dc_Clock_late_19
      · refine RO_aload_n dc_Clock_late_20 rfl rfl ?_
        refine RO_callVv (As := []) (rest := []) mi_Clock_remember mv_Clock_remember ml_Clock_198 lk_0 (Nat.le_of_ble_eq_true rfl) rfl (Nat.le_of_ble_eq_true rfl) dc_Clock_late_21 (fun rq mq hq => pf_Clock_remember   m2 hq) (fun r3 m4 => ?_)
        refine RO_aload_n dc_Clock_late_24 rfl rfl ?_
        refine RO_getR (b := 82) gf_Clock_45 lk_0 rfl dc_Clock_late_25 ?_
        refine RO_getR (b := 83) gf_Clock_143 lk_82 rfl dc_Clock_late_28 ?_
        refine RO_getR (b := 84) gf_Clock_149 lk_83 rfl dc_Clock_late_31 ?_
        refine RO_iload_n dc_Clock_late_34 rfl rfl ?_
        refine RO_iload_n dc_Clock_late_35 rfl rfl ?_
        refine RO_chk (fun hi5 => ?_)
        refine RO_is lk_84 hi5 dc_Clock_late_36 ?_
        refine RO_bnM (fun m6 => ?_)
        refine RO_iconst dc_Clock_late_37 ?_
        exact RO_zret rfl (Or.inr rfl) dc_Clock_late_38
def fn_Clock_dies (p1 : Int) (mem : Mm) : Res := bd (fn_Clock_isWalker p1 mem) fun r1 m2 => if r1 = 0 then (some (0, m2)) else (bd (fn_State_lives 83 p1 m2) fun r3 m4 => if r3 = 0 then (some (0, m4)) else (bd (fn_Clock_remember  m4) fun r5 m6 => bd (fn_State_bury 83 p1 m6) fun r7 m8 => some (1, m8)))
set_option maxHeartbeats 4000000 in
theorem pf_Clock_dies {E : EE} (p1 : Int)  (mem : Mm) {r : Int} {mem9 : Mm} (h : fn_Clock_dies p1 mem = some (r, mem9)) : MetX E 3 yn_Clock_dies cd_Clock_dies 2 (some .boolean) [rf 0, vi p1] mem r mem9 := by
  refine RO_met (y := yn_Clock_dies) (by decide +kernel) (Nat.le_of_ble_eq_true rfl) ?_ h
  show RO E mt_Clock_dies (fn_Clock_dies p1 mem) 0 [(0, rf 0), (1, vi p1)] [] mem
  unfold fn_Clock_dies
  refine RO_aload_n dc_Clock_dies_0 rfl rfl ?_
  refine RO_iload_n dc_Clock_dies_1 rfl rfl ?_
  refine RO_callVi (As := [vi p1]) (rest := []) mi_Clock_isWalker mv_Clock_isWalker ml_Clock_131 lk_0 (Nat.le_of_ble_eq_true rfl) rfl (Nat.le_of_ble_eq_true rfl) (fun _ => rfl) dc_Clock_dies_2 (fun rq mq hq => pf_Clock_isWalker p1  mem hq) (fun r1 m2 => ?_)
  refine RO_if_eq (tgt := 22) dc_Clock_dies_5 rfl ?_ ?_
  · refine RO_iconst dc_Clock_dies_22 ?_
    exact RO_zret rfl (Or.inl rfl) dc_Clock_dies_23
  · refine RO_aload_n dc_Clock_dies_8 rfl rfl ?_
    refine RO_getR (b := 82) gf_Clock_45 lk_0 rfl dc_Clock_dies_9 ?_
    refine RO_getR (b := 83) gf_Clock_143 lk_82 rfl dc_Clock_dies_12 ?_
    refine RO_iload_n dc_Clock_dies_15 rfl rfl ?_
    refine RO_callVi (As := [vi p1]) (rest := []) mi_State_lives mv_State_lives ml_Clock_146 lk_83 (Nat.le_of_ble_eq_true rfl) rfl (Nat.le_of_ble_eq_true rfl) (fun _ => rfl) dc_Clock_dies_16 (fun rq mq hq => pf_State_lives 83 p1 lk_83 m2 hq) (fun r3 m4 => ?_)
    refine RO_if_ne (tgt := 24) dc_Clock_dies_19 rfl ?_ ?_
    · refine RO_iconst dc_Clock_dies_22 ?_
      exact RO_zret rfl (Or.inl rfl) dc_Clock_dies_23
    · refine RO_aload_n dc_Clock_dies_24 rfl rfl ?_
      refine RO_callVv (As := []) (rest := []) mi_Clock_remember mv_Clock_remember ml_Clock_198 lk_0 (Nat.le_of_ble_eq_true rfl) rfl (Nat.le_of_ble_eq_true rfl) dc_Clock_dies_25 (fun rq mq hq => pf_Clock_remember   m4 hq) (fun r5 m6 => ?_)
      refine RO_aload_n dc_Clock_dies_28 rfl rfl ?_
      refine RO_getR (b := 82) gf_Clock_45 lk_0 rfl dc_Clock_dies_29 ?_
      refine RO_getR (b := 83) gf_Clock_143 lk_82 rfl dc_Clock_dies_32 ?_
      refine RO_iload_n dc_Clock_dies_35 rfl rfl ?_
      refine RO_callVv (As := [vi p1]) (rest := []) mi_State_bury mv_State_bury ml_Clock_201 lk_83 (Nat.le_of_ble_eq_true rfl) rfl (Nat.le_of_ble_eq_true rfl) dc_Clock_dies_36 (fun rq mq hq => pf_State_bury 83 p1 lk_83 m6 hq) (fun r7 m8 => ?_)
      refine RO_iconst dc_Clock_dies_39 ?_
      exact RO_zret rfl (Or.inr rfl) dc_Clock_dies_40
def fn_Clock_deputy (p1 : Int) (p2 : Int) (mem : Mm) : Res := bd (fn_Clock_isHour p1 mem) fun r1 m2 => if r1 = 0 then (some (0, m2)) else (bd (fn_Clock_isWalker p2 m2) fun r3 m4 => if r3 = 0 then (some (0, m4)) else (if isK 0 (m4 0 2) = true then bd (fn_State_canDepute 83 (m4 0 2).toNat p1 p2 m4) fun r6 m7 => if r6 = 0 then (some (0, m7)) else (bd (fn_Clock_remember  m7) fun r8 m9 => if 0 ≤ p1 ∧ p1 < 6 then bn (mst m9 85 p1.toNat p2) fun m11 => some (1, m11) else none) else none))
set_option maxHeartbeats 4000000 in
theorem pf_Clock_deputy {E : EE} (p1 : Int) (p2 : Int)  (mem : Mm) {r : Int} {mem9 : Mm} (h : fn_Clock_deputy p1 p2 mem = some (r, mem9)) : MetX E 3 yn_Clock_deputy cd_Clock_deputy 3 (some .boolean) [rf 0, vi p1, vi p2] mem r mem9 := by
  refine RO_met (y := yn_Clock_deputy) (by decide +kernel) (Nat.le_of_ble_eq_true rfl) ?_ h
  show RO E mt_Clock_deputy (fn_Clock_deputy p1 p2 mem) 0 [(0, rf 0), (1, vi p1), (2, vi p2)] [] mem
  unfold fn_Clock_deputy
  refine RO_aload_n dc_Clock_deputy_0 rfl rfl ?_
  refine RO_iload_n dc_Clock_deputy_1 rfl rfl ?_
  refine RO_callVi (As := [vi p1]) (rest := []) mi_Clock_isHour mv_Clock_isHour ml_Clock_169 lk_0 (Nat.le_of_ble_eq_true rfl) rfl (Nat.le_of_ble_eq_true rfl) (fun _ => rfl) dc_Clock_deputy_2 (fun rq mq hq => pf_Clock_isHour p1  mem hq) (fun r1 m2 => ?_)
  refine RO_if_eq (tgt := 35) dc_Clock_deputy_5 rfl ?_ ?_
  · refine RO_iconst dc_Clock_deputy_35 ?_
    exact RO_zret rfl (Or.inl rfl) dc_Clock_deputy_36
  · refine RO_aload_n dc_Clock_deputy_8 rfl rfl ?_
    refine RO_iload_n dc_Clock_deputy_9 rfl rfl ?_
    refine RO_callVi (As := [vi p2]) (rest := []) mi_Clock_isWalker mv_Clock_isWalker ml_Clock_131 lk_0 (Nat.le_of_ble_eq_true rfl) rfl (Nat.le_of_ble_eq_true rfl) (fun _ => rfl) dc_Clock_deputy_10 (fun rq mq hq => pf_Clock_isWalker p2  m2 hq) (fun r3 m4 => ?_)
    refine RO_if_eq (tgt := 35) dc_Clock_deputy_13 rfl ?_ ?_
    · refine RO_iconst dc_Clock_deputy_35 ?_
      exact RO_zret rfl (Or.inl rfl) dc_Clock_deputy_36
    · refine RO_aload_n dc_Clock_deputy_16 rfl rfl ?_
      refine RO_getR (b := 82) gf_Clock_45 lk_0 rfl dc_Clock_deputy_17 ?_
      refine RO_getR (b := 83) gf_Clock_143 lk_82 rfl dc_Clock_deputy_20 ?_
      refine RO_aload_n dc_Clock_deputy_23 rfl rfl ?_
      refine RO_chk (fun hz5 => ?_)
      refine RO_getM gf_Clock_28 lk_0 (isK_0 hz5) dc_Clock_deputy_24 ?_
      refine RO_iload_n dc_Clock_deputy_27 rfl rfl ?_
      refine RO_iload_n dc_Clock_deputy_28 rfl rfl ?_
      refine RO_callVi (As := [rf (m4 0 2).toNat, vi p1, vi p2]) (rest := []) mi_State_canDepute mv_State_canDepute ml_Clock_205 lk_83 (Nat.le_of_ble_eq_true rfl) rfl (Nat.le_of_ble_eq_true rfl) (fun _ => rfl) dc_Clock_deputy_29 (fun rq mq hq => pf_State_canDepute 83 (m4 0 2).toNat p1 p2 lk_83 (kd_0 hz5) m4 hq) (fun r6 m7 => ?_)
      refine RO_if_ne (tgt := 37) dc_Clock_deputy_32 rfl ?_ ?_
      · refine RO_iconst dc_Clock_deputy_35 ?_
        exact RO_zret rfl (Or.inl rfl) dc_Clock_deputy_36
      · refine RO_aload_n dc_Clock_deputy_37 rfl rfl ?_
        refine RO_callVv (As := []) (rest := []) mi_Clock_remember mv_Clock_remember ml_Clock_198 lk_0 (Nat.le_of_ble_eq_true rfl) rfl (Nat.le_of_ble_eq_true rfl) dc_Clock_deputy_38 (fun rq mq hq => pf_Clock_remember   m7 hq) (fun r8 m9 => ?_)
        refine RO_aload_n dc_Clock_deputy_41 rfl rfl ?_
        refine RO_getR (b := 82) gf_Clock_45 lk_0 rfl dc_Clock_deputy_42 ?_
        refine RO_getR (b := 83) gf_Clock_143 lk_82 rfl dc_Clock_deputy_45 ?_
        refine RO_getR (b := 85) gf_Clock_172 lk_83 rfl dc_Clock_deputy_48 ?_
        refine RO_iload_n dc_Clock_deputy_51 rfl rfl ?_
        refine RO_iload_n dc_Clock_deputy_52 rfl rfl ?_
        refine RO_chk (fun hi10 => ?_)
        refine RO_is lk_85 hi10 dc_Clock_deputy_53 ?_
        refine RO_bnM (fun m11 => ?_)
        refine RO_iconst dc_Clock_deputy_54 ?_
        exact RO_zret rfl (Or.inr rfl) dc_Clock_deputy_55
def fn_Clock_snow  (mem : Mm) : Res := if (mem 83 3) = 0 then (bd (fn_Clock_remember  mem) fun r1 m2 => bn (mst m2 83 3 1) fun m3 => some (1, m3)) else (some (0, mem))
set_option maxHeartbeats 4000000 in
theorem pf_Clock_snow {E : EE}   (mem : Mm) {r : Int} {mem9 : Mm} (h : fn_Clock_snow  mem = some (r, mem9)) : MetX E 3 yn_Clock_snow cd_Clock_snow 1 (some .boolean) [rf 0] mem r mem9 := by
  refine RO_met (y := yn_Clock_snow) (by decide +kernel) (Nat.le_of_ble_eq_true rfl) ?_ h
  show RO E mt_Clock_snow (fn_Clock_snow  mem) 0 [(0, rf 0)] [] mem
  unfold fn_Clock_snow
  refine RO_aload_n dc_Clock_snow_0 rfl rfl ?_
  refine RO_getR (b := 82) gf_Clock_45 lk_0 rfl dc_Clock_snow_1 ?_
  refine RO_getR (b := 83) gf_Clock_143 lk_82 rfl dc_Clock_snow_4 ?_
  refine RO_getZ gf_Clock_209 lk_83 dc_Clock_snow_7 ?_
  refine RO_if_eq (tgt := 15) dc_Clock_snow_10 rfl ?_ ?_
  · refine RO_aload_n dc_Clock_snow_15 rfl rfl ?_
    refine RO_callVv (As := []) (rest := []) mi_Clock_remember mv_Clock_remember ml_Clock_198 lk_0 (Nat.le_of_ble_eq_true rfl) rfl (Nat.le_of_ble_eq_true rfl) dc_Clock_snow_16 (fun rq mq hq => pf_Clock_remember   mem hq) (fun r1 m2 => ?_)
    refine RO_aload_n dc_Clock_snow_19 rfl rfl ?_
    refine RO_getR (b := 82) gf_Clock_45 lk_0 rfl dc_Clock_snow_20 ?_
    refine RO_getR (b := 83) gf_Clock_143 lk_82 rfl dc_Clock_snow_23 ?_
    refine RO_iconst dc_Clock_snow_26 ?_
    refine RO_putZ gp_Clock_209 lk_83 (Or.inr rfl) dc_Clock_snow_27 ?_
    refine RO_bnM (fun m3 => ?_)
    refine RO_iconst dc_Clock_snow_30 ?_
    exact RO_zret rfl (Or.inr rfl) dc_Clock_snow_31
  · refine RO_iconst dc_Clock_snow_13 ?_
    exact RO_zret rfl (Or.inl rfl) dc_Clock_snow_14
def bo_Clock_mark_27 (p1 : Int) (p2 : Int)   (mem : Mm) : Res := if p2 = 0 then (if 0 ≤ p1 ∧ p1 < 4 then bd (fn_Standing_copy ((11 * p1.toNat) + 111) 82 mem) fun r4 m5 => if 0 ≤ p1 ∧ p1 < 4 then bn (mst m5 ((11 * p1.toNat) + 111) 0 1) fun m9 => some (1, m9) else none else none) else (if 0 ≤ p1 ∧ p1 < 4 then bd (fn_Standing_copy 82 ((11 * p1.toNat) + 111) mem) fun r13 m14 => bn (mst m14 0 9 0) fun m15 => some (1, m15) else none)
set_option maxHeartbeats 4000000 in
theorem rb_Clock_mark_27 {E : EE} (p1 : Int) (p2 : Int)      (mem : Mm) : RO E mt_Clock_mark (bo_Clock_mark_27 p1 p2   mem) 27 [(0, rf 0), (1, vi p1), (2, vi p2)] [] mem := by
  unfold bo_Clock_mark_27
  refine RO_iload_n dc_Clock_mark_27 rfl rfl ?_
  refine RO_if_eq (tgt := 52) dc_Clock_mark_28 rfl ?_ ?_
  · refine RO_aload_n dc_Clock_mark_52 rfl rfl ?_
    refine RO_getR (b := 93) gf_Clock_49 lk_0 rfl dc_Clock_mark_53 ?_
    refine RO_iload_n dc_Clock_mark_56 rfl rfl ?_
    refine RO_chk (fun hi1 => ?_)
    have hb2 : 93 + (raO 16).1 + (raO 16).2 * p1.toNat = ((11 * p1.toNat) + 111) := by show _ + 18 + 11 * _ = _; omega
    have hk3 := el_16 lk_93 hi1 hb2
    refine RO_aa (by decide) lk_93 hi1 hb2 dc_Clock_mark_57 ?_
    refine RO_aload_n dc_Clock_mark_58 rfl rfl ?_
    refine RO_getR (b := 82) gf_Clock_45 lk_0 rfl dc_Clock_mark_59 ?_
    refine RO_callVv (As := [rf 82]) (rest := []) mi_Standing_copy mv_Standing_copy ml_Clock_325 hk3 (Nat.le_of_ble_eq_true rfl) rfl (Nat.le_of_ble_eq_true rfl) dc_Clock_mark_62 (fun rq mq hq => pf_Standing_copy ((11 * p1.toNat) + 111) 82 hk3 lk_82 mem hq) (fun r4 m5 => ?_)
    refine RO_aload_n dc_Clock_mark_65 rfl rfl ?_
    refine RO_getR (b := 93) gf_Clock_49 lk_0 rfl dc_Clock_mark_66 ?_
    refine RO_iload_n dc_Clock_mark_69 rfl rfl ?_
    refine RO_chk (fun hi6 => ?_)
    have hb7 : 93 + (raO 16).1 + (raO 16).2 * p1.toNat = ((11 * p1.toNat) + 111) := by show _ + 18 + 11 * _ = _; omega
    have hk8 := el_16 lk_93 hi6 hb7
    refine RO_aa (by decide) lk_93 hi6 hb7 dc_Clock_mark_70 ?_
    refine RO_iconst dc_Clock_mark_71 ?_
    refine RO_putZ gp_Clock_110 hk8 (Or.inr rfl) dc_Clock_mark_72 ?_
    refine RO_bnM (fun m9 => ?_)
    refine RO_iconst dc_Clock_mark_75 ?_
    exact RO_zret rfl (Or.inr rfl) dc_Clock_mark_76
  · refine RO_aload_n dc_Clock_mark_31 rfl rfl ?_
    refine RO_getR (b := 82) gf_Clock_45 lk_0 rfl dc_Clock_mark_32 ?_
    refine RO_aload_n dc_Clock_mark_35 rfl rfl ?_
    refine RO_getR (b := 93) gf_Clock_49 lk_0 rfl dc_Clock_mark_36 ?_
    refine RO_iload_n dc_Clock_mark_39 rfl rfl ?_
    refine RO_chk (fun hi10 => ?_)
    have hb11 : 93 + (raO 16).1 + (raO 16).2 * p1.toNat = ((11 * p1.toNat) + 111) := by show _ + 18 + 11 * _ = _; omega
    have hk12 := el_16 lk_93 hi10 hb11
    refine RO_aa (by decide) lk_93 hi10 hb11 dc_Clock_mark_40 ?_
    refine RO_callVv (As := [rf ((11 * p1.toNat) + 111)]) (rest := []) mi_Standing_copy mv_Standing_copy ml_Clock_325 lk_82 (Nat.le_of_ble_eq_true rfl) rfl (Nat.le_of_ble_eq_true rfl) dc_Clock_mark_41 (fun rq mq hq => pf_Standing_copy 82 ((11 * p1.toNat) + 111) lk_82 hk12 mem hq) (fun r13 m14 => ?_)
    refine RO_aload_n dc_Clock_mark_44 rfl rfl ?_
    refine RO_iconst dc_Clock_mark_45 ?_
    refine RO_putI gp_Clock_107 lk_0 dc_Clock_mark_46 ?_
    refine RO_bnM (fun m15 => ?_)
    refine RO_goto (tgt := 75) dc_Clock_mark_49 rfl ?_
    refine RO_iconst dc_Clock_mark_75 ?_
    exact RO_zret rfl (Or.inr rfl) dc_Clock_mark_76
def fn_Clock_mark (p1 : Int) (p2 : Int) (mem : Mm) : Res := if p1 < 0 then (some (0, mem)) else (if p1 < 4 then (if p2 = 0 then (bo_Clock_mark_27 p1 p2 mem) else (if 0 ≤ p1 ∧ p1 < 4 then if (mem ((11 * p1.toNat) + 111) 0) = 0 then (some (0, mem)) else (bo_Clock_mark_27 p1 p2 mem) else none)) else (some (0, mem)))
set_option maxHeartbeats 4000000 in
theorem pf_Clock_mark {E : EE} (p1 : Int) (p2 : Int)  (mem : Mm) {r : Int} {mem9 : Mm} (h : fn_Clock_mark p1 p2 mem = some (r, mem9)) : MetX E 3 yn_Clock_mark cd_Clock_mark 3 (some .boolean) [rf 0, vi p1, vi p2] mem r mem9 := by
  refine RO_met (y := yn_Clock_mark) (by decide +kernel) (Nat.le_of_ble_eq_true rfl) ?_ h
  show RO E mt_Clock_mark (fn_Clock_mark p1 p2 mem) 0 [(0, rf 0), (1, vi p1), (2, vi p2)] [] mem
  unfold fn_Clock_mark
  refine RO_iload_n dc_Clock_mark_0 rfl rfl ?_
  refine RO_if_lt (tgt := 25) dc_Clock_mark_1 rfl ?_ ?_
  · refine RO_iconst dc_Clock_mark_25 ?_
    exact RO_zret rfl (Or.inl rfl) dc_Clock_mark_26
  · refine RO_iload_n dc_Clock_mark_4 rfl rfl ?_
    refine RO_iconst dc_Clock_mark_5 ?_
    refine RO_icmp_ge (tgt := 25) dc_Clock_mark_6 rfl ?_ ?_
    · refine RO_iload_n dc_Clock_mark_9 rfl rfl ?_
      refine RO_if_eq (tgt := 27) dc_Clock_mark_10 rfl ?_ ?_
      · refine RO_sub ?_ (rb_Clock_mark_27 p1 p2 mem)
        exact ⟨rfl, rfl, rfl, trivial⟩
      · refine RO_aload_n dc_Clock_mark_13 rfl rfl ?_
        refine RO_getR (b := 93) gf_Clock_49 lk_0 rfl dc_Clock_mark_14 ?_
        refine RO_iload_n dc_Clock_mark_17 rfl rfl ?_
        refine RO_chk (fun hi1 => ?_)
        have hb2 : 93 + (raO 16).1 + (raO 16).2 * p1.toNat = ((11 * p1.toNat) + 111) := by show _ + 18 + 11 * _ = _; omega
        have hk3 := el_16 lk_93 hi1 hb2
        refine RO_aa (by decide) lk_93 hi1 hb2 dc_Clock_mark_18 ?_
        refine RO_getZ gf_Clock_110 hk3 dc_Clock_mark_19 ?_
        refine RO_if_ne (tgt := 27) dc_Clock_mark_22 rfl ?_ ?_
        · refine RO_iconst dc_Clock_mark_25 ?_
          exact RO_zret rfl (Or.inl rfl) dc_Clock_mark_26
        · refine RO_sub ?_ (rb_Clock_mark_27 p1 p2 mem)
          exact ⟨rfl, rfl, rfl, trivial⟩
    · refine RO_iconst dc_Clock_mark_25 ?_
      exact RO_zret rfl (Or.inl rfl) dc_Clock_mark_26
def bo_Clock_mostAlike_68 (p1 : Int) (k12 : Int → Int → Mm → Res) (v2 : Int) (v3 : Int) (mem : Mm) : Res := k12 v2 (w32 (v3 + 1)) mem
set_option maxHeartbeats 4000000 in
theorem rb_Clock_mostAlike_68 {E : EE} (p1 : Int)  (k12 : Int → Int → Mm → Res) (H12 : ∀ (v2 : Int) (v3 : Int)  (mem : Mm), RO E mt_Clock_mostAlike (k12 v2 v3 mem) 12 [(0, rf 0), (1, vi p1), (2, vi v2), (3, vi v3)] [] mem) (v2 : Int) (v3 : Int)  (mem : Mm) : RO E mt_Clock_mostAlike (bo_Clock_mostAlike_68 p1 k12 v2 v3 mem) 68 [(0, rf 0), (1, vi p1), (2, vi v2), (3, vi v3)] [] mem := by
  unfold bo_Clock_mostAlike_68
  refine RO_iinc dc_Clock_mostAlike_68 rfl (Nat.le_of_ble_eq_true rfl) ?_
  refine RO_goto (tgt := 12) dc_Clock_mostAlike_71 rfl ?_
  refine RO_sub ?_ (H12 v2 (w32 (v3 + 1)) mem)
  exact ⟨rfl, rfl, rfl, rfl, trivial⟩
def bo_Clock_mostAlike_12 (p1 : Int) (k12 : Int → Int → Mm → Res) (v2 : Int) (v3 : Int) (mem : Mm) : Res := if v3 < 240 then (bd (fn_Standing_canBe 82 v3 mem) fun r1 m2 => if r1 = 0 then (bo_Clock_mostAlike_68 p1 k12 v2 v3 m2) else (bd (fn_Sight_at p1 v3 m2) fun r3 m4 => if 0 ≤ r3 ∧ r3 < 64 then if 0 ≤ r3 ∧ r3 < 64 then bn (mst m4 107 r3.toNat (w32 ((m4 107 r3.toNat) + 1))) fun m7 => if 0 ≤ r3 ∧ r3 < 64 then bn (imx v2 (m7 107 r3.toNat)) fun x9 => bo_Clock_mostAlike_68 p1 k12 x9 v3 m7 else none else none else none)) else (some (v2, mem))
set_option maxHeartbeats 4000000 in
theorem rb_Clock_mostAlike_12 {E : EE} (p1 : Int)  (k12 : Int → Int → Mm → Res) (H12 : ∀ (v2 : Int) (v3 : Int)  (mem : Mm), RO E mt_Clock_mostAlike (k12 v2 v3 mem) 12 [(0, rf 0), (1, vi p1), (2, vi v2), (3, vi v3)] [] mem) (v2 : Int) (v3 : Int)  (mem : Mm) : RO E mt_Clock_mostAlike (bo_Clock_mostAlike_12 p1 k12 v2 v3 mem) 12 [(0, rf 0), (1, vi p1), (2, vi v2), (3, vi v3)] [] mem := by
  unfold bo_Clock_mostAlike_12
  refine RO_iload_n dc_Clock_mostAlike_12 rfl rfl ?_
  refine RO_sipush dc_Clock_mostAlike_13 ?_
  refine RO_icmp_ge (tgt := 74) dc_Clock_mostAlike_16 rfl ?_ ?_
  · refine RO_aload_n dc_Clock_mostAlike_19 rfl rfl ?_
    refine RO_getR (b := 82) gf_Clock_45 lk_0 rfl dc_Clock_mostAlike_20 ?_
    refine RO_aload_n dc_Clock_mostAlike_23 rfl rfl ?_
    refine RO_getR (b := 104) gf_Clock_74 lk_0 rfl dc_Clock_mostAlike_24 ?_
    refine RO_iload_n dc_Clock_mostAlike_27 rfl rfl ?_
    refine RO_callVi (As := [rf 104, vi v3]) (rest := []) mi_Standing_canBe mv_Standing_canBe ml_Clock_253 lk_82 (Nat.le_of_ble_eq_true rfl) rfl (Nat.le_of_ble_eq_true rfl) (fun _ => rfl) dc_Clock_mostAlike_28 (fun rq mq hq => pf_Standing_canBe 82 v3 lk_82 mem hq) (fun r1 m2 => ?_)
    refine RO_if_eq (tgt := 68) dc_Clock_mostAlike_31 rfl ?_ ?_
    · refine RO_sub ?_ (rb_Clock_mostAlike_68 p1 k12 H12 v2 v3 m2)
      exact ⟨rfl, rfl, rfl, rfl, trivial⟩
    · refine RO_aload_n dc_Clock_mostAlike_34 rfl rfl ?_
      refine RO_getR (b := 104) gf_Clock_74 lk_0 rfl dc_Clock_mostAlike_35 ?_
      refine RO_iload_n dc_Clock_mostAlike_38 rfl rfl ?_
      refine RO_iload_n dc_Clock_mostAlike_39 rfl rfl ?_
      refine RO_callVi (As := [vi p1, vi v3]) (rest := []) mi_Sight_at mv_Sight_at ml_Clock_356 lk_104 (Nat.le_of_ble_eq_true rfl) rfl (Nat.le_of_ble_eq_true rfl) (fun _ => rfl) dc_Clock_mostAlike_40 (fun rq mq hq => pf_Sight_at p1 v3  m2 hq) (fun r3 m4 => ?_)
      refine RO_istore dc_Clock_mostAlike_43 (Nat.le_of_ble_eq_true rfl) ?_
      refine RO_aload_n dc_Clock_mostAlike_45 rfl rfl ?_
      refine RO_getR (b := 107) gf_Clock_78 lk_0 rfl dc_Clock_mostAlike_46 ?_
      refine RO_iload dc_Clock_mostAlike_49 rfl ?_
      refine RO_dup2 dc_Clock_mostAlike_51 (nt0 _) (nt2 _) ?_
      refine RO_chk (fun hi5 => ?_)
      refine RO_ia lk_107 hi5 dc_Clock_mostAlike_52 ?_
      refine RO_iconst dc_Clock_mostAlike_53 ?_
      refine RO_iadd dc_Clock_mostAlike_54 ?_
      refine RO_chk (fun hi6 => ?_)
      refine RO_is lk_107 hi6 dc_Clock_mostAlike_55 ?_
      refine RO_bnM (fun m7 => ?_)
      refine RO_iload_n dc_Clock_mostAlike_56 rfl rfl ?_
      refine RO_aload_n dc_Clock_mostAlike_57 rfl rfl ?_
      refine RO_getR (b := 107) gf_Clock_78 lk_0 rfl dc_Clock_mostAlike_58 ?_
      refine RO_iload dc_Clock_mostAlike_61 rfl ?_
      refine RO_chk (fun hi8 => ?_)
      refine RO_ia lk_107 hi8 dc_Clock_mostAlike_63 ?_
      refine RO_max mw_max ml_Clock_277 (Nat.le_of_ble_eq_true rfl) (Nat.le_of_ble_eq_true rfl) dc_Clock_mostAlike_64 ?_
      refine RO_bnT (fun x9 => ?_)
      refine RO_istore_n dc_Clock_mostAlike_67 rfl (Nat.le_of_ble_eq_true rfl) ?_
      refine RO_sub ?_ (rb_Clock_mostAlike_68 p1 k12 H12 x9 v3 m7)
      exact ⟨rfl, rfl, rfl, rfl, trivial⟩
  · refine RO_iload_n dc_Clock_mostAlike_74 rfl rfl ?_
    exact RO_iret rfl dc_Clock_mostAlike_75
def lp_Clock_mostAlike_12 (p1 : Int)  : Nat → Int → Int → Mm → Res
  | 0 => fun _ _ _ => none
  | n + 1 => bo_Clock_mostAlike_12 p1  (lp_Clock_mostAlike_12 p1  n)
theorem rp_Clock_mostAlike_12 {E : EE} (p1 : Int)    : ∀ (n : Nat) (v2 : Int) (v3 : Int)  (mem : Mm), RO E mt_Clock_mostAlike (lp_Clock_mostAlike_12 p1  n v2 v3 mem) 12 [(0, rf 0), (1, vi p1), (2, vi v2), (3, vi v3)] [] mem := by
  intro n
  induction n with
  | zero => intro v2 v3  mem; exact RO_none
  | succ n ih => intro v2 v3  mem; exact rb_Clock_mostAlike_12 p1   (lp_Clock_mostAlike_12 p1  n)  ih v2 v3  mem
def fn_Clock_mostAlike (p1 : Int) (mem : Mm) : Res := bd (fn_Arrays_fillI 64 107 0 mem) fun r1 m2 => lp_Clock_mostAlike_12 p1 FU 0 0 m2
set_option maxHeartbeats 4000000 in
theorem pf_Clock_mostAlike {E : EE} (p1 : Int)  (mem : Mm) {r : Int} {mem9 : Mm} (h : fn_Clock_mostAlike p1 mem = some (r, mem9)) : MetX E 3 yn_Clock_mostAlike cd_Clock_mostAlike 5 (some .int) [rf 0, vi p1] mem r mem9 := by
  refine RO_met (y := yn_Clock_mostAlike) (by decide +kernel) (Nat.le_of_ble_eq_true rfl) ?_ h
  show RO E mt_Clock_mostAlike (fn_Clock_mostAlike p1 mem) 0 [(0, rf 0), (1, vi p1)] [] mem
  unfold fn_Clock_mostAlike
  refine RO_iconst dc_Clock_mostAlike_0 ?_
  refine RO_istore_n dc_Clock_mostAlike_1 rfl (Nat.le_of_ble_eq_true rfl) ?_
  refine RO_aload_n dc_Clock_mostAlike_2 rfl rfl ?_
  refine RO_getR (b := 107) gf_Clock_78 lk_0 rfl dc_Clock_mostAlike_3 ?_
  refine RO_iconst dc_Clock_mostAlike_6 ?_
  refine RO_callSv (As := [rf 107, vi 0]) (rest := []) mi_Arrays_fillI ms_Arrays_fillI ml_Clock_350 (Nat.le_of_ble_eq_true rfl) rfl (Nat.le_of_ble_eq_true rfl) dc_Clock_mostAlike_7 (fun rq mq hq => pf_Arrays_fillI 64 107 0 lk_107 mem hq) (fun r1 m2 => ?_)
  refine RO_iconst dc_Clock_mostAlike_10 ?_
  refine RO_istore_n dc_Clock_mostAlike_11 rfl (Nat.le_of_ble_eq_true rfl) ?_
  refine RO_sub ?_ (rp_Clock_mostAlike_12 p1 FU 0 0 m2)
  exact ⟨rfl, rfl, rfl, rfl, trivial⟩
def fn_Hills_begin (th : Nat) (mem : Mm) : Res := bn (mst mem th 0 0) fun m1 => bn (mst m1 th 1 0) fun m2 => bn (mst m2 th 2 0) fun m3 => bn (mst m3 th 3 0) fun m4 => bn (mst m4 th 4 0) fun m5 => bd (fn_Arrays_fillI 36 (th + 4) 0 m5) fun r6 m7 => bd (fn_Law_begin (th + 10) m7) fun r8 m9 => some (0, m9)
set_option maxHeartbeats 4000000 in
theorem pf_Hills_begin {E : EE} (th : Nat) (hk_th : ly_k th = (0, 15)) (mem : Mm) {r : Int} {mem9 : Mm} (h : fn_Hills_begin th mem = some (r, mem9)) : MetX E 3 yn_Hills_begin cd_Hills_begin 1 none [rf th] mem r mem9 := by
  refine RO_met (y := yn_Hills_begin) (by decide +kernel) (Nat.le_of_ble_eq_true rfl) ?_ h
  show RO E mt_Hills_begin (fn_Hills_begin th mem) 0 [(0, rf th)] [] mem
  unfold fn_Hills_begin
  refine RO_aload_n dc_Hills_begin_0 rfl rfl ?_
  refine RO_iconst dc_Hills_begin_1 ?_
  refine RO_putI gp_Hills_54 hk_th dc_Hills_begin_2 ?_
  refine RO_bnM (fun m1 => ?_)
  refine RO_aload_n dc_Hills_begin_5 rfl rfl ?_
  refine RO_iconst dc_Hills_begin_6 ?_
  refine RO_putI gp_Hills_58 hk_th dc_Hills_begin_7 ?_
  refine RO_bnM (fun m2 => ?_)
  refine RO_aload_n dc_Hills_begin_10 rfl rfl ?_
  refine RO_iconst dc_Hills_begin_11 ?_
  refine RO_putI gp_Hills_61 hk_th dc_Hills_begin_12 ?_
  refine RO_bnM (fun m3 => ?_)
  refine RO_aload_n dc_Hills_begin_15 rfl rfl ?_
  refine RO_iconst dc_Hills_begin_16 ?_
  refine RO_putI gp_Hills_64 hk_th dc_Hills_begin_17 ?_
  refine RO_bnM (fun m4 => ?_)
  refine RO_aload_n dc_Hills_begin_20 rfl rfl ?_
  refine RO_iconst dc_Hills_begin_21 ?_
  refine RO_putI gp_Hills_67 hk_th dc_Hills_begin_22 ?_
  refine RO_bnM (fun m5 => ?_)
  refine RO_aload_n dc_Hills_begin_25 rfl rfl ?_
  refine RO_getR (b := (th + 4)) gf_Hills_21 hk_th (by omega) dc_Hills_begin_26 ?_
  refine RO_iconst dc_Hills_begin_29 ?_
  refine RO_callSv (As := [rf (th + 4), vi 0]) (rest := []) mi_Arrays_fillI ms_Arrays_fillI ml_Hills_70 (Nat.le_of_ble_eq_true rfl) rfl (Nat.le_of_ble_eq_true rfl) dc_Hills_begin_30 (fun rq mq hq => pf_Arrays_fillI 36 (th + 4) 0 (cl_0_8 hk_th) m5 hq) (fun r6 m7 => ?_)
  refine RO_aload_n dc_Hills_begin_33 rfl rfl ?_
  refine RO_getR (b := (th + 10)) gf_Hills_46 hk_th (by omega) dc_Hills_begin_34 ?_
  refine RO_callVv (As := []) (rest := []) mi_Law_begin mv_Law_begin ml_Hills_76 (cl_0_14 hk_th) (Nat.le_of_ble_eq_true rfl) rfl (Nat.le_of_ble_eq_true rfl) dc_Hills_begin_37 (fun rq mq hq => pf_Law_begin (th + 10) (cl_0_14 hk_th) m7 hq) (fun r8 m9 => ?_)
  exact RO_vret rfl dc_Hills_begin_40
def fn_Lines_can (th : Nat) (p1 : Int) (p2 : Nat) (p3 : Nat) (mem : Mm) : Res := if 0 ≤ p1 ∧ p1 < 30 then swi (mem (th + 1) p1.toNat) 1 [if 0 ≤ p1 ∧ p1 < 30 then bd (fn_State_lives p3 (mem (th + 2) p1.toNat) mem) fun r3 m4 => if r3 = 0 ∨ r3 = 1 then some (r3, m4) else none else none, if 0 ≤ p1 ∧ p1 < 30 then if 0 ≤ p1 ∧ p1 < 30 then bd (fn_State_canDepute p3 p2 (mem (th + 3) p1.toNat) (mem (th + 2) p1.toNat) mem) fun r8 m9 => if r8 = 0 ∨ r8 = 1 then some (r8, m9) else none else none else none, if (mem p3 3) = 0 then (some (1, mem)) else (some (0, mem))] (some (1, mem)) else none
set_option maxHeartbeats 4000000 in
theorem pf_Lines_can {E : EE} (th : Nat) (p1 : Int) (p2 : Nat) (p3 : Nat) (hk_th : ly_k th = (3, 4)) (hk_p2 : ly_k p2 = (0, 15)) (hk_p3 : ly_k p3 = (6, 6)) (mem : Mm) {r : Int} {mem9 : Mm} (h : fn_Lines_can th p1 p2 p3 mem = some (r, mem9)) : MetX E 3 yn_Lines_can cd_Lines_can 4 (some .boolean) [rf th, vi p1, rf p2, rf p3] mem r mem9 := by
  refine RO_met (y := yn_Lines_can) (by decide +kernel) (Nat.le_of_ble_eq_true rfl) ?_ h
  show RO E mt_Lines_can (fn_Lines_can th p1 p2 p3 mem) 0 [(0, rf th), (1, vi p1), (2, rf p2), (3, rf p3)] [] mem
  unfold fn_Lines_can
  refine RO_aload_n dc_Lines_can_0 rfl rfl ?_
  refine RO_getR (b := (th + 1)) gf_Lines_9 hk_th (by omega) dc_Lines_can_1 ?_
  refine RO_iload_n dc_Lines_can_4 rfl rfl ?_
  refine RO_chk (fun hi1 => ?_)
  refine RO_ia (cl_3_1 hk_th) hi1 dc_Lines_can_5 ?_
  refine RO_tab3 (t0 := 32) (t1 := 43) (t2 := 61) (td := 74) dc_Lines_can_6 rfl rfl rfl ?_ ?_ ?_ ?_
  · refine RO_aload_n dc_Lines_can_32 rfl rfl ?_
    refine RO_aload_n dc_Lines_can_33 rfl rfl ?_
    refine RO_getR (b := (th + 2)) gf_Lines_15 hk_th (by omega) dc_Lines_can_34 ?_
    refine RO_iload_n dc_Lines_can_37 rfl rfl ?_
    refine RO_chk (fun hi2 => ?_)
    refine RO_ia (cl_3_2 hk_th) hi2 dc_Lines_can_38 ?_
    refine RO_callVi (As := [vi (mem (th + 2) p1.toNat)]) (rest := []) mi_State_lives mv_State_lives ml_Lines_107 hk_p3 (Nat.le_of_ble_eq_true rfl) rfl (Nat.le_of_ble_eq_true rfl) (fun _ => rfl) dc_Lines_can_39 (fun rq mq hq => pf_State_lives p3 (mem (th + 2) p1.toNat) hk_p3 mem hq) (fun r3 m4 => ?_)
    refine RO_chk (fun hz5 => ?_)
    exact RO_zret rfl hz5 dc_Lines_can_42
  · refine RO_aload_n dc_Lines_can_43 rfl rfl ?_
    refine RO_aload_n dc_Lines_can_44 rfl rfl ?_
    refine RO_aload_n dc_Lines_can_45 rfl rfl ?_
    refine RO_getR (b := (th + 3)) gf_Lines_18 hk_th (by omega) dc_Lines_can_46 ?_
    refine RO_iload_n dc_Lines_can_49 rfl rfl ?_
    refine RO_chk (fun hi6 => ?_)
    refine RO_ia (cl_3_3 hk_th) hi6 dc_Lines_can_50 ?_
    refine RO_aload_n dc_Lines_can_51 rfl rfl ?_
    refine RO_getR (b := (th + 2)) gf_Lines_15 hk_th (by omega) dc_Lines_can_52 ?_
    refine RO_iload_n dc_Lines_can_55 rfl rfl ?_
    refine RO_chk (fun hi7 => ?_)
    refine RO_ia (cl_3_2 hk_th) hi7 dc_Lines_can_56 ?_
    refine RO_callVi (As := [rf p2, vi (mem (th + 3) p1.toNat), vi (mem (th + 2) p1.toNat)]) (rest := []) mi_State_canDepute mv_State_canDepute ml_Lines_112 hk_p3 (Nat.le_of_ble_eq_true rfl) rfl (Nat.le_of_ble_eq_true rfl) (fun _ => rfl) dc_Lines_can_57 (fun rq mq hq => pf_State_canDepute p3 p2 (mem (th + 3) p1.toNat) (mem (th + 2) p1.toNat) hk_p3 hk_p2 mem hq) (fun r8 m9 => ?_)
    refine RO_chk (fun hz10 => ?_)
    exact RO_zret rfl hz10 dc_Lines_can_60
  · refine RO_aload_n dc_Lines_can_61 rfl rfl ?_
    refine RO_getZ gf_Lines_116 hk_p3 dc_Lines_can_62 ?_
    refine RO_if_ne (tgt := 72) dc_Lines_can_65 rfl ?_ ?_
    · refine RO_iconst dc_Lines_can_68 ?_
      refine RO_goto (tgt := 73) dc_Lines_can_69 rfl ?_
      exact RO_zret rfl (Or.inr rfl) dc_Lines_can_73
    · refine RO_iconst dc_Lines_can_72 ?_
      exact RO_zret rfl (Or.inl rfl) dc_Lines_can_73
  · refine RO_iconst dc_Lines_can_74 ?_
    exact RO_zret rfl (Or.inr rfl) dc_Lines_can_75
