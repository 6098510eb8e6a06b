/-! The class's rests: names, the code's rows (printed by mkrests.py), the function. -/
section Rc
def yn_Clock_rests : MethodName := ⟨"HillClock", "rests", "(IIII)I"⟩
abbrev cd_Clock_rests : ByteArray := prog_1_method_26_code
abbrev mt_Clock_rests : MT := ("HillClock", cd_Clock_rests, 8, (some .int), 3)
theorem mi_Clock_isRest : MI yn_Clock_isRest cd_Clock_isRest 6 (some .boolean) 4 := ⟨tb_i6 97 (by decide +kernel) (by decide +kernel), tb_i1 1 (by decide +kernel) (by decide +kernel), by decide +kernel, by decide +kernel, by decide +kernel, by decide⟩
theorem ms_Clock_isRest : Cond.static yn_Clock_isRest ∈ TBL := tb_i6 96 (by decide +kernel) (by decide +kernel)
theorem ml_Clock_311 : Cond.methodLink "HillClock" 311 yn_Clock_isRest ∈ TBL := tb_i6 95 (by decide +kernel) (by decide +kernel)
theorem dc_Clock_rests_0 : decode cd_Clock_rests 0 = .ok (.iload_n 1, 1) := by decide +kernel
theorem dc_Clock_rests_1 : decode cd_Clock_rests 1 = .ok (.ifCond .lt 35, 3) := by decide +kernel
theorem dc_Clock_rests_4 : decode cd_Clock_rests 4 = .ok (.iload_n 1, 1) := by decide +kernel
theorem dc_Clock_rests_5 : decode cd_Clock_rests 5 = .ok (.bipush 9, 2) := by decide +kernel
theorem dc_Clock_rests_7 : decode cd_Clock_rests 7 = .ok (.if_icmp .gt 29, 3) := by decide +kernel
theorem dc_Clock_rests_10 : decode cd_Clock_rests 10 = .ok (.iload_n 2, 1) := by decide +kernel
theorem dc_Clock_rests_11 : decode cd_Clock_rests 11 = .ok (.ifCond .lt 25, 3) := by decide +kernel
theorem dc_Clock_rests_14 : decode cd_Clock_rests 14 = .ok (.iload_n 2, 1) := by decide +kernel
theorem dc_Clock_rests_15 : decode cd_Clock_rests 15 = .ok (.bipush 9, 2) := by decide +kernel
theorem dc_Clock_rests_17 : decode cd_Clock_rests 17 = .ok (.if_icmp .gt 19, 3) := by decide +kernel
theorem dc_Clock_rests_20 : decode cd_Clock_rests 20 = .ok (.iload_n 3, 1) := by decide +kernel
theorem dc_Clock_rests_21 : decode cd_Clock_rests 21 = .ok (.ifCond .lt 15, 3) := by decide +kernel
theorem dc_Clock_rests_24 : decode cd_Clock_rests 24 = .ok (.iload_n 3, 1) := by decide +kernel
theorem dc_Clock_rests_25 : decode cd_Clock_rests 25 = .ok (.bipush 20, 2) := by decide +kernel
theorem dc_Clock_rests_27 : decode cd_Clock_rests 27 = .ok (.if_icmp .gt 9, 3) := by decide +kernel
theorem dc_Clock_rests_30 : decode cd_Clock_rests 30 = .ok (.iload 4, 2) := by decide +kernel
theorem dc_Clock_rests_32 : decode cd_Clock_rests 32 = .ok (.iconst (-1), 1) := by decide +kernel
theorem dc_Clock_rests_33 : decode cd_Clock_rests 33 = .ok (.if_icmp .ge 11, 3) := by decide +kernel
theorem dc_Clock_rests_36 : decode cd_Clock_rests 36 = .ok (.new 308, 3) := by decide +kernel
theorem dc_Clock_rests_39 : decode cd_Clock_rests 39 = .ok (.dup, 1) := by decide +kernel
theorem dc_Clock_rests_40 : decode cd_Clock_rests 40 = .ok (.invokespecial 310, 3) := by decide +kernel
theorem dc_Clock_rests_43 : decode cd_Clock_rests 43 = .ok (.athrow, 1) := by decide +kernel
theorem dc_Clock_rests_44 : decode cd_Clock_rests 44 = .ok (.iconst 0, 1) := by decide +kernel
theorem dc_Clock_rests_45 : decode cd_Clock_rests 45 = .ok (.istore 5, 2) := by decide +kernel
theorem dc_Clock_rests_47 : decode cd_Clock_rests 47 = .ok (.iconst 0, 1) := by decide +kernel
theorem dc_Clock_rests_48 : decode cd_Clock_rests 48 = .ok (.istore 6, 2) := by decide +kernel
theorem dc_Clock_rests_50 : decode cd_Clock_rests 50 = .ok (.iload 6, 2) := by decide +kernel
theorem dc_Clock_rests_52 : decode cd_Clock_rests 52 = .ok (.bipush 9, 2) := by decide +kernel
theorem dc_Clock_rests_54 : decode cd_Clock_rests 54 = .ok (.if_icmp .gt 72, 3) := by decide +kernel
theorem dc_Clock_rests_57 : decode cd_Clock_rests 57 = .ok (.iconst 0, 1) := by decide +kernel
theorem dc_Clock_rests_58 : decode cd_Clock_rests 58 = .ok (.istore 7, 2) := by decide +kernel
theorem dc_Clock_rests_60 : decode cd_Clock_rests 60 = .ok (.iload 7, 2) := by decide +kernel
theorem dc_Clock_rests_62 : decode cd_Clock_rests 62 = .ok (.bipush 9, 2) := by decide +kernel
theorem dc_Clock_rests_64 : decode cd_Clock_rests 64 = .ok (.if_icmp .gt 56, 3) := by decide +kernel
theorem dc_Clock_rests_67 : decode cd_Clock_rests 67 = .ok (.iload_n 1, 1) := by decide +kernel
theorem dc_Clock_rests_68 : decode cd_Clock_rests 68 = .ok (.iload_n 2, 1) := by decide +kernel
theorem dc_Clock_rests_69 : decode cd_Clock_rests 69 = .ok (.isub, 1) := by decide +kernel
theorem dc_Clock_rests_70 : decode cd_Clock_rests 70 = .ok (.iload_n 3, 1) := by decide +kernel
theorem dc_Clock_rests_71 : decode cd_Clock_rests 71 = .ok (.iload 6, 2) := by decide +kernel
theorem dc_Clock_rests_73 : decode cd_Clock_rests 73 = .ok (.iload 7, 2) := by decide +kernel
theorem dc_Clock_rests_75 : decode cd_Clock_rests 75 = .ok (.invokestatic 311, 3) := by decide +kernel
theorem dc_Clock_rests_78 : decode cd_Clock_rests 78 = .ok (.ifCond .eq 36, 3) := by decide +kernel
theorem dc_Clock_rests_81 : decode cd_Clock_rests 81 = .ok (.iload_n 2, 1) := by decide +kernel
theorem dc_Clock_rests_82 : decode cd_Clock_rests 82 = .ok (.iload_n 1, 1) := by decide +kernel
theorem dc_Clock_rests_83 : decode cd_Clock_rests 83 = .ok (.isub, 1) := by decide +kernel
theorem dc_Clock_rests_84 : decode cd_Clock_rests 84 = .ok (.iload_n 3, 1) := by decide +kernel
theorem dc_Clock_rests_85 : decode cd_Clock_rests 85 = .ok (.iload 7, 2) := by decide +kernel
theorem dc_Clock_rests_87 : decode cd_Clock_rests 87 = .ok (.iload 6, 2) := by decide +kernel
theorem dc_Clock_rests_89 : decode cd_Clock_rests 89 = .ok (.invokestatic 311, 3) := by decide +kernel
theorem dc_Clock_rests_92 : decode cd_Clock_rests 92 = .ok (.ifCond .eq 22, 3) := by decide +kernel
theorem dc_Clock_rests_95 : decode cd_Clock_rests 95 = .ok (.iload 5, 2) := by decide +kernel
theorem dc_Clock_rests_97 : decode cd_Clock_rests 97 = .ok (.iload 4, 2) := by decide +kernel
theorem dc_Clock_rests_99 : decode cd_Clock_rests 99 = .ok (.if_icmp .ne 12, 3) := by decide +kernel
theorem dc_Clock_rests_102 : decode cd_Clock_rests 102 = .ok (.bipush 10, 2) := by decide +kernel
theorem dc_Clock_rests_104 : decode cd_Clock_rests 104 = .ok (.iload 6, 2) := by decide +kernel
theorem dc_Clock_rests_106 : decode cd_Clock_rests 106 = .ok (.imul, 1) := by decide +kernel
theorem dc_Clock_rests_107 : decode cd_Clock_rests 107 = .ok (.iload 7, 2) := by decide +kernel
theorem dc_Clock_rests_109 : decode cd_Clock_rests 109 = .ok (.iadd, 1) := by decide +kernel
theorem dc_Clock_rests_110 : decode cd_Clock_rests 110 = .ok (.ireturn, 1) := by decide +kernel
theorem dc_Clock_rests_111 : decode cd_Clock_rests 111 = .ok (.iinc 5 1, 3) := by decide +kernel
theorem dc_Clock_rests_114 : decode cd_Clock_rests 114 = .ok (.iinc 7 1, 3) := by decide +kernel
theorem dc_Clock_rests_117 : decode cd_Clock_rests 117 = .ok (.goto (-57), 3) := by decide +kernel
theorem dc_Clock_rests_120 : decode cd_Clock_rests 120 = .ok (.iinc 6 1, 3) := by decide +kernel
theorem dc_Clock_rests_123 : decode cd_Clock_rests 123 = .ok (.goto (-73), 3) := by decide +kernel
theorem dc_Clock_rests_126 : decode cd_Clock_rests 126 = .ok (.iload 4, 2) := by decide +kernel
theorem dc_Clock_rests_128 : decode cd_Clock_rests 128 = .ok (.iconst (-1), 1) := by decide +kernel
theorem dc_Clock_rests_129 : decode cd_Clock_rests 129 = .ok (.if_icmp .eq 11, 3) := by decide +kernel
theorem dc_Clock_rests_132 : decode cd_Clock_rests 132 = .ok (.new 308, 3) := by decide +kernel
theorem dc_Clock_rests_135 : decode cd_Clock_rests 135 = .ok (.dup, 1) := by decide +kernel
theorem dc_Clock_rests_136 : decode cd_Clock_rests 136 = .ok (.invokespecial 310, 3) := by decide +kernel
theorem dc_Clock_rests_139 : decode cd_Clock_rests 139 = .ok (.athrow, 1) := by decide +kernel
theorem dc_Clock_rests_140 : decode cd_Clock_rests 140 = .ok (.iload 5, 2) := by decide +kernel
theorem dc_Clock_rests_142 : decode cd_Clock_rests 142 = .ok (.ireturn, 1) := by decide +kernel
theorem roomRC {E : EE} : roomG (FY E 6) 2 6 0 0 := fun p e R s m args below meth c h => by
  rw [h.1]
  exact ⟨by show 3 ≤ 6; omega, by show 8 + (6 + 11) + 40 * 2 ≤ 40 * 6; omega, Nat.zero_le _, Nat.zero_le _⟩
def cr60 (p1 p2 p3 p4 : Int) (k50 : Int → Int → Mm → Res) (k60 : Int → Int → Int → Mm → Res) (v5 v6 v7 : Int) (mem : Mm) : Res :=
  if 9 < v7 then k50 v5 (w32 (v6 + 1)) mem else bd (fn_Clock_isRest (w32 (p1 - p2)) p3 v6 v7 mem) fun r1 m2 => if r1 = 0 then k60 v5 v6 (w32 (v7 + 1)) m2 else bd (fn_Clock_isRest (w32 (p2 - p1)) p3 v7 v6 m2) fun r3 m4 => if r3 = 0 then k60 v5 v6 (w32 (v7 + 1)) m4 else (if v5 = p4 then (if w32 (w32 (10 * v6) + v7) ≠ THR then some (w32 (w32 (10 * v6) + v7), m4) else none) else k60 (w32 (v5 + 1)) v6 (w32 (v7 + 1)) m4)
def lq60 (p1 p2 p3 p4 : Int) (k50 : Int → Int → Mm → Res) : Nat → Int → Int → Int → Mm → Res
  | 0 => fun _ _ _ _ => none
  | n + 1 => cr60 p1 p2 p3 p4 k50 (lq60 p1 p2 p3 p4 k50 n)
def cr50 (p1 p2 p3 p4 : Int) (k50 : Int → Int → Mm → Res) (v5 v6 : Int) (mem : Mm) : Res :=
  if 9 < v6 then (if p4 = -1 then (if v5 ≠ THR then some (v5, mem) else none) else some (THR, mem)) else lq60 p1 p2 p3 p4 k50 FU v5 v6 0 mem
def lq50 (p1 p2 p3 p4 : Int) : Nat → Int → Int → Mm → Res
  | 0 => fun _ _ _ => none
  | n + 1 => cr50 p1 p2 p3 p4 (lq50 p1 p2 p3 p4 n)
def fn_Clock_rests (p1 p2 p3 p4 : Int) (mem : Mm) : Res :=
  if p1 < 0 then some (THR, mem) else if 9 < p1 then some (THR, mem) else if p2 < 0 then some (THR, mem) else if 9 < p2 then some (THR, mem) else if p3 < 0 then some (THR, mem) else if 20 < p3 then some (THR, mem) else if p4 < -1 then some (THR, mem) else lq50 p1 p2 p3 p4 FU 0 0 mem
set_option maxHeartbeats 4000000 in
theorem rb_CR60 {E : EE} (p1 p2 p3 p4 : Int) (k50 : Int → Int → Mm → Res) (H50 : ∀ (v5 v6 : Int) (mem : Mm), RG E mt_Clock_rests 0 0 (FY E 6) (ZY E) (k50 v5 v6 mem) 50 [(1, vi p1), (2, vi p2), (3, vi p3), (4, vi p4), (5, vi v5), (6, vi v6)] [] mem) (k60 : Int → Int → Int → Mm → Res) (H60 : ∀ (v5 v6 v7 : Int) (mem : Mm), RG E mt_Clock_rests 0 0 (FY E 6) (ZY E) (k60 v5 v6 v7 mem) 60 [(1, vi p1), (2, vi p2), (3, vi p3), (4, vi p4), (5, vi v5), (6, vi v6), (7, vi v7)] [] mem) (v5 v6 v7 : Int) (mem : Mm) : RG E mt_Clock_rests 0 0 (FY E 6) (ZY E) (cr60 p1 p2 p3 p4 k50 k60 v5 v6 v7 mem) 60 [(1, vi p1), (2, vi p2), (3, vi p3), (4, vi p4), (5, vi v5), (6, vi v6), (7, vi v7)] [] mem := by
  unfold cr60
  refine RG_iload dc_Clock_rests_60 rfl ?_
  refine RG_bipush dc_Clock_rests_62 ?_
  refine RG_icmp_gt (tgt := 120) dc_Clock_rests_64 rfl ?_ ?_
  · refine RG_iinc dc_Clock_rests_120 rfl (Nat.le_of_ble_eq_true rfl) ?_
    refine RG_goto (tgt := 50) dc_Clock_rests_123 rfl ?_
    refine RG_sub ?_ (H50 v5 (w32 (v6 + 1)) mem)
    exact ⟨rfl, rfl, rfl, rfl, rfl, rfl, trivial⟩
  · refine RG_iload_n dc_Clock_rests_67 rfl rfl ?_
    refine RG_iload_n dc_Clock_rests_68 rfl rfl ?_
    refine RG_isub dc_Clock_rests_69 ?_
    refine RG_iload_n dc_Clock_rests_70 rfl rfl ?_
    refine RG_iload dc_Clock_rests_71 rfl ?_
    refine RG_iload dc_Clock_rests_73 rfl ?_
    refine RG_callS (As := [vi (w32 (p1 - p2)), vi p3, vi v6, vi v7]) (rest := []) mi_Clock_isRest ms_Clock_isRest ml_Clock_311 roomRC rfl (Nat.le_of_ble_eq_true rfl) dc_Clock_rests_75 (fun rq mq hq => pf_Clock_isRest (w32 (p1 - p2)) p3 v6 v7 mem hq) (fun r1 m2 _ _ => ?_)
    refine RG_if_eq (tgt := 114) dc_Clock_rests_78 rfl ?_ ?_
    · refine RG_iinc dc_Clock_rests_114 rfl (Nat.le_of_ble_eq_true rfl) ?_
      refine RG_goto (tgt := 60) dc_Clock_rests_117 rfl ?_
      refine RG_sub ?_ (H60 v5 v6 (w32 (v7 + 1)) m2)
      exact ⟨rfl, rfl, rfl, rfl, rfl, rfl, rfl, trivial⟩
    · refine RG_iload_n dc_Clock_rests_81 rfl rfl ?_
      refine RG_iload_n dc_Clock_rests_82 rfl rfl ?_
      refine RG_isub dc_Clock_rests_83 ?_
      refine RG_iload_n dc_Clock_rests_84 rfl rfl ?_
      refine RG_iload dc_Clock_rests_85 rfl ?_
      refine RG_iload dc_Clock_rests_87 rfl ?_
      refine RG_callS (As := [vi (w32 (p2 - p1)), vi p3, vi v7, vi v6]) (rest := []) mi_Clock_isRest ms_Clock_isRest ml_Clock_311 roomRC rfl (Nat.le_of_ble_eq_true rfl) dc_Clock_rests_89 (fun rq mq hq => pf_Clock_isRest (w32 (p2 - p1)) p3 v7 v6 m2 hq) (fun r3 m4 _ _ => ?_)
      refine RG_if_eq (tgt := 114) dc_Clock_rests_92 rfl ?_ ?_
      · refine RG_iinc dc_Clock_rests_114 rfl (Nat.le_of_ble_eq_true rfl) ?_
        refine RG_goto (tgt := 60) dc_Clock_rests_117 rfl ?_
        refine RG_sub ?_ (H60 v5 v6 (w32 (v7 + 1)) m4)
        exact ⟨rfl, rfl, rfl, rfl, rfl, rfl, rfl, trivial⟩
      · refine RG_iload dc_Clock_rests_95 rfl ?_
        refine RG_iload dc_Clock_rests_97 rfl ?_
        refine RG_icmp_ne (tgt := 111) dc_Clock_rests_99 rfl ?_ ?_
        · refine RG_bipush dc_Clock_rests_102 ?_
          refine RG_iload dc_Clock_rests_104 rfl ?_
          refine RG_imul dc_Clock_rests_106 ?_
          refine RG_iload dc_Clock_rests_107 rfl ?_
          refine RG_iadd dc_Clock_rests_109 ?_
          exact RG_chk (fun h => RG_iretY rfl h dc_Clock_rests_110)
        · refine RG_iinc dc_Clock_rests_111 rfl (Nat.le_of_ble_eq_true rfl) ?_
          refine RG_iinc dc_Clock_rests_114 rfl (Nat.le_of_ble_eq_true rfl) ?_
          refine RG_goto (tgt := 60) dc_Clock_rests_117 rfl ?_
          refine RG_sub ?_ (H60 (w32 (v5 + 1)) v6 (w32 (v7 + 1)) m4)
          exact ⟨rfl, rfl, rfl, rfl, rfl, rfl, rfl, trivial⟩
theorem rp_CR60 {E : EE} (p1 p2 p3 p4 : Int) (k50 : Int → Int → Mm → Res) (H50 : ∀ (v5 v6 : Int) (mem : Mm), RG E mt_Clock_rests 0 0 (FY E 6) (ZY E) (k50 v5 v6 mem) 50 [(1, vi p1), (2, vi p2), (3, vi p3), (4, vi p4), (5, vi v5), (6, vi v6)] [] mem) : ∀ (n : Nat) (v5 v6 v7 : Int) (mem : Mm), RG E mt_Clock_rests 0 0 (FY E 6) (ZY E) (lq60 p1 p2 p3 p4 k50 n v5 v6 v7 mem) 60 [(1, vi p1), (2, vi p2), (3, vi p3), (4, vi p4), (5, vi v5), (6, vi v6), (7, vi v7)] [] mem := by
  intro n
  induction n with
  | zero => intro v5 v6 v7 mem; exact RG_none
  | succ n ih => intro v5 v6 v7 mem; exact rb_CR60 p1 p2 p3 p4 k50 H50 _ ih v5 v6 v7 mem
set_option maxHeartbeats 4000000 in
theorem rp_CR50 {E : EE} (p1 p2 p3 p4 : Int) : ∀ (n : Nat) (v5 v6 : Int) (mem : Mm), RG E mt_Clock_rests 0 0 (FY E 6) (ZY E) (lq50 p1 p2 p3 p4 n v5 v6 mem) 50 [(1, vi p1), (2, vi p2), (3, vi p3), (4, vi p4), (5, vi v5), (6, vi v6)] [] mem := by
  intro n
  induction n with
  | zero => intro v5 v6 mem; exact RG_none
  | succ n ih =>
    intro v5 v6 mem
    show RG E mt_Clock_rests 0 0 (FY E 6) (ZY E) (cr50 p1 p2 p3 p4 (lq50 p1 p2 p3 p4 n) v5 v6 mem) 50 _ [] mem
    unfold cr50
    refine RG_iload dc_Clock_rests_50 rfl ?_
    refine RG_bipush dc_Clock_rests_52 ?_
    refine RG_icmp_gt (tgt := 126) dc_Clock_rests_54 rfl ?_ ?_
    · refine RG_iload dc_Clock_rests_126 rfl ?_
      refine RG_iconst dc_Clock_rests_128 ?_
      refine RG_icmp_eq (tgt := 140) dc_Clock_rests_129 rfl ?_ ?_
      · refine RG_iload dc_Clock_rests_140 rfl ?_
        exact RG_chk (fun h => RG_iretY rfl h dc_Clock_rests_142)
      · exact RG_throwY rfl (Nat.le_refl 6) dc_Clock_rests_132 dc_Clock_rests_135 dc_Clock_rests_136 dc_Clock_rests_139
    · refine RG_iconst dc_Clock_rests_57 ?_
      refine RG_istore dc_Clock_rests_58 (Nat.le_of_ble_eq_true rfl) ?_
      refine RG_sub ?_ (rp_CR60 p1 p2 p3 p4 _ ih FU v5 v6 0 mem)
      exact ⟨rfl, rfl, rfl, rfl, rfl, rfl, rfl, trivial⟩
set_option maxHeartbeats 4000000 in
theorem rg_Clock_rests {E : EE} (p1 p2 p3 p4 : Int) (mem : Mm) : RG E mt_Clock_rests 0 0 (FY E 6) (ZY E) (fn_Clock_rests p1 p2 p3 p4 mem) 0 [(0, rf 0), (1, vi p1), (2, vi p2), (3, vi p3), (4, vi p4)] [] mem := by
  unfold fn_Clock_rests
  have T : ∀ lv, RG E mt_Clock_rests 0 0 (FY E 6) (ZY E) (some (THR, mem)) 36 lv [] mem := fun lv => RG_throwY rfl (Nat.le_refl 6) dc_Clock_rests_36 dc_Clock_rests_39 dc_Clock_rests_40 dc_Clock_rests_43
  refine RG_iload_n dc_Clock_rests_0 rfl rfl ?_
  refine RG_if_lt (tgt := 36) dc_Clock_rests_1 rfl (T _) ?_
  refine RG_iload_n dc_Clock_rests_4 rfl rfl ?_
  refine RG_bipush dc_Clock_rests_5 ?_
  refine RG_icmp_gt (tgt := 36) dc_Clock_rests_7 rfl (T _) ?_
  refine RG_iload_n dc_Clock_rests_10 rfl rfl ?_
  refine RG_if_lt (tgt := 36) dc_Clock_rests_11 rfl (T _) ?_
  refine RG_iload_n dc_Clock_rests_14 rfl rfl ?_
  refine RG_bipush dc_Clock_rests_15 ?_
  refine RG_icmp_gt (tgt := 36) dc_Clock_rests_17 rfl (T _) ?_
  refine RG_iload_n dc_Clock_rests_20 rfl rfl ?_
  refine RG_if_lt (tgt := 36) dc_Clock_rests_21 rfl (T _) ?_
  refine RG_iload_n dc_Clock_rests_24 rfl rfl ?_
  refine RG_bipush dc_Clock_rests_25 ?_
  refine RG_icmp_gt (tgt := 36) dc_Clock_rests_27 rfl (T _) ?_
  refine RG_iload dc_Clock_rests_30 rfl ?_
  refine RG_iconst dc_Clock_rests_32 ?_
  refine RG_icmp_ge (tgt := 44) dc_Clock_rests_33 rfl (T _) ?_
  refine RG_iconst dc_Clock_rests_44 ?_
  refine RG_istore dc_Clock_rests_45 (Nat.le_of_ble_eq_true rfl) ?_
  refine RG_iconst dc_Clock_rests_47 ?_
  refine RG_istore dc_Clock_rests_48 (Nat.le_of_ble_eq_true rfl) ?_
  refine RG_sub ?_ (rp_CR50 p1 p2 p3 p4 FU 0 0 mem)
  exact ⟨rfl, rfl, rfl, rfl, rfl, rfl, trivial⟩
end Rc
