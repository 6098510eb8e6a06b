def bo_Law_cost_146 (th : Nat) (p1 : Int) (p2 : Int) (p3 : Int)   (mem : Mm) : Res := bd (fn_Law_pop th mem) fun r1 m2 => some (imx 0 (imn 999 r1), m2)
set_option maxHeartbeats 4000000 in
theorem rb_Law_cost_146 {E : EE} (th : Nat) (p1 : Int) (p2 : Int) (p3 : Int) (hk_th : ly_k th = (2, 4))     (mem : Mm) : RO E mt_Law_cost (bo_Law_cost_146 th p1 p2 p3   mem) 146 [(0, rf th)] [] mem := by
  unfold bo_Law_cost_146
  refine RO_iconst dc_Law_cost_146 ?_
  refine RO_sipush dc_Law_cost_147 ?_
  refine RO_aload_n dc_Law_cost_150 rfl rfl ?_
  refine RO_callVi (As := []) (rest := [vi 999, vi 0]) mi_Law_pop mv_Law_pop ml_Law_95 hk_th (Nat.le_of_ble_eq_true rfl) rfl (Nat.le_of_ble_eq_true rfl) (fun _ => rfl) dc_Law_cost_151 (fun rq mq hq => pf_Law_pop th hk_th mem hq) (fun r1 m2 => ?_)
  refine RO_min mw_min ml_Law_103 (Nat.le_of_ble_eq_true rfl) (Nat.le_of_ble_eq_true rfl) dc_Law_cost_154 ?_
  refine RO_max mw_max ml_Law_109 (Nat.le_of_ble_eq_true rfl) (Nat.le_of_ble_eq_true rfl) dc_Law_cost_157 ?_
  exact RO_iret rfl dc_Law_cost_160
def bo_Law_cost_140 (th : Nat) (p1 : Int) (p2 : Int) (p3 : Int) (k8 : Int → Mm → Res) (v4 : Int) (mem : Mm) : Res := k8 (w32 (v4 + 1)) mem
set_option maxHeartbeats 4000000 in
theorem rb_Law_cost_140 {E : EE} (th : Nat) (p1 : Int) (p2 : Int) (p3 : Int) (hk_th : ly_k th = (2, 4)) (k8 : Int → Mm → Res) (H8 : ∀ (v4 : Int)  (mem : Mm), RO E mt_Law_cost (k8 v4 mem) 8 [(0, rf th), (1, vi p1), (2, vi p2), (3, vi p3), (4, vi v4)] [] mem) (v4 : Int)  (mem : Mm) : RO E mt_Law_cost (bo_Law_cost_140 th p1 p2 p3 k8 v4 mem) 140 [(0, rf th), (1, vi p1), (2, vi p2), (3, vi p3), (4, vi v4)] [] mem := by
  unfold bo_Law_cost_140
  refine RO_iinc dc_Law_cost_140 rfl (Nat.le_of_ble_eq_true rfl) ?_
  refine RO_goto (tgt := 8) dc_Law_cost_143 rfl ?_
  refine RO_sub ?_ (H8 (w32 (v4 + 1)) mem)
  exact ⟨rfl, rfl, rfl, rfl, rfl, trivial⟩
def bo_Law_cost_113 (th : Nat) (p1 : Int) (p2 : Int) (p3 : Int) (k8 : Int → Mm → Res) (v4 : Int) (s0 : Nat) (s1 : Int) (mem : Mm) : Res := bd (fn_Law_push s0 s1 mem) fun r1 m2 => bo_Law_cost_140 th p1 p2 p3 k8 v4 m2
set_option maxHeartbeats 4000000 in
theorem rb_Law_cost_113 {E : EE} (th : Nat) (p1 : Int) (p2 : Int) (p3 : Int) (hk_th : ly_k th = (2, 4)) (k8 : Int → Mm → Res) (H8 : ∀ (v4 : Int)  (mem : Mm), RO E mt_Law_cost (k8 v4 mem) 8 [(0, rf th), (1, vi p1), (2, vi p2), (3, vi p3), (4, vi v4)] [] mem) (v4 : Int) (s0 : Nat) (s1 : Int) (hk_s0 : ly_k s0 = (2, 4)) (mem : Mm) : RO E mt_Law_cost (bo_Law_cost_113 th p1 p2 p3 k8 v4 s0 s1 mem) 113 [(0, rf th), (1, vi p1), (2, vi p2), (3, vi p3), (4, vi v4)] [vi s1, rf s0] mem := by
  unfold bo_Law_cost_113
  refine RO_callVv (As := [vi s1]) (rest := []) mi_Law_push mv_Law_push ml_Law_92 hk_s0 (Nat.le_of_ble_eq_true rfl) rfl (Nat.le_of_ble_eq_true rfl) dc_Law_cost_113 (fun rq mq hq => pf_Law_push s0 s1 hk_s0 mem hq) (fun r1 m2 => ?_)
  refine RO_goto (tgt := 140) dc_Law_cost_116 rfl ?_
  refine RO_sub ?_ (rb_Law_cost_140 th p1 p2 p3 hk_th k8 H8 v4 m2)
  exact ⟨rfl, rfl, rfl, rfl, rfl, trivial⟩
def bo_Law_cost_72 (th : Nat) (p1 : Int) (p2 : Int) (p3 : Int) (k8 : Int → Mm → Res) (v4 : Int) (s0 : Nat) (s1 : Int) (mem : Mm) : Res := bd (fn_Law_push s0 s1 mem) fun r1 m2 => bo_Law_cost_140 th p1 p2 p3 k8 v4 m2
set_option maxHeartbeats 4000000 in
theorem rb_Law_cost_72 {E : EE} (th : Nat) (p1 : Int) (p2 : Int) (p3 : Int) (hk_th : ly_k th = (2, 4)) (k8 : Int → Mm → Res) (H8 : ∀ (v4 : Int)  (mem : Mm), RO E mt_Law_cost (k8 v4 mem) 8 [(0, rf th), (1, vi p1), (2, vi p2), (3, vi p3), (4, vi v4)] [] mem) (v4 : Int) (s0 : Nat) (s1 : Int) (hk_s0 : ly_k s0 = (2, 4)) (mem : Mm) : RO E mt_Law_cost (bo_Law_cost_72 th p1 p2 p3 k8 v4 s0 s1 mem) 72 [(0, rf th), (1, vi p1), (2, vi p2), (3, vi p3), (4, vi v4)] [vi s1, rf s0] mem := by
  unfold bo_Law_cost_72
  refine RO_callVv (As := [vi s1]) (rest := []) mi_Law_push mv_Law_push ml_Law_92 hk_s0 (Nat.le_of_ble_eq_true rfl) rfl (Nat.le_of_ble_eq_true rfl) dc_Law_cost_72 (fun rq mq hq => pf_Law_push s0 s1 hk_s0 mem hq) (fun r1 m2 => ?_)
  refine RO_goto (tgt := 140) dc_Law_cost_75 rfl ?_
  refine RO_sub ?_ (rb_Law_cost_140 th p1 p2 p3 hk_th k8 H8 v4 m2)
  exact ⟨rfl, rfl, rfl, rfl, rfl, trivial⟩
def bo_Law_cost_8 (th : Nat) (p1 : Int) (p2 : Int) (p3 : Int) (k8 : Int → Mm → Res) (v4 : Int) (mem : Mm) : Res := if v4 < (mem th 2) then (if 0 ≤ v4 ∧ v4 < 1000 then bn (mem (th + 1) v4.toNat) fun x2 => if x2 < 0 then (if x2 = (-2) then (bd (fn_Law_push th p1 mem) fun r3 m4 => bo_Law_cost_140 th p1 p2 p3 k8 v4 m4) else (if x2 = (-3) then (if p2 = 0 then (bo_Law_cost_72 th p1 p2 p3 k8 v4 th 0 mem) else (bo_Law_cost_72 th p1 p2 p3 k8 v4 th 1 mem)) else (if x2 = (-4) then (bd (fn_Law_push th p3 mem) fun r5 m6 => bo_Law_cost_140 th p1 p2 p3 k8 v4 m6) else (if x2 = (-5) then (bd (fn_Law_pop th mem) fun r7 m8 => if r7 = 0 then (bo_Law_cost_113 th p1 p2 p3 k8 v4 th 1 m8) else (bo_Law_cost_113 th p1 p2 p3 k8 v4 th 0 m8)) else (bd (fn_Law_pop th mem) fun r9 m10 => bd (fn_Law_pop th m10) fun r11 m12 => bd (fn_Law_worth x2 r11 r9 m12) fun r13 m14 => bd (fn_Law_push th r13 m14) fun r15 m16 => bo_Law_cost_140 th p1 p2 p3 k8 v4 m16))))) else (bd (fn_Law_push th x2 mem) fun r17 m18 => bo_Law_cost_140 th p1 p2 p3 k8 v4 m18) else none) else (bo_Law_cost_146 th p1 p2 p3 mem)
set_option maxHeartbeats 4000000 in
theorem rb_Law_cost_8 {E : EE} (th : Nat) (p1 : Int) (p2 : Int) (p3 : Int) (hk_th : ly_k th = (2, 4)) (k8 : Int → Mm → Res) (H8 : ∀ (v4 : Int)  (mem : Mm), RO E mt_Law_cost (k8 v4 mem) 8 [(0, rf th), (1, vi p1), (2, vi p2), (3, vi p3), (4, vi v4)] [] mem) (v4 : Int)  (mem : Mm) : RO E mt_Law_cost (bo_Law_cost_8 th p1 p2 p3 k8 v4 mem) 8 [(0, rf th), (1, vi p1), (2, vi p2), (3, vi p3), (4, vi v4)] [] mem := by
  unfold bo_Law_cost_8
  refine RO_iload dc_Law_cost_8 rfl ?_
  refine RO_aload_n dc_Law_cost_10 rfl rfl ?_
  refine RO_getI gf_Law_18 hk_th dc_Law_cost_11 ?_
  refine RO_icmp_ge (tgt := 146) dc_Law_cost_14 rfl ?_ ?_
  · refine RO_aload_n dc_Law_cost_17 rfl rfl ?_
    refine RO_getR (b := (th + 1)) gf_Law_9 hk_th (by omega) dc_Law_cost_18 ?_
    refine RO_iload dc_Law_cost_21 rfl ?_
    refine RO_chk (fun hi1 => ?_)
    refine RO_ia (cl_2_0 hk_th) hi1 dc_Law_cost_23 ?_
    refine RO_bnT (fun x2 => ?_)
    refine RO_istore dc_Law_cost_24 (Nat.le_of_ble_eq_true rfl) ?_
    refine RO_iload dc_Law_cost_26 rfl ?_
    refine RO_if_lt (tgt := 40) dc_Law_cost_28 rfl ?_ ?_
    · refine RO_iload dc_Law_cost_40 rfl ?_
      refine RO_bipush dc_Law_cost_42 ?_
      refine RO_icmp_ne (tgt := 55) dc_Law_cost_44 rfl ?_ ?_
      · refine RO_aload_n dc_Law_cost_47 rfl rfl ?_
        refine RO_iload_n dc_Law_cost_48 rfl rfl ?_
        refine RO_callVv (As := [vi p1]) (rest := []) mi_Law_push mv_Law_push ml_Law_92 hk_th (Nat.le_of_ble_eq_true rfl) rfl (Nat.le_of_ble_eq_true rfl) dc_Law_cost_49 (fun rq mq hq => pf_Law_push th p1 hk_th mem hq) (fun r3 m4 => ?_)
        refine RO_goto (tgt := 140) dc_Law_cost_52 rfl ?_
        refine RO_sub ?_ (rb_Law_cost_140 th p1 p2 p3 hk_th k8 H8 v4 m4)
        exact ⟨rfl, rfl, rfl, rfl, rfl, trivial⟩
      · refine RO_iload dc_Law_cost_55 rfl ?_
        refine RO_bipush dc_Law_cost_57 ?_
        refine RO_icmp_ne (tgt := 78) dc_Law_cost_59 rfl ?_ ?_
        · refine RO_aload_n dc_Law_cost_62 rfl rfl ?_
          refine RO_iload_n dc_Law_cost_63 rfl rfl ?_
          refine RO_if_eq (tgt := 71) dc_Law_cost_64 rfl ?_ ?_
          · refine RO_iconst dc_Law_cost_71 ?_
            refine RO_sub ?_ (rb_Law_cost_72 th p1 p2 p3 hk_th k8 H8 v4 th 0 hk_th mem)
            exact ⟨rfl, rfl, rfl, rfl, rfl, trivial⟩
          · refine RO_iconst dc_Law_cost_67 ?_
            refine RO_goto (tgt := 72) dc_Law_cost_68 rfl ?_
            refine RO_sub ?_ (rb_Law_cost_72 th p1 p2 p3 hk_th k8 H8 v4 th 1 hk_th mem)
            exact ⟨rfl, rfl, rfl, rfl, rfl, trivial⟩
        · refine RO_iload dc_Law_cost_78 rfl ?_
          refine RO_bipush dc_Law_cost_80 ?_
          refine RO_icmp_ne (tgt := 93) dc_Law_cost_82 rfl ?_ ?_
          · refine RO_aload_n dc_Law_cost_85 rfl rfl ?_
            refine RO_iload_n dc_Law_cost_86 rfl rfl ?_
            refine RO_callVv (As := [vi p3]) (rest := []) mi_Law_push mv_Law_push ml_Law_92 hk_th (Nat.le_of_ble_eq_true rfl) rfl (Nat.le_of_ble_eq_true rfl) dc_Law_cost_87 (fun rq mq hq => pf_Law_push th p3 hk_th mem hq) (fun r5 m6 => ?_)
            refine RO_goto (tgt := 140) dc_Law_cost_90 rfl ?_
            refine RO_sub ?_ (rb_Law_cost_140 th p1 p2 p3 hk_th k8 H8 v4 m6)
            exact ⟨rfl, rfl, rfl, rfl, rfl, trivial⟩
          · refine RO_iload dc_Law_cost_93 rfl ?_
            refine RO_bipush dc_Law_cost_95 ?_
            refine RO_icmp_ne (tgt := 119) dc_Law_cost_97 rfl ?_ ?_
            · refine RO_aload_n dc_Law_cost_100 rfl rfl ?_
              refine RO_aload_n dc_Law_cost_101 rfl rfl ?_
              refine RO_callVi (As := []) (rest := [rf th]) mi_Law_pop mv_Law_pop ml_Law_95 hk_th (Nat.le_of_ble_eq_true rfl) rfl (Nat.le_of_ble_eq_true rfl) (fun _ => rfl) dc_Law_cost_102 (fun rq mq hq => pf_Law_pop th hk_th mem hq) (fun r7 m8 => ?_)
              refine RO_if_ne (tgt := 112) dc_Law_cost_105 rfl ?_ ?_
              · refine RO_iconst dc_Law_cost_108 ?_
                refine RO_goto (tgt := 113) dc_Law_cost_109 rfl ?_
                refine RO_sub ?_ (rb_Law_cost_113 th p1 p2 p3 hk_th k8 H8 v4 th 1 hk_th m8)
                exact ⟨rfl, rfl, rfl, rfl, rfl, trivial⟩
              · refine RO_iconst dc_Law_cost_112 ?_
                refine RO_sub ?_ (rb_Law_cost_113 th p1 p2 p3 hk_th k8 H8 v4 th 0 hk_th m8)
                exact ⟨rfl, rfl, rfl, rfl, rfl, trivial⟩
            · refine RO_aload_n dc_Law_cost_119 rfl rfl ?_
              refine RO_callVi (As := []) (rest := []) mi_Law_pop mv_Law_pop ml_Law_95 hk_th (Nat.le_of_ble_eq_true rfl) rfl (Nat.le_of_ble_eq_true rfl) (fun _ => rfl) dc_Law_cost_120 (fun rq mq hq => pf_Law_pop th hk_th mem hq) (fun r9 m10 => ?_)
              refine RO_istore dc_Law_cost_123 (Nat.le_of_ble_eq_true rfl) ?_
              refine RO_aload_n dc_Law_cost_125 rfl rfl ?_
              refine RO_iload dc_Law_cost_126 rfl ?_
              refine RO_aload_n dc_Law_cost_128 rfl rfl ?_
              refine RO_callVi (As := []) (rest := [vi x2, rf th]) mi_Law_pop mv_Law_pop ml_Law_95 hk_th (Nat.le_of_ble_eq_true rfl) rfl (Nat.le_of_ble_eq_true rfl) (fun _ => rfl) dc_Law_cost_129 (fun rq mq hq => pf_Law_pop th hk_th m10 hq) (fun r11 m12 => ?_)
              refine RO_iload dc_Law_cost_132 rfl ?_
              refine RO_callSi (As := [vi x2, vi r11, vi r9]) (rest := [rf th]) mi_Law_worth ms_Law_worth ml_Law_99 (Nat.le_of_ble_eq_true rfl) rfl (Nat.le_of_ble_eq_true rfl) (fun _ => rfl) dc_Law_cost_134 (fun rq mq hq => pf_Law_worth x2 r11 r9  m12 hq) (fun r13 m14 => ?_)
              refine RO_callVv (As := [vi r13]) (rest := []) mi_Law_push mv_Law_push ml_Law_92 hk_th (Nat.le_of_ble_eq_true rfl) rfl (Nat.le_of_ble_eq_true rfl) dc_Law_cost_137 (fun rq mq hq => pf_Law_push th r13 hk_th m14 hq) (fun r15 m16 => ?_)
              refine RO_sub ?_ (rb_Law_cost_140 th p1 p2 p3 hk_th k8 H8 v4 m16)
              exact ⟨rfl, rfl, rfl, rfl, rfl, trivial⟩
    · refine RO_aload_n dc_Law_cost_31 rfl rfl ?_
      refine RO_iload dc_Law_cost_32 rfl ?_
      refine RO_callVv (As := [vi x2]) (rest := []) mi_Law_push mv_Law_push ml_Law_92 hk_th (Nat.le_of_ble_eq_true rfl) rfl (Nat.le_of_ble_eq_true rfl) dc_Law_cost_34 (fun rq mq hq => pf_Law_push th x2 hk_th mem hq) (fun r17 m18 => ?_)
      refine RO_goto (tgt := 140) dc_Law_cost_37 rfl ?_
      refine RO_sub ?_ (rb_Law_cost_140 th p1 p2 p3 hk_th k8 H8 v4 m18)
      exact ⟨rfl, rfl, rfl, rfl, rfl, trivial⟩
  · refine RO_sub ?_ (rb_Law_cost_146 th p1 p2 p3 hk_th mem)
    exact ⟨rfl, trivial⟩
def lp_Law_cost_8 (th : Nat) (p1 : Int) (p2 : Int) (p3 : Int)  : Nat → Int → Mm → Res
  | 0 => fun _ _ => none
  | n + 1 => bo_Law_cost_8 th p1 p2 p3  (lp_Law_cost_8 th p1 p2 p3  n)
theorem rp_Law_cost_8 {E : EE} (th : Nat) (p1 : Int) (p2 : Int) (p3 : Int) (hk_th : ly_k th = (2, 4))   : ∀ (n : Nat) (v4 : Int)  (mem : Mm), RO E mt_Law_cost (lp_Law_cost_8 th p1 p2 p3  n v4 mem) 8 [(0, rf th), (1, vi p1), (2, vi p2), (3, vi p3), (4, vi v4)] [] mem := by
  intro n
  induction n with
  | zero => intro v4  mem; exact RO_none
  | succ n ih => intro v4  mem; exact rb_Law_cost_8 th p1 p2 p3 hk_th  (lp_Law_cost_8 th p1 p2 p3  n)  ih v4  mem
def fn_Law_cost (th : Nat) (p1 : Int) (p2 : Int) (p3 : Int) (mem : Mm) : Res := bn (mst mem th 3 0) fun m1 => lp_Law_cost_8 th p1 p2 p3 FU 0 m1
set_option maxHeartbeats 4000000 in
theorem pf_Law_cost {E : EE} (th : Nat) (p1 : Int) (p2 : Int) (p3 : Int) (hk_th : ly_k th = (2, 4)) (mem : Mm) {r : Int} {mem9 : Mm} (h : fn_Law_cost th p1 p2 p3 mem = some (r, mem9)) : MetX E 2 yn_Law_cost cd_Law_cost 7 (some .int) [rf th, vi p1, vi p2, vi p3] mem r mem9 := by
  refine RO_met (y := yn_Law_cost) (by decide +kernel) (Nat.le_of_ble_eq_true rfl) ?_ h
  show RO E mt_Law_cost (fn_Law_cost th p1 p2 p3 mem) 0 [(0, rf th), (1, vi p1), (2, vi p2), (3, vi p3)] [] mem
  unfold fn_Law_cost
  refine RO_aload_n dc_Law_cost_0 rfl rfl ?_
  refine RO_iconst dc_Law_cost_1 ?_
  refine RO_putI gp_Law_89 hk_th dc_Law_cost_2 ?_
  refine RO_bnM (fun m1 => ?_)
  refine RO_iconst dc_Law_cost_5 ?_
  refine RO_istore dc_Law_cost_6 (Nat.le_of_ble_eq_true rfl) ?_
  refine RO_sub ?_ (rp_Law_cost_8 th p1 p2 p3 hk_th FU 0 m1)
  exact ⟨rfl, rfl, rfl, rfl, rfl, trivial⟩
def fn_Lines_happen (th : Nat) (p1 : Int) (p2 : Nat) (mem : Mm) : Res := if 0 ≤ p1 ∧ p1 < 30 then swi (mem (th + 1) p1.toNat) 0 [if 0 ≤ p1 ∧ p1 < 30 then if 0 ≤ p1 ∧ p1 < 30 then if 0 ≤ mem (th + 2) p1.toNat ∧ mem (th + 2) p1.toNat < 6 then bn (mst mem (p2 + 1) (mem (th + 2) p1.toNat).toNat (mem (th + 3) p1.toNat)) fun m5 => some (0, m5) else none else none else none, if 0 ≤ p1 ∧ p1 < 30 then bd (fn_State_bury p2 (mem (th + 2) p1.toNat) mem) fun r7 m8 => some (0, m8) else none, if 0 ≤ p1 ∧ p1 < 30 then if 0 ≤ p1 ∧ p1 < 30 then if 0 ≤ mem (th + 3) p1.toNat ∧ mem (th + 3) p1.toNat < 6 then bn (mst mem (p2 + 2) (mem (th + 3) p1.toNat).toNat (mem (th + 2) p1.toNat)) fun m12 => some (0, m12) else none else none else none, bn (mst mem p2 3 1) fun m13 => some (0, m13)] (some (0, mem)) else none
set_option maxHeartbeats 4000000 in
theorem pf_Lines_happen {E : EE} (th : Nat) (p1 : Int) (p2 : Nat) (hk_th : ly_k th = (3, 4)) (hk_p2 : ly_k p2 = (6, 6)) (mem : Mm) {r : Int} {mem9 : Mm} (h : fn_Lines_happen th p1 p2 mem = some (r, mem9)) : MetX E 2 yn_Lines_happen cd_Lines_happen 3 none [rf th, vi p1, rf p2] mem r mem9 := by
  refine RO_met (y := yn_Lines_happen) (by decide +kernel) (Nat.le_of_ble_eq_true rfl) ?_ h
  show RO E mt_Lines_happen (fn_Lines_happen th p1 p2 mem) 0 [(0, rf th), (1, vi p1), (2, rf p2)] [] mem
  unfold fn_Lines_happen
  refine RO_aload_n dc_Lines_happen_0 rfl rfl ?_
  refine RO_getR (b := (th + 1)) gf_Lines_9 hk_th (by omega) dc_Lines_happen_1 ?_
  refine RO_iload_n dc_Lines_happen_4 rfl rfl ?_
  refine RO_chk (fun hi1 => ?_)
  refine RO_ia (cl_3_1 hk_th) hi1 dc_Lines_happen_5 ?_
  refine RO_tab4 (t0 := 36) (t1 := 56) (t2 := 69) (t3 := 89) (td := 97) dc_Lines_happen_6 rfl rfl rfl ?_ ?_ ?_ ?_ ?_
  · refine RO_aload_n dc_Lines_happen_36 rfl rfl ?_
    refine RO_getR (b := (p2 + 1)) gf_Lines_120 hk_p2 (by omega) dc_Lines_happen_37 ?_
    refine RO_aload_n dc_Lines_happen_40 rfl rfl ?_
    refine RO_getR (b := (th + 2)) gf_Lines_15 hk_th (by omega) dc_Lines_happen_41 ?_
    refine RO_iload_n dc_Lines_happen_44 rfl rfl ?_
    refine RO_chk (fun hi2 => ?_)
    refine RO_ia (cl_3_2 hk_th) hi2 dc_Lines_happen_45 ?_
    refine RO_aload_n dc_Lines_happen_46 rfl rfl ?_
    refine RO_getR (b := (th + 3)) gf_Lines_18 hk_th (by omega) dc_Lines_happen_47 ?_
    refine RO_iload_n dc_Lines_happen_50 rfl rfl ?_
    refine RO_chk (fun hi3 => ?_)
    refine RO_ia (cl_3_3 hk_th) hi3 dc_Lines_happen_51 ?_
    refine RO_chk (fun hi4 => ?_)
    refine RO_is (cl_6_4 hk_p2) hi4 dc_Lines_happen_52 ?_
    refine RO_bnM (fun m5 => ?_)
    refine RO_goto (tgt := 97) dc_Lines_happen_53 rfl ?_
    exact RO_vret rfl dc_Lines_happen_97
  · refine RO_aload_n dc_Lines_happen_56 rfl rfl ?_
    refine RO_aload_n dc_Lines_happen_57 rfl rfl ?_
    refine RO_getR (b := (th + 2)) gf_Lines_15 hk_th (by omega) dc_Lines_happen_58 ?_
    refine RO_iload_n dc_Lines_happen_61 rfl rfl ?_
    refine RO_chk (fun hi6 => ?_)
    refine RO_ia (cl_3_2 hk_th) hi6 dc_Lines_happen_62 ?_
    refine RO_callVv (As := [vi (mem (th + 2) p1.toNat)]) (rest := []) mi_State_bury mv_State_bury ml_Lines_123 hk_p2 (Nat.le_of_ble_eq_true rfl) rfl (Nat.le_of_ble_eq_true rfl) dc_Lines_happen_63 (fun rq mq hq => pf_State_bury p2 (mem (th + 2) p1.toNat) hk_p2 mem hq) (fun r7 m8 => ?_)
    refine RO_goto (tgt := 97) dc_Lines_happen_66 rfl ?_
    exact RO_vret rfl dc_Lines_happen_97
  · refine RO_aload_n dc_Lines_happen_69 rfl rfl ?_
    refine RO_getR (b := (p2 + 2)) gf_Lines_127 hk_p2 (by omega) dc_Lines_happen_70 ?_
    refine RO_aload_n dc_Lines_happen_73 rfl rfl ?_
    refine RO_getR (b := (th + 3)) gf_Lines_18 hk_th (by omega) dc_Lines_happen_74 ?_
    refine RO_iload_n dc_Lines_happen_77 rfl rfl ?_
    refine RO_chk (fun hi9 => ?_)
    refine RO_ia (cl_3_3 hk_th) hi9 dc_Lines_happen_78 ?_
    refine RO_aload_n dc_Lines_happen_79 rfl rfl ?_
    refine RO_getR (b := (th + 2)) gf_Lines_15 hk_th (by omega) dc_Lines_happen_80 ?_
    refine RO_iload_n dc_Lines_happen_83 rfl rfl ?_
    refine RO_chk (fun hi10 => ?_)
    refine RO_ia (cl_3_2 hk_th) hi10 dc_Lines_happen_84 ?_
    refine RO_chk (fun hi11 => ?_)
    refine RO_is (cl_6_5 hk_p2) hi11 dc_Lines_happen_85 ?_
    refine RO_bnM (fun m12 => ?_)
    refine RO_goto (tgt := 97) dc_Lines_happen_86 rfl ?_
    exact RO_vret rfl dc_Lines_happen_97
  · refine RO_aload_n dc_Lines_happen_89 rfl rfl ?_
    refine RO_iconst dc_Lines_happen_90 ?_
    refine RO_putZ gp_Lines_116 hk_p2 (Or.inr rfl) dc_Lines_happen_91 ?_
    refine RO_bnM (fun m13 => ?_)
    refine RO_goto (tgt := 97) dc_Lines_happen_94 rfl ?_
    exact RO_vret rfl dc_Lines_happen_97
  · exact RO_vret rfl dc_Lines_happen_97
def bo_Sight_take_93 (p2 : Int) (k10 : Int → Mm → Res) (v3 : Int) (mem : Mm) : Res := k10 (w32 (v3 + 1)) mem
set_option maxHeartbeats 4000000 in
theorem rb_Sight_take_93 {E : EE} (p2 : Int)  (k10 : Int → Mm → Res) (H10 : ∀ (v3 : Int)  (mem : Mm), RO E mt_Sight_take (k10 v3 mem) 10 [(0, rf 104), (1, rf 98), (2, vi p2), (3, vi v3)] [] mem) (v3 : Int)  (mem : Mm) : RO E mt_Sight_take (bo_Sight_take_93 p2 k10 v3 mem) 93 [(0, rf 104), (1, rf 98), (2, vi p2), (3, vi v3)] [] mem := by
  unfold bo_Sight_take_93
  refine RO_iinc dc_Sight_take_93 rfl (Nat.le_of_ble_eq_true rfl) ?_
  refine RO_goto (tgt := 10) dc_Sight_take_96 rfl ?_
  refine RO_sub ?_ (H10 (w32 (v3 + 1)) mem)
  exact ⟨rfl, rfl, rfl, rfl, trivial⟩
def bo_Sight_take_87 (p2 : Int) (k10 : Int → Mm → Res) (k20 : Int → Int → Mm → Res) (v3 : Int) (v4 : Int) (mem : Mm) : Res := k20 v3 (w32 (v4 + 1)) mem
set_option maxHeartbeats 4000000 in
theorem rb_Sight_take_87 {E : EE} (p2 : Int)  (k10 : Int → Mm → Res) (k20 : Int → Int → Mm → Res) (H10 : ∀ (v3 : Int)  (mem : Mm), RO E mt_Sight_take (k10 v3 mem) 10 [(0, rf 104), (1, rf 98), (2, vi p2), (3, vi v3)] [] mem) (H20 : ∀ (v3 : Int) (v4 : Int)  (mem : Mm), RO E mt_Sight_take (k20 v3 v4 mem) 20 [(0, rf 104), (1, rf 98), (2, vi p2), (3, vi v3), (4, vi v4)] [] mem) (v3 : Int) (v4 : Int)  (mem : Mm) : RO E mt_Sight_take (bo_Sight_take_87 p2 k10 k20 v3 v4 mem) 87 [(0, rf 104), (1, rf 98), (2, vi p2), (3, vi v3), (4, vi v4)] [] mem := by
  unfold bo_Sight_take_87
  refine RO_iinc dc_Sight_take_87 rfl (Nat.le_of_ble_eq_true rfl) ?_
  refine RO_goto (tgt := 20) dc_Sight_take_90 rfl ?_
  refine RO_sub ?_ (H20 v3 (w32 (v4 + 1)) mem)
  exact ⟨rfl, rfl, rfl, rfl, rfl, trivial⟩
def bo_Sight_take_44 (p2 : Int) (k10 : Int → Mm → Res) (k20 : Int → Int → Mm → Res) (k44 : Int → Int → Int → Mm → Res) (v3 : Int) (v4 : Int) (v5 : Int) (mem : Mm) : Res := if 0 ≤ v4 ∧ v4 < 24 then if (mem 102 v4.toNat) < v5 then (bo_Sight_take_87 p2 k10 k20 v3 v4 mem) else (if 0 ≤ v4 ∧ v4 < 24 then bn (w32 ((w32 ((mem 100 v4.toNat) * 240)) + v5)) fun x3 => if 0 ≤ x3 ∧ x3 < 1440 then if 0 ≤ x3 ∧ x3 < 1440 then bn (mst mem 105 x3.toNat (ior (mem 105 x3.toNat) (ishl 1 v3))) fun m6 => k44 v3 v4 (w32 (v5 + 1)) m6 else none else none else none) else none
set_option maxHeartbeats 4000000 in
theorem rb_Sight_take_44 {E : EE} (p2 : Int)  (k10 : Int → Mm → Res) (k20 : Int → Int → Mm → Res) (k44 : Int → Int → Int → Mm → Res) (H10 : ∀ (v3 : Int)  (mem : Mm), RO E mt_Sight_take (k10 v3 mem) 10 [(0, rf 104), (1, rf 98), (2, vi p2), (3, vi v3)] [] mem) (H20 : ∀ (v3 : Int) (v4 : Int)  (mem : Mm), RO E mt_Sight_take (k20 v3 v4 mem) 20 [(0, rf 104), (1, rf 98), (2, vi p2), (3, vi v3), (4, vi v4)] [] mem) (H44 : ∀ (v3 : Int) (v4 : Int) (v5 : Int)  (mem : Mm), RO E mt_Sight_take (k44 v3 v4 v5 mem) 44 [(0, rf 104), (1, rf 98), (2, vi p2), (3, vi v3), (4, vi v4), (5, vi v5)] [] mem) (v3 : Int) (v4 : Int) (v5 : Int)  (mem : Mm) : RO E mt_Sight_take (bo_Sight_take_44 p2 k10 k20 k44 v3 v4 v5 mem) 44 [(0, rf 104), (1, rf 98), (2, vi p2), (3, vi v3), (4, vi v4), (5, vi v5)] [] mem := by
  unfold bo_Sight_take_44
  refine RO_iload dc_Sight_take_44 rfl ?_
  refine RO_aload_n dc_Sight_take_46 rfl rfl ?_
  refine RO_getRN (b := 102) gn_Sight_33 (by decide) rfl lk_98 rfl dc_Sight_take_47 ?_
  refine RO_iload dc_Sight_take_50 rfl ?_
  refine RO_chk (fun hi1 => ?_)
  refine RO_ia lk_102 hi1 dc_Sight_take_52 ?_
  refine RO_icmp_gt (tgt := 87) dc_Sight_take_53 rfl ?_ ?_
  · refine RO_sub ?_ (rb_Sight_take_87 p2 k10 k20 H10 H20 v3 v4 mem)
    exact ⟨rfl, rfl, rfl, rfl, rfl, trivial⟩
  · refine RO_aload_n dc_Sight_take_56 rfl rfl ?_
    refine RO_getR (b := 105) gf_Sight_9 lk_104 rfl dc_Sight_take_57 ?_
    refine RO_aload_n dc_Sight_take_60 rfl rfl ?_
    refine RO_getRN (b := 100) gn_Sight_36 (by decide) rfl lk_98 rfl dc_Sight_take_61 ?_
    refine RO_iload dc_Sight_take_64 rfl ?_
    refine RO_chk (fun hi2 => ?_)
    refine RO_ia lk_100 hi2 dc_Sight_take_66 ?_
    refine RO_sipush dc_Sight_take_67 ?_
    refine RO_imul dc_Sight_take_70 ?_
    refine RO_iload dc_Sight_take_71 rfl ?_
    refine RO_iadd dc_Sight_take_73 ?_
    refine RO_bnT (fun x3 => ?_)
    refine RO_dup2 dc_Sight_take_74 (nt0 _) (nt2 _) ?_
    refine RO_chk (fun hi4 => ?_)
    refine RO_ia lk_105 hi4 dc_Sight_take_75 ?_
    refine RO_iconst dc_Sight_take_76 ?_
    refine RO_iload_n dc_Sight_take_77 rfl rfl ?_
    refine RO_ishl dc_Sight_take_78 ?_
    refine RO_ior dc_Sight_take_79 ?_
    refine RO_chk (fun hi5 => ?_)
    refine RO_is lk_105 hi5 dc_Sight_take_80 ?_
    refine RO_bnM (fun m6 => ?_)
    refine RO_iinc dc_Sight_take_81 rfl (Nat.le_of_ble_eq_true rfl) ?_
    refine RO_goto (tgt := 44) dc_Sight_take_84 rfl ?_
    refine RO_sub ?_ (H44 v3 v4 (w32 (v5 + 1)) m6)
    exact ⟨rfl, rfl, rfl, rfl, rfl, rfl, trivial⟩
def lp_Sight_take_44 (p2 : Int) (k10 : Int → Mm → Res) (k20 : Int → Int → Mm → Res) : Nat → Int → Int → Int → Mm → Res
  | 0 => fun _ _ _ _ => none
  | n + 1 => bo_Sight_take_44 p2 k10 k20 (lp_Sight_take_44 p2 k10 k20 n)
theorem rp_Sight_take_44 {E : EE} (p2 : Int)  (k10 : Int → Mm → Res) (k20 : Int → Int → Mm → Res) (H10 : ∀ (v3 : Int)  (mem : Mm), RO E mt_Sight_take (k10 v3 mem) 10 [(0, rf 104), (1, rf 98), (2, vi p2), (3, vi v3)] [] mem) (H20 : ∀ (v3 : Int) (v4 : Int)  (mem : Mm), RO E mt_Sight_take (k20 v3 v4 mem) 20 [(0, rf 104), (1, rf 98), (2, vi p2), (3, vi v3), (4, vi v4)] [] mem) : ∀ (n : Nat) (v3 : Int) (v4 : Int) (v5 : Int)  (mem : Mm), RO E mt_Sight_take (lp_Sight_take_44 p2 k10 k20 n v3 v4 v5 mem) 44 [(0, rf 104), (1, rf 98), (2, vi p2), (3, vi v3), (4, vi v4), (5, vi v5)] [] mem := by
  intro n
  induction n with
  | zero => intro v3 v4 v5  mem; exact RO_none
  | succ n ih => intro v3 v4 v5  mem; exact rb_Sight_take_44 p2  k10 k20 (lp_Sight_take_44 p2 k10 k20 n) H10 H20 ih v3 v4 v5  mem
def bo_Sight_take_20 (p2 : Int) (k10 : Int → Mm → Res) (k20 : Int → Int → Mm → Res) (v3 : Int) (v4 : Int) (mem : Mm) : Res := if 0 ≤ v3 ∧ v3 < 6 then if v4 < (w32 ((w32 (v3 * 4)) + (mem 99 v3.toNat))) then (if 0 ≤ v4 ∧ v4 < 24 then bn (mem 101 v4.toNat) fun x3 => lp_Sight_take_44 p2 k10 k20 FU v3 v4 x3 mem else none) else (bo_Sight_take_93 p2 k10 v3 mem) else none
set_option maxHeartbeats 4000000 in
theorem rb_Sight_take_20 {E : EE} (p2 : Int)  (k10 : Int → Mm → Res) (k20 : Int → Int → Mm → Res) (H10 : ∀ (v3 : Int)  (mem : Mm), RO E mt_Sight_take (k10 v3 mem) 10 [(0, rf 104), (1, rf 98), (2, vi p2), (3, vi v3)] [] mem) (H20 : ∀ (v3 : Int) (v4 : Int)  (mem : Mm), RO E mt_Sight_take (k20 v3 v4 mem) 20 [(0, rf 104), (1, rf 98), (2, vi p2), (3, vi v3), (4, vi v4)] [] mem) (v3 : Int) (v4 : Int)  (mem : Mm) : RO E mt_Sight_take (bo_Sight_take_20 p2 k10 k20 v3 v4 mem) 20 [(0, rf 104), (1, rf 98), (2, vi p2), (3, vi v3), (4, vi v4)] [] mem := by
  unfold bo_Sight_take_20
  refine RO_iload dc_Sight_take_20 rfl ?_
  refine RO_iload_n dc_Sight_take_22 rfl rfl ?_
  refine RO_iconst dc_Sight_take_23 ?_
  refine RO_imul dc_Sight_take_24 ?_
  refine RO_aload_n dc_Sight_take_25 rfl rfl ?_
  refine RO_getRN (b := 99) gn_Sight_25 (by decide) rfl lk_98 rfl dc_Sight_take_26 ?_
  refine RO_iload_n dc_Sight_take_29 rfl rfl ?_
  refine RO_chk (fun hi1 => ?_)
  refine RO_ia lk_99 hi1 dc_Sight_take_30 ?_
  refine RO_iadd dc_Sight_take_31 ?_
  refine RO_icmp_ge (tgt := 93) dc_Sight_take_32 rfl ?_ ?_
  · refine RO_aload_n dc_Sight_take_35 rfl rfl ?_
    refine RO_getRN (b := 101) gn_Sight_30 (by decide) rfl lk_98 rfl dc_Sight_take_36 ?_
    refine RO_iload dc_Sight_take_39 rfl ?_
    refine RO_chk (fun hi2 => ?_)
    refine RO_ia lk_101 hi2 dc_Sight_take_41 ?_
    refine RO_bnT (fun x3 => ?_)
    refine RO_istore dc_Sight_take_42 (Nat.le_of_ble_eq_true rfl) ?_
    refine RO_sub ?_ (rp_Sight_take_44 p2 k10 k20 H10 H20 FU v3 v4 x3 mem)
    exact ⟨rfl, rfl, rfl, rfl, rfl, rfl, trivial⟩
  · refine RO_sub ?_ (rb_Sight_take_93 p2 k10 H10 v3 mem)
    exact ⟨rfl, rfl, rfl, rfl, trivial⟩
def lp_Sight_take_20 (p2 : Int) (k10 : Int → Mm → Res) : Nat → Int → Int → Mm → Res
  | 0 => fun _ _ _ => none
  | n + 1 => bo_Sight_take_20 p2 k10 (lp_Sight_take_20 p2 k10 n)
theorem rp_Sight_take_20 {E : EE} (p2 : Int)  (k10 : Int → Mm → Res) (H10 : ∀ (v3 : Int)  (mem : Mm), RO E mt_Sight_take (k10 v3 mem) 10 [(0, rf 104), (1, rf 98), (2, vi p2), (3, vi v3)] [] mem) : ∀ (n : Nat) (v3 : Int) (v4 : Int)  (mem : Mm), RO E mt_Sight_take (lp_Sight_take_20 p2 k10 n v3 v4 mem) 20 [(0, rf 104), (1, rf 98), (2, vi p2), (3, vi v3), (4, vi v4)] [] mem := by
  intro n
  induction n with
  | zero => intro v3 v4  mem; exact RO_none
  | succ n ih => intro v3 v4  mem; exact rb_Sight_take_20 p2  k10 (lp_Sight_take_20 p2 k10 n) H10 ih v3 v4  mem
def bo_Sight_take_10 (p2 : Int) (k10 : Int → Mm → Res) (v3 : Int) (mem : Mm) : Res := if v3 < p2 then (bn (w32 (v3 * 4)) fun x1 => lp_Sight_take_20 p2 k10 FU v3 x1 mem) else (some (0, mem))
set_option maxHeartbeats 4000000 in
theorem rb_Sight_take_10 {E : EE} (p2 : Int)  (k10 : Int → Mm → Res) (H10 : ∀ (v3 : Int)  (mem : Mm), RO E mt_Sight_take (k10 v3 mem) 10 [(0, rf 104), (1, rf 98), (2, vi p2), (3, vi v3)] [] mem) (v3 : Int)  (mem : Mm) : RO E mt_Sight_take (bo_Sight_take_10 p2 k10 v3 mem) 10 [(0, rf 104), (1, rf 98), (2, vi p2), (3, vi v3)] [] mem := by
  unfold bo_Sight_take_10
  refine RO_iload_n dc_Sight_take_10 rfl rfl ?_
  refine RO_iload_n dc_Sight_take_11 rfl rfl ?_
  refine RO_icmp_ge (tgt := 99) dc_Sight_take_12 rfl ?_ ?_
  · refine RO_iload_n dc_Sight_take_15 rfl rfl ?_
    refine RO_iconst dc_Sight_take_16 ?_
    refine RO_imul dc_Sight_take_17 ?_
    refine RO_bnT (fun x1 => ?_)
    refine RO_istore dc_Sight_take_18 (Nat.le_of_ble_eq_true rfl) ?_
    refine RO_sub ?_ (rp_Sight_take_20 p2 k10 H10 FU v3 x1 mem)
    exact ⟨rfl, rfl, rfl, rfl, rfl, trivial⟩
  · exact RO_vret rfl dc_Sight_take_99
def lp_Sight_take_10 (p2 : Int)  : Nat → Int → Mm → Res
  | 0 => fun _ _ => none
  | n + 1 => bo_Sight_take_10 p2  (lp_Sight_take_10 p2  n)
theorem rp_Sight_take_10 {E : EE} (p2 : Int)    : ∀ (n : Nat) (v3 : Int)  (mem : Mm), RO E mt_Sight_take (lp_Sight_take_10 p2  n v3 mem) 10 [(0, rf 104), (1, rf 98), (2, vi p2), (3, vi v3)] [] mem := by
  intro n
  induction n with
  | zero => intro v3  mem; exact RO_none
  | succ n ih => intro v3  mem; exact rb_Sight_take_10 p2   (lp_Sight_take_10 p2  n)  ih v3  mem
def fn_Sight_take (p2 : Int) (mem : Mm) : Res := bd (fn_Arrays_fillI 1440 105 0 mem) fun r1 m2 => lp_Sight_take_10 p2 FU 0 m2
set_option maxHeartbeats 4000000 in
theorem pf_Sight_take {E : EE} (p2 : Int)  (mem : Mm) {r : Int} {mem9 : Mm} (h : fn_Sight_take p2 mem = some (r, mem9)) : MetX E 2 yn_Sight_take cd_Sight_take 6 none [rf 104, rf 98, vi p2] mem r mem9 := by
  refine RO_met (y := yn_Sight_take) (by decide +kernel) (Nat.le_of_ble_eq_true rfl) ?_ h
  show RO E mt_Sight_take (fn_Sight_take p2 mem) 0 [(0, rf 104), (1, rf 98), (2, vi p2)] [] mem
  unfold fn_Sight_take
  refine RO_aload_n dc_Sight_take_0 rfl rfl ?_
  refine RO_getR (b := 105) gf_Sight_9 lk_104 rfl dc_Sight_take_1 ?_
  refine RO_iconst dc_Sight_take_4 ?_
  refine RO_callSv (As := [rf 105, vi 0]) (rest := []) mi_Arrays_fillI ms_Arrays_fillI ml_Sight_19 (Nat.le_of_ble_eq_true rfl) rfl (Nat.le_of_ble_eq_true rfl) dc_Sight_take_5 (fun rq mq hq => pf_Arrays_fillI 1440 105 0 lk_105 mem hq) (fun r1 m2 => ?_)
  refine RO_iconst dc_Sight_take_8 ?_
  refine RO_istore_n dc_Sight_take_9 rfl (Nat.le_of_ble_eq_true rfl) ?_
  refine RO_sub ?_ (rp_Sight_take_10 p2 FU 0 m2)
  exact ⟨rfl, rfl, rfl, rfl, trivial⟩
def bo_Sight_isMeeting_2 (p1 : Int) (k2 : Int → Mm → Res) (v2 : Int) (mem : Mm) : Res := if v2 < 6 then (bd (fn_Sight_at v2 p1 mem) fun r1 m2 => bd (fn_Integer_bitCount r1 m2) fun r3 m4 => if 1 < r3 then (some (1, m4)) else (k2 (w32 (v2 + 1)) m4)) else (some (0, mem))
set_option maxHeartbeats 4000000 in
theorem rb_Sight_isMeeting_2 {E : EE} (p1 : Int)  (k2 : Int → Mm → Res) (H2 : ∀ (v2 : Int)  (mem : Mm), RO E mt_Sight_isMeeting (k2 v2 mem) 2 [(0, rf 104), (1, vi p1), (2, vi v2)] [] mem) (v2 : Int)  (mem : Mm) : RO E mt_Sight_isMeeting (bo_Sight_isMeeting_2 p1 k2 v2 mem) 2 [(0, rf 104), (1, vi p1), (2, vi v2)] [] mem := by
  unfold bo_Sight_isMeeting_2
  refine RO_iload_n dc_Sight_isMeeting_2 rfl rfl ?_
  refine RO_bipush dc_Sight_isMeeting_3 ?_
  refine RO_icmp_ge (tgt := 29) dc_Sight_isMeeting_5 rfl ?_ ?_
  · refine RO_aload_n dc_Sight_isMeeting_8 rfl rfl ?_
    refine RO_iload_n dc_Sight_isMeeting_9 rfl rfl ?_
    refine RO_iload_n dc_Sight_isMeeting_10 rfl rfl ?_
    refine RO_callVi (As := [vi v2, vi p1]) (rest := []) mi_Sight_at mv_Sight_at ml_Sight_39 lk_104 (Nat.le_of_ble_eq_true rfl) rfl (Nat.le_of_ble_eq_true rfl) (fun _ => rfl) dc_Sight_isMeeting_11 (fun rq mq hq => pf_Sight_at v2 p1  mem hq) (fun r1 m2 => ?_)
    refine RO_callSi (As := [vi r1]) (rest := []) mi_Integer_bitCount ms_Integer_bitCount ml_Sight_43 (Nat.le_of_ble_eq_true rfl) rfl (Nat.le_of_ble_eq_true rfl) (fun _ => rfl) dc_Sight_isMeeting_14 (fun rq mq hq => pf_Integer_bitCount r1  m2 hq) (fun r3 m4 => ?_)
    refine RO_iconst dc_Sight_isMeeting_17 ?_
    refine RO_icmp_le (tgt := 23) dc_Sight_isMeeting_18 rfl ?_ ?_
    · refine RO_iconst dc_Sight_isMeeting_21 ?_
      exact RO_zret rfl (Or.inr rfl) dc_Sight_isMeeting_22
    · refine RO_iinc dc_Sight_isMeeting_23 rfl (Nat.le_of_ble_eq_true rfl) ?_
      refine RO_goto (tgt := 2) dc_Sight_isMeeting_26 rfl ?_
      refine RO_sub ?_ (H2 (w32 (v2 + 1)) m4)
      exact ⟨rfl, rfl, rfl, trivial⟩
  · refine RO_iconst dc_Sight_isMeeting_29 ?_
    exact RO_zret rfl (Or.inl rfl) dc_Sight_isMeeting_30
def lp_Sight_isMeeting_2 (p1 : Int)  : Nat → Int → Mm → Res
  | 0 => fun _ _ => none
  | n + 1 => bo_Sight_isMeeting_2 p1  (lp_Sight_isMeeting_2 p1  n)
theorem rp_Sight_isMeeting_2 {E : EE} (p1 : Int)    : ∀ (n : Nat) (v2 : Int)  (mem : Mm), RO E mt_Sight_isMeeting (lp_Sight_isMeeting_2 p1  n v2 mem) 2 [(0, rf 104), (1, vi p1), (2, vi v2)] [] mem := by
  intro n
  induction n with
  | zero => intro v2  mem; exact RO_none
  | succ n ih => intro v2  mem; exact rb_Sight_isMeeting_2 p1   (lp_Sight_isMeeting_2 p1  n)  ih v2  mem
def fn_Sight_isMeeting (p1 : Int) (mem : Mm) : Res := lp_Sight_isMeeting_2 p1 FU 0 mem
set_option maxHeartbeats 4000000 in
theorem pf_Sight_isMeeting {E : EE} (p1 : Int)  (mem : Mm) {r : Int} {mem9 : Mm} (h : fn_Sight_isMeeting p1 mem = some (r, mem9)) : MetX E 2 yn_Sight_isMeeting cd_Sight_isMeeting 3 (some .boolean) [rf 104, vi p1] mem r mem9 := by
  refine RO_met (y := yn_Sight_isMeeting) (by decide +kernel) (Nat.le_of_ble_eq_true rfl) ?_ h
  show RO E mt_Sight_isMeeting (fn_Sight_isMeeting p1 mem) 0 [(0, rf 104), (1, vi p1)] [] mem
  unfold fn_Sight_isMeeting
  refine RO_iconst dc_Sight_isMeeting_0 ?_
  refine RO_istore_n dc_Sight_isMeeting_1 rfl (Nat.le_of_ble_eq_true rfl) ?_
  refine RO_sub ?_ (rp_Sight_isMeeting_2 p1 FU 0 mem)
  exact ⟨rfl, rfl, rfl, trivial⟩
def bo_Sight_firstToHaveMet_116 (p1 : Nat) (p2 : Int) (p3 : Int) (p4 : Int) (p5 : Int) (k26 : Int → Mm → Res) (v6 : Int) (mem : Mm) : Res := k26 (w32 (v6 + 1)) mem
set_option maxHeartbeats 4000000 in
theorem rb_Sight_firstToHaveMet_116 {E : EE} (p1 : Nat) (p2 : Int) (p3 : Int) (p4 : Int) (p5 : Int) (hk_p1 : ly_k p1 = (0, 15)) (k26 : Int → Mm → Res) (H26 : ∀ (v6 : Int)  (mem : Mm), RO E mt_Sight_firstToHaveMet (k26 v6 mem) 26 [(0, rf 104), (1, rf p1), (2, vi p2), (5, vi p5), (6, vi v6)] [] mem) (v6 : Int)  (mem : Mm) : RO E mt_Sight_firstToHaveMet (bo_Sight_firstToHaveMet_116 p1 p2 p3 p4 p5 k26 v6 mem) 116 [(0, rf 104), (1, rf p1), (2, vi p2), (5, vi p5), (6, vi v6)] [] mem := by
  unfold bo_Sight_firstToHaveMet_116
  refine RO_iinc dc_Sight_firstToHaveMet_116 rfl (Nat.le_of_ble_eq_true rfl) ?_
  refine RO_goto (tgt := 26) dc_Sight_firstToHaveMet_119 rfl ?_
  refine RO_sub ?_ (H26 (w32 (v6 + 1)) mem)
  exact ⟨rfl, rfl, rfl, rfl, rfl, trivial⟩
def bo_Sight_firstToHaveMet_110 (p1 : Nat) (p2 : Int) (p3 : Int) (p4 : Int) (p5 : Int) (k26 : Int → Mm → Res) (k37 : Int → Int → Mm → Res) (v6 : Int) (v7 : Int) (mem : Mm) : Res := k37 v6 (w32 (v7 + 1)) mem
set_option maxHeartbeats 4000000 in
theorem rb_Sight_firstToHaveMet_110 {E : EE} (p1 : Nat) (p2 : Int) (p3 : Int) (p4 : Int) (p5 : Int) (hk_p1 : ly_k p1 = (0, 15)) (k26 : Int → Mm → Res) (k37 : Int → Int → Mm → Res) (H26 : ∀ (v6 : Int)  (mem : Mm), RO E mt_Sight_firstToHaveMet (k26 v6 mem) 26 [(0, rf 104), (1, rf p1), (2, vi p2), (5, vi p5), (6, vi v6)] [] mem) (H37 : ∀ (v6 : Int) (v7 : Int)  (mem : Mm), RO E mt_Sight_firstToHaveMet (k37 v6 v7 mem) 37 [(0, rf 104), (1, rf p1), (2, vi p2), (5, vi p5), (6, vi v6), (7, vi v7)] [] mem) (v6 : Int) (v7 : Int)  (mem : Mm) : RO E mt_Sight_firstToHaveMet (bo_Sight_firstToHaveMet_110 p1 p2 p3 p4 p5 k26 k37 v6 v7 mem) 110 [(0, rf 104), (1, rf p1), (2, vi p2), (5, vi p5), (6, vi v6), (7, vi v7)] [] mem := by
  unfold bo_Sight_firstToHaveMet_110
  refine RO_iinc dc_Sight_firstToHaveMet_110 rfl (Nat.le_of_ble_eq_true rfl) ?_
  refine RO_goto (tgt := 37) dc_Sight_firstToHaveMet_113 rfl ?_
  refine RO_sub ?_ (H37 v6 (w32 (v7 + 1)) mem)
  exact ⟨rfl, rfl, rfl, rfl, rfl, rfl, trivial⟩
def bo_Sight_firstToHaveMet_37 (p1 : Nat) (p2 : Int) (p3 : Int) (p4 : Int) (p5 : Int) (k26 : Int → Mm → Res) (k37 : Int → Int → Mm → Res) (v6 : Int) (v7 : Int) (mem : Mm) : Res := if v7 < (mem p1 0) then (if 0 ≤ w32 ((w32 (v7 * 240)) + v6) ∧ w32 ((w32 (v7 * 240)) + v6) < 1440 then bd (fn_Sight_at v7 v6 mem) fun r2 m3 => bd (fn_Sight_join (mem 106 (w32 ((w32 (v7 * 240)) + v6)).toNat) (iand r2 p5) m3) fun r4 m5 => if (lcm (land (lushr r4 p5) 1) 0) = 0 then (if (lcm r4 0) = 0 then (bo_Sight_firstToHaveMet_110 p1 p2 p3 p4 p5 k26 k37 v6 v7 m5) else (bd (fn_Sight_spread p1 p2 v7 v6 r4 m5) fun r6 m7 => bo_Sight_firstToHaveMet_110 p1 p2 p3 p4 p5 k26 k37 v6 v7 m7)) else (some (v6, m5)) else none) else (bo_Sight_firstToHaveMet_116 p1 p2 p3 p4 p5 k26 v6 mem)
set_option maxHeartbeats 4000000 in
theorem rb_Sight_firstToHaveMet_37 {E : EE} (p1 : Nat) (p2 : Int) (p3 : Int) (p4 : Int) (p5 : Int) (hk_p1 : ly_k p1 = (0, 15)) (k26 : Int → Mm → Res) (k37 : Int → Int → Mm → Res) (H26 : ∀ (v6 : Int)  (mem : Mm), RO E mt_Sight_firstToHaveMet (k26 v6 mem) 26 [(0, rf 104), (1, rf p1), (2, vi p2), (5, vi p5), (6, vi v6)] [] mem) (H37 : ∀ (v6 : Int) (v7 : Int)  (mem : Mm), RO E mt_Sight_firstToHaveMet (k37 v6 v7 mem) 37 [(0, rf 104), (1, rf p1), (2, vi p2), (5, vi p5), (6, vi v6), (7, vi v7)] [] mem) (v6 : Int) (v7 : Int)  (mem : Mm) : RO E mt_Sight_firstToHaveMet (bo_Sight_firstToHaveMet_37 p1 p2 p3 p4 p5 k26 k37 v6 v7 mem) 37 [(0, rf 104), (1, rf p1), (2, vi p2), (5, vi p5), (6, vi v6), (7, vi v7)] [] mem := by
  unfold bo_Sight_firstToHaveMet_37
  refine RO_iload dc_Sight_firstToHaveMet_37 rfl ?_
  refine RO_aload_n dc_Sight_firstToHaveMet_39 rfl rfl ?_
  refine RO_getI gf_Sight_52 hk_p1 dc_Sight_firstToHaveMet_40 ?_
  refine RO_icmp_ge (tgt := 116) dc_Sight_firstToHaveMet_43 rfl ?_ ?_
  · refine RO_aload_n dc_Sight_firstToHaveMet_46 rfl rfl ?_
    refine RO_getR (b := 106) gf_Sight_15 lk_104 rfl dc_Sight_firstToHaveMet_47 ?_
    refine RO_iload dc_Sight_firstToHaveMet_50 rfl ?_
    refine RO_sipush dc_Sight_firstToHaveMet_52 ?_
    refine RO_imul dc_Sight_firstToHaveMet_55 ?_
    refine RO_iload dc_Sight_firstToHaveMet_56 rfl ?_
    refine RO_iadd dc_Sight_firstToHaveMet_58 ?_
    refine RO_chk (fun hi1 => ?_)
    refine RO_la lk_106 hi1 dc_Sight_firstToHaveMet_59 ?_
    refine RO_aload_n dc_Sight_firstToHaveMet_60 rfl rfl ?_
    refine RO_iload dc_Sight_firstToHaveMet_61 rfl ?_
    refine RO_iload dc_Sight_firstToHaveMet_63 rfl ?_
    refine RO_callVi (As := [vi v7, vi v6]) (rest := [vl (mem 106 (w32 ((w32 (v7 * 240)) + v6)).toNat)]) mi_Sight_at mv_Sight_at ml_Sight_39 lk_104 (Nat.le_of_ble_eq_true rfl) rfl (Nat.le_of_ble_eq_true rfl) (fun _ => rfl) dc_Sight_firstToHaveMet_65 (fun rq mq hq => pf_Sight_at v7 v6  mem hq) (fun r2 m3 => ?_)
    refine RO_iload dc_Sight_firstToHaveMet_68 rfl ?_
    refine RO_iand dc_Sight_firstToHaveMet_70 ?_
    refine RO_callSl (As := [vl (mem 106 (w32 ((w32 (v7 * 240)) + v6)).toNat), vi (iand r2 p5)]) (rest := []) mi_Sight_join ms_Sight_join ml_Sight_58 (Nat.le_of_ble_eq_true rfl) rfl (Nat.le_of_ble_eq_true rfl) dc_Sight_firstToHaveMet_71 (fun rq mq hq => pf_Sight_join (mem 106 (w32 ((w32 (v7 * 240)) + v6)).toNat) (iand r2 p5)  m3 hq) (fun r4 m5 => ?_)
    refine RO_lstore dc_Sight_firstToHaveMet_74 (Nat.le_of_ble_eq_true rfl) ?_
    refine RO_lload dc_Sight_firstToHaveMet_76 rfl ?_
    refine RO_iload dc_Sight_firstToHaveMet_78 rfl ?_
    refine RO_lushr dc_Sight_firstToHaveMet_80 ?_
    refine RO_lconst (x := 1) dc_Sight_firstToHaveMet_81 ⟨by decide, ⟨by decide, by decide⟩⟩ ?_
    refine RO_land dc_Sight_firstToHaveMet_82 ?_
    refine RO_lconst (x := 0) dc_Sight_firstToHaveMet_83 ⟨by decide, ⟨by decide, by decide⟩⟩ ?_
    refine RO_lcmp dc_Sight_firstToHaveMet_84 ?_
    refine RO_if_eq (tgt := 91) dc_Sight_firstToHaveMet_85 rfl ?_ ?_
    · refine RO_lload dc_Sight_firstToHaveMet_91 rfl ?_
      refine RO_lconst (x := 0) dc_Sight_firstToHaveMet_93 ⟨by decide, ⟨by decide, by decide⟩⟩ ?_
      refine RO_lcmp dc_Sight_firstToHaveMet_94 ?_
      refine RO_if_eq (tgt := 110) dc_Sight_firstToHaveMet_95 rfl ?_ ?_
      · refine RO_sub ?_ (rb_Sight_firstToHaveMet_110 p1 p2 p3 p4 p5 hk_p1 k26 k37 H26 H37 v6 v7 m5)
        exact ⟨rfl, rfl, rfl, rfl, rfl, rfl, trivial⟩
      · refine RO_aload_n dc_Sight_firstToHaveMet_98 rfl rfl ?_
        refine RO_aload_n dc_Sight_firstToHaveMet_99 rfl rfl ?_
        refine RO_iload_n dc_Sight_firstToHaveMet_100 rfl rfl ?_
        refine RO_iload dc_Sight_firstToHaveMet_101 rfl ?_
        refine RO_iload dc_Sight_firstToHaveMet_103 rfl ?_
        refine RO_lload dc_Sight_firstToHaveMet_105 rfl ?_
        refine RO_callVv (As := [rf p1, vi p2, vi v7, vi v6, vl r4]) (rest := []) mi_Sight_spread mv_Sight_spread ml_Sight_62 lk_104 (Nat.le_of_ble_eq_true rfl) rfl (Nat.le_of_ble_eq_true rfl) dc_Sight_firstToHaveMet_107 (fun rq mq hq => pf_Sight_spread p1 p2 v7 v6 r4 hk_p1 m5 hq) (fun r6 m7 => ?_)
        refine RO_sub ?_ (rb_Sight_firstToHaveMet_110 p1 p2 p3 p4 p5 hk_p1 k26 k37 H26 H37 v6 v7 m7)
        exact ⟨rfl, rfl, rfl, rfl, rfl, rfl, trivial⟩
    · refine RO_iload dc_Sight_firstToHaveMet_88 rfl ?_
      exact RO_iret rfl dc_Sight_firstToHaveMet_90
  · refine RO_sub ?_ (rb_Sight_firstToHaveMet_116 p1 p2 p3 p4 p5 hk_p1 k26 H26 v6 mem)
    exact ⟨rfl, rfl, rfl, rfl, rfl, trivial⟩
def lp_Sight_firstToHaveMet_37 (p1 : Nat) (p2 : Int) (p3 : Int) (p4 : Int) (p5 : Int) (k26 : Int → Mm → Res) : Nat → Int → Int → Mm → Res
  | 0 => fun _ _ _ => none
  | n + 1 => bo_Sight_firstToHaveMet_37 p1 p2 p3 p4 p5 k26 (lp_Sight_firstToHaveMet_37 p1 p2 p3 p4 p5 k26 n)
theorem rp_Sight_firstToHaveMet_37 {E : EE} (p1 : Nat) (p2 : Int) (p3 : Int) (p4 : Int) (p5 : Int) (hk_p1 : ly_k p1 = (0, 15)) (k26 : Int → Mm → Res) (H26 : ∀ (v6 : Int)  (mem : Mm), RO E mt_Sight_firstToHaveMet (k26 v6 mem) 26 [(0, rf 104), (1, rf p1), (2, vi p2), (5, vi p5), (6, vi v6)] [] mem) : ∀ (n : Nat) (v6 : Int) (v7 : Int)  (mem : Mm), RO E mt_Sight_firstToHaveMet (lp_Sight_firstToHaveMet_37 p1 p2 p3 p4 p5 k26 n v6 v7 mem) 37 [(0, rf 104), (1, rf p1), (2, vi p2), (5, vi p5), (6, vi v6), (7, vi v7)] [] mem := by
  intro n
  induction n with
  | zero => intro v6 v7  mem; exact RO_none
  | succ n ih => intro v6 v7  mem; exact rb_Sight_firstToHaveMet_37 p1 p2 p3 p4 p5 hk_p1 k26 (lp_Sight_firstToHaveMet_37 p1 p2 p3 p4 p5 k26 n) H26 ih v6 v7  mem
def bo_Sight_firstToHaveMet_26 (p1 : Nat) (p2 : Int) (p3 : Int) (p4 : Int) (p5 : Int) (k26 : Int → Mm → Res) (v6 : Int) (mem : Mm) : Res := if v6 < 240 then (lp_Sight_firstToHaveMet_37 p1 p2 p3 p4 p5 k26 FU v6 0 mem) else (some ((-1), mem))
set_option maxHeartbeats 4000000 in
theorem rb_Sight_firstToHaveMet_26 {E : EE} (p1 : Nat) (p2 : Int) (p3 : Int) (p4 : Int) (p5 : Int) (hk_p1 : ly_k p1 = (0, 15)) (k26 : Int → Mm → Res) (H26 : ∀ (v6 : Int)  (mem : Mm), RO E mt_Sight_firstToHaveMet (k26 v6 mem) 26 [(0, rf 104), (1, rf p1), (2, vi p2), (5, vi p5), (6, vi v6)] [] mem) (v6 : Int)  (mem : Mm) : RO E mt_Sight_firstToHaveMet (bo_Sight_firstToHaveMet_26 p1 p2 p3 p4 p5 k26 v6 mem) 26 [(0, rf 104), (1, rf p1), (2, vi p2), (5, vi p5), (6, vi v6)] [] mem := by
  unfold bo_Sight_firstToHaveMet_26
  refine RO_iload dc_Sight_firstToHaveMet_26 rfl ?_
  refine RO_sipush dc_Sight_firstToHaveMet_28 ?_
  refine RO_icmp_ge (tgt := 122) dc_Sight_firstToHaveMet_31 rfl ?_ ?_
  · refine RO_iconst dc_Sight_firstToHaveMet_34 ?_
    refine RO_istore dc_Sight_firstToHaveMet_35 (Nat.le_of_ble_eq_true rfl) ?_
    refine RO_sub ?_ (rp_Sight_firstToHaveMet_37 p1 p2 p3 p4 p5 hk_p1 k26 H26 FU v6 0 mem)
    exact ⟨rfl, rfl, rfl, rfl, rfl, rfl, trivial⟩
  · refine RO_iconst dc_Sight_firstToHaveMet_122 ?_
    exact RO_iret rfl dc_Sight_firstToHaveMet_123
def lp_Sight_firstToHaveMet_26 (p1 : Nat) (p2 : Int) (p3 : Int) (p4 : Int) (p5 : Int)  : Nat → Int → Mm → Res
  | 0 => fun _ _ => none
  | n + 1 => bo_Sight_firstToHaveMet_26 p1 p2 p3 p4 p5  (lp_Sight_firstToHaveMet_26 p1 p2 p3 p4 p5  n)
theorem rp_Sight_firstToHaveMet_26 {E : EE} (p1 : Nat) (p2 : Int) (p3 : Int) (p4 : Int) (p5 : Int) (hk_p1 : ly_k p1 = (0, 15))   : ∀ (n : Nat) (v6 : Int)  (mem : Mm), RO E mt_Sight_firstToHaveMet (lp_Sight_firstToHaveMet_26 p1 p2 p3 p4 p5  n v6 mem) 26 [(0, rf 104), (1, rf p1), (2, vi p2), (5, vi p5), (6, vi v6)] [] mem := by
  intro n
  induction n with
  | zero => intro v6  mem; exact RO_none
  | succ n ih => intro v6  mem; exact rb_Sight_firstToHaveMet_26 p1 p2 p3 p4 p5 hk_p1  (lp_Sight_firstToHaveMet_26 p1 p2 p3 p4 p5  n)  ih v6  mem
def fn_Sight_firstToHaveMet (p1 : Nat) (p2 : Int) (p3 : Int) (p4 : Int) (p5 : Int) (mem : Mm) : Res := bd (fn_Arrays_fillJ 1440 106 0 mem) fun r1 m2 => if 0 ≤ w32 ((w32 (p3 * 240)) + p4) ∧ w32 ((w32 (p3 * 240)) + p4) < 1440 then bn (mst m2 106 (w32 ((w32 (p3 * 240)) + p4)).toNat 1) fun m4 => lp_Sight_firstToHaveMet_26 p1 p2 p3 p4 p5 FU p4 m4 else none
set_option maxHeartbeats 4000000 in
theorem pf_Sight_firstToHaveMet {E : EE} (p1 : Nat) (p2 : Int) (p3 : Int) (p4 : Int) (p5 : Int) (hk_p1 : ly_k p1 = (0, 15)) (mem : Mm) {r : Int} {mem9 : Mm} (h : fn_Sight_firstToHaveMet p1 p2 p3 p4 p5 mem = some (r, mem9)) : MetX E 2 yn_Sight_firstToHaveMet cd_Sight_firstToHaveMet 10 (some .int) [rf 104, rf p1, vi p2, vi p3, vi p4, vi p5] mem r mem9 := by
  refine RO_met (y := yn_Sight_firstToHaveMet) (by decide +kernel) (Nat.le_of_ble_eq_true rfl) ?_ h
  show RO E mt_Sight_firstToHaveMet (fn_Sight_firstToHaveMet p1 p2 p3 p4 p5 mem) 0 [(0, rf 104), (1, rf p1), (2, vi p2), (3, vi p3), (4, vi p4), (5, vi p5)] [] mem
  unfold fn_Sight_firstToHaveMet
  refine RO_aload_n dc_Sight_firstToHaveMet_0 rfl rfl ?_
  refine RO_getR (b := 106) gf_Sight_15 lk_104 rfl dc_Sight_firstToHaveMet_1 ?_
  refine RO_lconst (x := 0) dc_Sight_firstToHaveMet_4 ⟨by decide, ⟨by decide, by decide⟩⟩ ?_
  refine RO_callSv (As := [rf 106, vl 0]) (rest := []) mi_Arrays_fillJ ms_Arrays_fillJ ml_Sight_49 (Nat.le_of_ble_eq_true rfl) rfl (Nat.le_of_ble_eq_true rfl) dc_Sight_firstToHaveMet_5 (fun rq mq hq => pf_Arrays_fillJ 1440 106 0 lk_106 mem hq) (fun r1 m2 => ?_)
  refine RO_aload_n dc_Sight_firstToHaveMet_8 rfl rfl ?_
  refine RO_getR (b := 106) gf_Sight_15 lk_104 rfl dc_Sight_firstToHaveMet_9 ?_
  refine RO_iload_n dc_Sight_firstToHaveMet_12 rfl rfl ?_
  refine RO_sipush dc_Sight_firstToHaveMet_13 ?_
  refine RO_imul dc_Sight_firstToHaveMet_16 ?_
  refine RO_iload dc_Sight_firstToHaveMet_17 rfl ?_
  refine RO_iadd dc_Sight_firstToHaveMet_19 ?_
  refine RO_lconst (x := 1) dc_Sight_firstToHaveMet_20 ⟨by decide, ⟨by decide, by decide⟩⟩ ?_
  refine RO_chk (fun hi3 => ?_)
  refine RO_lst lk_106 hi3 dc_Sight_firstToHaveMet_21 ?_
  refine RO_bnM (fun m4 => ?_)
  refine RO_iload dc_Sight_firstToHaveMet_22 rfl ?_
  refine RO_istore dc_Sight_firstToHaveMet_24 (Nat.le_of_ble_eq_true rfl) ?_
  refine RO_sub ?_ (rp_Sight_firstToHaveMet_26 p1 p2 p3 p4 p5 hk_p1 FU p4 m4)
  exact ⟨rfl, rfl, rfl, rfl, rfl, trivial⟩
def fn_Standing_copy (th : Nat) (p1 : Nat) (mem : Mm) : Res := bd (fn_State_copy (th + 1) (p1 + 1) mem) fun r1 m2 => bd (fn_Lines_copy (th + 4) (p1 + 4) m2) fun r3 m4 => bn (mst m4 th 3 (m4 p1 3)) fun m5 => bn (mcp m5 (p1 + 8) (0 : Int).toNat (th + 8) (0 : Int).toNat (8 : Int).toNat) fun m6 => bn (mcp m6 (p1 + 9) (0 : Int).toNat (th + 9) (0 : Int).toNat (8 : Int).toNat) fun m7 => bn (mst m7 th 6 (m7 p1 6)) fun m8 => bn (mcp m8 (p1 + 10) (0 : Int).toNat (th + 10) (0 : Int).toNat (6 : Int).toNat) fun m9 => some (0, m9)
set_option maxHeartbeats 4000000 in
theorem pf_Standing_copy {E : EE} (th : Nat) (p1 : Nat) (hk_th : ly_k th = (5, 8)) (hk_p1 : ly_k p1 = (5, 8)) (mem : Mm) {r : Int} {mem9 : Mm} (h : fn_Standing_copy th p1 mem = some (r, mem9)) : MetX E 2 yn_Standing_copy cd_Standing_copy 2 none [rf th, rf p1] mem r mem9 := by
  refine RO_met (y := yn_Standing_copy) (by decide +kernel) (Nat.le_of_ble_eq_true rfl) ?_ h
  show RO E mt_Standing_copy (fn_Standing_copy th p1 mem) 0 [(0, rf th), (1, rf p1)] [] mem
  unfold fn_Standing_copy
  refine RO_aload_n dc_Standing_copy_0 rfl rfl ?_
  refine RO_getR (b := (th + 1)) gf_Standing_12 hk_th (by omega) dc_Standing_copy_1 ?_
  refine RO_aload_n dc_Standing_copy_4 rfl rfl ?_
  refine RO_getR (b := (p1 + 1)) gf_Standing_12 hk_p1 (by omega) dc_Standing_copy_5 ?_
  refine RO_callVv (As := [rf (p1 + 1)]) (rest := []) mi_State_copy mv_State_copy ml_Standing_52 (cl_5_1 hk_th) (Nat.le_of_ble_eq_true rfl) rfl (Nat.le_of_ble_eq_true rfl) dc_Standing_copy_8 (fun rq mq hq => pf_State_copy (th + 1) (p1 + 1) (cl_5_1 hk_th) (cl_5_1 hk_p1) mem hq) (fun r1 m2 => ?_)
  refine RO_aload_n dc_Standing_copy_11 rfl rfl ?_
  refine RO_getR (b := (th + 4)) gf_Standing_21 hk_th (by omega) dc_Standing_copy_12 ?_
  refine RO_aload_n dc_Standing_copy_15 rfl rfl ?_
  refine RO_getR (b := (p1 + 4)) gf_Standing_21 hk_p1 (by omega) dc_Standing_copy_16 ?_
  refine RO_callVv (As := [rf (p1 + 4)]) (rest := []) mi_Lines_copy mv_Lines_copy ml_Standing_56 (cl_5_2 hk_th) (Nat.le_of_ble_eq_true rfl) rfl (Nat.le_of_ble_eq_true rfl) dc_Standing_copy_19 (fun rq mq hq => pf_Lines_copy (th + 4) (p1 + 4) (cl_5_2 hk_th) (cl_5_2 hk_p1) m2 hq) (fun r3 m4 => ?_)
  refine RO_aload_n dc_Standing_copy_22 rfl rfl ?_
  refine RO_aload_n dc_Standing_copy_23 rfl rfl ?_
  refine RO_getI gf_Standing_43 hk_p1 dc_Standing_copy_24 ?_
  refine RO_putI gp_Standing_43 hk_th dc_Standing_copy_27 ?_
  refine RO_bnM (fun m5 => ?_)
  refine RO_aload_n dc_Standing_copy_30 rfl rfl ?_
  refine RO_getR (b := (p1 + 8)) gf_Standing_25 hk_p1 (by omega) dc_Standing_copy_31 ?_
  refine RO_iconst dc_Standing_copy_34 ?_
  refine RO_aload_n dc_Standing_copy_35 rfl rfl ?_
  refine RO_getR (b := (th + 8)) gf_Standing_25 hk_th (by omega) dc_Standing_copy_36 ?_
  refine RO_iconst dc_Standing_copy_39 ?_
  refine RO_bipush dc_Standing_copy_40 ?_
  refine RO_copy mw_copy ml_Standing_59 (cl_5_4 hk_p1) (cl_5_4 hk_th) (by decide) (Nat.le_of_ble_eq_true rfl) (Nat.le_of_ble_eq_true rfl) dc_Standing_copy_42 ?_
  refine RO_bnM (fun m6 => ?_)
  refine RO_aload_n dc_Standing_copy_45 rfl rfl ?_
  refine RO_getR (b := (p1 + 9)) gf_Standing_29 hk_p1 (by omega) dc_Standing_copy_46 ?_
  refine RO_iconst dc_Standing_copy_49 ?_
  refine RO_aload_n dc_Standing_copy_50 rfl rfl ?_
  refine RO_getR (b := (th + 9)) gf_Standing_29 hk_th (by omega) dc_Standing_copy_51 ?_
  refine RO_iconst dc_Standing_copy_54 ?_
  refine RO_bipush dc_Standing_copy_55 ?_
  refine RO_copy mw_copy ml_Standing_59 (cl_5_5 hk_p1) (cl_5_5 hk_th) (by decide) (Nat.le_of_ble_eq_true rfl) (Nat.le_of_ble_eq_true rfl) dc_Standing_copy_57 ?_
  refine RO_bnM (fun m7 => ?_)
  refine RO_aload_n dc_Standing_copy_60 rfl rfl ?_
  refine RO_aload_n dc_Standing_copy_61 rfl rfl ?_
  refine RO_getI gf_Standing_65 hk_p1 dc_Standing_copy_62 ?_
  refine RO_putI gp_Standing_65 hk_th dc_Standing_copy_65 ?_
  refine RO_bnM (fun m8 => ?_)
  refine RO_aload_n dc_Standing_copy_68 rfl rfl ?_
  refine RO_getR (b := (p1 + 10)) gf_Standing_32 hk_p1 (by omega) dc_Standing_copy_69 ?_
  refine RO_iconst dc_Standing_copy_72 ?_
  refine RO_aload_n dc_Standing_copy_73 rfl rfl ?_
  refine RO_getR (b := (th + 10)) gf_Standing_32 hk_th (by omega) dc_Standing_copy_74 ?_
  refine RO_iconst dc_Standing_copy_77 ?_
  refine RO_bipush dc_Standing_copy_78 ?_
  refine RO_copy mw_copy ml_Standing_59 (cl_5_7 hk_p1) (cl_5_7 hk_th) (by decide) (Nat.le_of_ble_eq_true rfl) (Nat.le_of_ble_eq_true rfl) dc_Standing_copy_80 ?_
  refine RO_bnM (fun m9 => ?_)
  exact RO_vret rfl dc_Standing_copy_83
def bo_Standing_canBe_2 (th : Nat) (p2 : Int) (k2 : Int → Mm → Res) (v3 : Int) (mem : Mm) : Res := if v3 < (mem th 3) then (if 0 ≤ v3 ∧ v3 < 8 then bd (fn_Sight_at (mem (th + 9) v3.toNat) p2 mem) fun r2 m3 => if 0 ≤ v3 ∧ v3 < 8 then bn (iand (ishr r2 (m3 (th + 8) v3.toNat)) 1) fun x5 => if x5 = (iand (ishr (m3 th 6) v3) 1) then (k2 (w32 (v3 + 1)) m3) else (some (0, m3)) else none else none) else (some (1, mem))
set_option maxHeartbeats 4000000 in
theorem rb_Standing_canBe_2 {E : EE} (th : Nat) (p2 : Int) (hk_th : ly_k th = (5, 8)) (k2 : Int → Mm → Res) (H2 : ∀ (v3 : Int)  (mem : Mm), RO E mt_Standing_canBe (k2 v3 mem) 2 [(0, rf th), (1, rf 104), (2, vi p2), (3, vi v3)] [] mem) (v3 : Int)  (mem : Mm) : RO E mt_Standing_canBe (bo_Standing_canBe_2 th p2 k2 v3 mem) 2 [(0, rf th), (1, rf 104), (2, vi p2), (3, vi v3)] [] mem := by
  unfold bo_Standing_canBe_2
  refine RO_iload_n dc_Standing_canBe_2 rfl rfl ?_
  refine RO_aload_n dc_Standing_canBe_3 rfl rfl ?_
  refine RO_getI gf_Standing_43 hk_th dc_Standing_canBe_4 ?_
  refine RO_icmp_ge (tgt := 53) dc_Standing_canBe_7 rfl ?_ ?_
  · refine RO_aload_n dc_Standing_canBe_10 rfl rfl ?_
    refine RO_aload_n dc_Standing_canBe_11 rfl rfl ?_
    refine RO_getR (b := (th + 9)) gf_Standing_29 hk_th (by omega) dc_Standing_canBe_12 ?_
    refine RO_iload_n dc_Standing_canBe_15 rfl rfl ?_
    refine RO_chk (fun hi1 => ?_)
    refine RO_ia (cl_5_5 hk_th) hi1 dc_Standing_canBe_16 ?_
    refine RO_iload_n dc_Standing_canBe_17 rfl rfl ?_
    refine RO_callVi (As := [vi (mem (th + 9) v3.toNat), vi p2]) (rest := []) mi_Sight_at mv_Sight_at ml_Standing_68 lk_104 (Nat.le_of_ble_eq_true rfl) rfl (Nat.le_of_ble_eq_true rfl) (fun _ => rfl) dc_Standing_canBe_18 (fun rq mq hq => pf_Sight_at (mem (th + 9) v3.toNat) p2  mem hq) (fun r2 m3 => ?_)
    refine RO_aload_n dc_Standing_canBe_21 rfl rfl ?_
    refine RO_getR (b := (th + 8)) gf_Standing_25 hk_th (by omega) dc_Standing_canBe_22 ?_
    refine RO_iload_n dc_Standing_canBe_25 rfl rfl ?_
    refine RO_chk (fun hi4 => ?_)
    refine RO_ia (cl_5_4 hk_th) hi4 dc_Standing_canBe_26 ?_
    refine RO_ishr dc_Standing_canBe_27 ?_
    refine RO_iconst dc_Standing_canBe_28 ?_
    refine RO_iand dc_Standing_canBe_29 ?_
    refine RO_bnT (fun x5 => ?_)
    refine RO_istore dc_Standing_canBe_30 (Nat.le_of_ble_eq_true rfl) ?_
    refine RO_iload dc_Standing_canBe_32 rfl ?_
    refine RO_aload_n dc_Standing_canBe_34 rfl rfl ?_
    refine RO_getI gf_Standing_65 hk_th dc_Standing_canBe_35 ?_
    refine RO_iload_n dc_Standing_canBe_38 rfl rfl ?_
    refine RO_ishr dc_Standing_canBe_39 ?_
    refine RO_iconst dc_Standing_canBe_40 ?_
    refine RO_iand dc_Standing_canBe_41 ?_
    refine RO_icmp_eq (tgt := 47) dc_Standing_canBe_42 rfl ?_ ?_
    · refine RO_iinc dc_Standing_canBe_47 rfl (Nat.le_of_ble_eq_true rfl) ?_
      refine RO_goto (tgt := 2) dc_Standing_canBe_50 rfl ?_
      refine RO_sub ?_ (H2 (w32 (v3 + 1)) m3)
      exact ⟨rfl, rfl, rfl, rfl, trivial⟩
    · refine RO_iconst dc_Standing_canBe_45 ?_
      exact RO_zret rfl (Or.inl rfl) dc_Standing_canBe_46
  · refine RO_iconst dc_Standing_canBe_53 ?_
    exact RO_zret rfl (Or.inr rfl) dc_Standing_canBe_54
def lp_Standing_canBe_2 (th : Nat) (p2 : Int)  : Nat → Int → Mm → Res
  | 0 => fun _ _ => none
  | n + 1 => bo_Standing_canBe_2 th p2  (lp_Standing_canBe_2 th p2  n)
theorem rp_Standing_canBe_2 {E : EE} (th : Nat) (p2 : Int) (hk_th : ly_k th = (5, 8))   : ∀ (n : Nat) (v3 : Int)  (mem : Mm), RO E mt_Standing_canBe (lp_Standing_canBe_2 th p2  n v3 mem) 2 [(0, rf th), (1, rf 104), (2, vi p2), (3, vi v3)] [] mem := by
  intro n
  induction n with
  | zero => intro v3  mem; exact RO_none
  | succ n ih => intro v3  mem; exact rb_Standing_canBe_2 th p2 hk_th  (lp_Standing_canBe_2 th p2  n)  ih v3  mem
def fn_Standing_canBe (th : Nat) (p2 : Int) (mem : Mm) : Res := lp_Standing_canBe_2 th p2 FU 0 mem
set_option maxHeartbeats 4000000 in
theorem pf_Standing_canBe {E : EE} (th : Nat) (p2 : Int) (hk_th : ly_k th = (5, 8)) (mem : Mm) {r : Int} {mem9 : Mm} (h : fn_Standing_canBe th p2 mem = some (r, mem9)) : MetX E 2 yn_Standing_canBe cd_Standing_canBe 5 (some .boolean) [rf th, rf 104, vi p2] mem r mem9 := by
  refine RO_met (y := yn_Standing_canBe) (by decide +kernel) (Nat.le_of_ble_eq_true rfl) ?_ h
  show RO E mt_Standing_canBe (fn_Standing_canBe th p2 mem) 0 [(0, rf th), (1, rf 104), (2, vi p2)] [] mem
  unfold fn_Standing_canBe
  refine RO_iconst dc_Standing_canBe_0 ?_
  refine RO_istore_n dc_Standing_canBe_1 rfl (Nat.le_of_ble_eq_true rfl) ?_
  refine RO_sub ?_ (rp_Standing_canBe_2 th p2 hk_th FU 0 mem)
  exact ⟨rfl, rfl, rfl, rfl, trivial⟩
def fn_State_begin (th : Nat) (p1 : Nat) (mem : Mm) : Res := bn (mst mem th 0 0) fun m1 => bn (mst m1 th 1 0) fun m2 => bn (mst m2 th 2 (w32 ((ishl 1 (m2 p1 1)) - 1))) fun m3 => bn (mst m3 th 3 0) fun m4 => bd (fn_Arrays_fillI 6 (th + 1) 0 m4) fun r5 m6 => bn (mcp m6 (p1 + 7) (0 : Int).toNat (th + 2) (0 : Int).toNat (6 : Int).toNat) fun m7 => some (0, m7)
set_option maxHeartbeats 4000000 in
theorem pf_State_begin {E : EE} (th : Nat) (p1 : Nat) (hk_th : ly_k th = (6, 6)) (hk_p1 : ly_k p1 = (0, 15)) (mem : Mm) {r : Int} {mem9 : Mm} (h : fn_State_begin th p1 mem = some (r, mem9)) : MetX E 2 yn_State_begin cd_State_begin 2 none [rf th, rf p1] mem r mem9 := by
  refine RO_met (y := yn_State_begin) (by decide +kernel) (Nat.le_of_ble_eq_true rfl) ?_ h
  show RO E mt_State_begin (fn_State_begin th p1 mem) 0 [(0, rf th), (1, rf p1)] [] mem
  unfold fn_State_begin
  refine RO_aload_n dc_State_begin_0 rfl rfl ?_
  refine RO_iconst dc_State_begin_1 ?_
  refine RO_putI gp_State_18 hk_th dc_State_begin_2 ?_
  refine RO_bnM (fun m1 => ?_)
  refine RO_aload_n dc_State_begin_5 rfl rfl ?_
  refine RO_iconst dc_State_begin_6 ?_
  refine RO_putI gp_State_22 hk_th dc_State_begin_7 ?_
  refine RO_bnM (fun m2 => ?_)
  refine RO_aload_n dc_State_begin_10 rfl rfl ?_
  refine RO_iconst dc_State_begin_11 ?_
  refine RO_aload_n dc_State_begin_12 rfl rfl ?_
  refine RO_getI gf_State_25 hk_p1 dc_State_begin_13 ?_
  refine RO_ishl dc_State_begin_16 ?_
  refine RO_iconst dc_State_begin_17 ?_
  refine RO_isub dc_State_begin_18 ?_
  refine RO_putI gp_State_30 hk_th dc_State_begin_19 ?_
  refine RO_bnM (fun m3 => ?_)
  refine RO_aload_n dc_State_begin_22 rfl rfl ?_
  refine RO_iconst dc_State_begin_23 ?_
  refine RO_putZ gp_State_33 hk_th (Or.inl rfl) dc_State_begin_24 ?_
  refine RO_bnM (fun m4 => ?_)
  refine RO_aload_n dc_State_begin_27 rfl rfl ?_
  refine RO_getR (b := (th + 1)) gf_State_9 hk_th (by omega) dc_State_begin_28 ?_
  refine RO_iconst dc_State_begin_31 ?_
  refine RO_callSv (As := [rf (th + 1), vi 0]) (rest := []) mi_Arrays_fillI ms_Arrays_fillI ml_State_37 (Nat.le_of_ble_eq_true rfl) rfl (Nat.le_of_ble_eq_true rfl) dc_State_begin_32 (fun rq mq hq => pf_Arrays_fillI 6 (th + 1) 0 (cl_6_4 hk_th) m4 hq) (fun r5 m6 => ?_)
  refine RO_aload_n dc_State_begin_35 rfl rfl ?_
  refine RO_getR (b := (p1 + 7)) gf_State_43 hk_p1 (by omega) dc_State_begin_36 ?_
  refine RO_iconst dc_State_begin_39 ?_
  refine RO_aload_n dc_State_begin_40 rfl rfl ?_
  refine RO_getR (b := (th + 2)) gf_State_15 hk_th (by omega) dc_State_begin_41 ?_
  refine RO_iconst dc_State_begin_44 ?_
  refine RO_bipush dc_State_begin_45 ?_
  refine RO_copy mw_copy ml_State_46 (cl_0_11 hk_p1) (cl_6_5 hk_th) (by decide) (Nat.le_of_ble_eq_true rfl) (Nat.le_of_ble_eq_true rfl) dc_State_begin_47 ?_
  refine RO_bnM (fun m7 => ?_)
  exact RO_vret rfl dc_State_begin_50
def fn_State_canDepute (th : Nat) (p1 : Nat) (p2 : Int) (p3 : Int) (mem : Mm) : Res := bd (fn_State_lives th p3 mem) fun r1 m2 => if r1 = 0 then (some (0, m2)) else (if 0 ≤ p2 ∧ p2 < 6 then if (m2 (th + 2) p2.toNat) = p3 then (some (0, m2)) else (if 0 ≤ p3 ∧ p3 < 6 then if 0 ≤ p2 ∧ p2 < 6 then bd (fn_Walker_passes ((p1 + 4 * p3.toNat) + 13) (m2 (p1 + 8) p2.toNat) m2) fun r8 m9 => if r8 = 0 then (some (0, m9)) else (some (1, m9)) else none else none) else none)
set_option maxHeartbeats 4000000 in
theorem pf_State_canDepute {E : EE} (th : Nat) (p1 : Nat) (p2 : Int) (p3 : Int) (hk_th : ly_k th = (6, 6)) (hk_p1 : ly_k p1 = (0, 15)) (mem : Mm) {r : Int} {mem9 : Mm} (h : fn_State_canDepute th p1 p2 p3 mem = some (r, mem9)) : MetX E 2 yn_State_canDepute cd_State_canDepute 4 (some .boolean) [rf th, rf p1, vi p2, vi p3] mem r mem9 := by
  refine RO_met (y := yn_State_canDepute) (by decide +kernel) (Nat.le_of_ble_eq_true rfl) ?_ h
  show RO E mt_State_canDepute (fn_State_canDepute th p1 p2 p3 mem) 0 [(0, rf th), (1, rf p1), (2, vi p2), (3, vi p3)] [] mem
  unfold fn_State_canDepute
  refine RO_aload_n dc_State_canDepute_0 rfl rfl ?_
  refine RO_iload_n dc_State_canDepute_1 rfl rfl ?_
  refine RO_callVi (As := [vi p3]) (rest := []) mi_State_lives mv_State_lives ml_State_52 hk_th (Nat.le_of_ble_eq_true rfl) rfl (Nat.le_of_ble_eq_true rfl) (fun _ => rfl) dc_State_canDepute_2 (fun rq mq hq => pf_State_lives th p3 hk_th mem hq) (fun r1 m2 => ?_)
  refine RO_if_eq (tgt := 40) dc_State_canDepute_5 rfl ?_ ?_
  · refine RO_iconst dc_State_canDepute_40 ?_
    exact RO_zret rfl (Or.inl rfl) dc_State_canDepute_41
  · refine RO_aload_n dc_State_canDepute_8 rfl rfl ?_
    refine RO_getR (b := (th + 2)) gf_State_15 hk_th (by omega) dc_State_canDepute_9 ?_
    refine RO_iload_n dc_State_canDepute_12 rfl rfl ?_
    refine RO_chk (fun hi3 => ?_)
    refine RO_ia (cl_6_5 hk_th) hi3 dc_State_canDepute_13 ?_
    refine RO_iload_n dc_State_canDepute_14 rfl rfl ?_
    refine RO_icmp_eq (tgt := 40) dc_State_canDepute_15 rfl ?_ ?_
    · refine RO_iconst dc_State_canDepute_40 ?_
      exact RO_zret rfl (Or.inl rfl) dc_State_canDepute_41
    · refine RO_aload_n dc_State_canDepute_18 rfl rfl ?_
      refine RO_getR (b := (p1 + 6)) gf_State_56 hk_p1 (by omega) dc_State_canDepute_19 ?_
      refine RO_iload_n dc_State_canDepute_22 rfl rfl ?_
      refine RO_chk (fun hi4 => ?_)
      have hb5 : (p1 + 6) + (raO 18).1 + (raO 18).2 * p3.toNat = ((p1 + 4 * p3.toNat) + 13) := by show _ + 7 + 4 * _ = _; omega
      have hk6 := el_18 (cl_0_10 hk_p1) hi4 hb5
      refine RO_aa (by decide) (cl_0_10 hk_p1) hi4 hb5 dc_State_canDepute_23 ?_
      refine RO_aload_n dc_State_canDepute_24 rfl rfl ?_
      refine RO_getR (b := (p1 + 8)) gf_State_60 hk_p1 (by omega) dc_State_canDepute_25 ?_
      refine RO_iload_n dc_State_canDepute_28 rfl rfl ?_
      refine RO_chk (fun hi7 => ?_)
      refine RO_ia (cl_0_12 hk_p1) hi7 dc_State_canDepute_29 ?_
      refine RO_callVi (As := [vi (m2 (p1 + 8) p2.toNat)]) (rest := []) mi_Walker_passes mv_Walker_passes ml_State_63 hk6 (Nat.le_of_ble_eq_true rfl) rfl (Nat.le_of_ble_eq_true rfl) (fun _ => rfl) dc_State_canDepute_30 (fun rq mq hq => pf_Walker_passes ((p1 + 4 * p3.toNat) + 13) (m2 (p1 + 8) p2.toNat) hk6 m2 hq) (fun r8 m9 => ?_)
      refine RO_if_eq (tgt := 40) dc_State_canDepute_33 rfl ?_ ?_
      · refine RO_iconst dc_State_canDepute_40 ?_
        exact RO_zret rfl (Or.inl rfl) dc_State_canDepute_41
      · refine RO_iconst dc_State_canDepute_36 ?_
        refine RO_goto (tgt := 41) dc_State_canDepute_37 rfl ?_
        exact RO_zret rfl (Or.inr rfl) dc_State_canDepute_41
def fn_State_pass (th : Nat) (p1 : Int) (mem : Mm) : Res := bn (mst mem th 1 (w32 ((mem th 1) + p1))) fun m1 => bn (mst m1 th 0 (w32 ((m1 th 0) + 1))) fun m2 => bn (mst m2 th 3 0) fun m3 => bd (fn_Arrays_fillI 6 (th + 1) 0 m3) fun r4 m5 => some (0, m5)
set_option maxHeartbeats 4000000 in
theorem pf_State_pass {E : EE} (th : Nat) (p1 : Int) (hk_th : ly_k th = (6, 6)) (mem : Mm) {r : Int} {mem9 : Mm} (h : fn_State_pass th p1 mem = some (r, mem9)) : MetX E 2 yn_State_pass cd_State_pass 2 none [rf th, vi p1] mem r mem9 := by
  refine RO_met (y := yn_State_pass) (by decide +kernel) (Nat.le_of_ble_eq_true rfl) ?_ h
  show RO E mt_State_pass (fn_State_pass th p1 mem) 0 [(0, rf th), (1, vi p1)] [] mem
  unfold fn_State_pass
  refine RO_aload_n dc_State_pass_0 rfl rfl ?_
  refine RO_dup dc_State_pass_1 (nt2 _) ?_
  refine RO_getI gf_State_22 hk_th dc_State_pass_2 ?_
  refine RO_iload_n dc_State_pass_5 rfl rfl ?_
  refine RO_iadd dc_State_pass_6 ?_
  refine RO_putI gp_State_22 hk_th dc_State_pass_7 ?_
  refine RO_bnM (fun m1 => ?_)
  refine RO_aload_n dc_State_pass_10 rfl rfl ?_
  refine RO_dup dc_State_pass_11 (nt2 _) ?_
  refine RO_getI gf_State_18 hk_th dc_State_pass_12 ?_
  refine RO_iconst dc_State_pass_15 ?_
  refine RO_iadd dc_State_pass_16 ?_
  refine RO_putI gp_State_18 hk_th dc_State_pass_17 ?_
  refine RO_bnM (fun m2 => ?_)
  refine RO_aload_n dc_State_pass_20 rfl rfl ?_
  refine RO_iconst dc_State_pass_21 ?_
  refine RO_putZ gp_State_33 hk_th (Or.inl rfl) dc_State_pass_22 ?_
  refine RO_bnM (fun m3 => ?_)
  refine RO_aload_n dc_State_pass_25 rfl rfl ?_
  refine RO_getR (b := (th + 1)) gf_State_9 hk_th (by omega) dc_State_pass_26 ?_
  refine RO_iconst dc_State_pass_29 ?_
  refine RO_callSv (As := [rf (th + 1), vi 0]) (rest := []) mi_Arrays_fillI ms_Arrays_fillI ml_State_37 (Nat.le_of_ble_eq_true rfl) rfl (Nat.le_of_ble_eq_true rfl) dc_State_pass_30 (fun rq mq hq => pf_Arrays_fillI 6 (th + 1) 0 (cl_6_4 hk_th) m3 hq) (fun r4 m5 => ?_)
  exact RO_vret rfl dc_State_pass_33
def bo_Tape_append_71 (p1 : Int) (k3 : Int → Mm → Res) (v3 : Int) (mem : Mm) : Res := k3 (w32 (v3 + (-8))) mem
set_option maxHeartbeats 4000000 in
theorem rb_Tape_append_71 {E : EE} (p1 : Int)  (k3 : Int → Mm → Res) (H3 : ∀ (v3 : Int)  (mem : Mm), RO E mt_Tape_append (k3 v3 mem) 3 [(0, rf 1), (1, vl p1), (3, vi v3)] [] mem) (v3 : Int)  (mem : Mm) : RO E mt_Tape_append (bo_Tape_append_71 p1 k3 v3 mem) 71 [(0, rf 1), (1, vl p1), (3, vi v3)] [] mem := by
  unfold bo_Tape_append_71
  refine RO_iinc dc_Tape_append_71 rfl (Nat.le_of_ble_eq_true rfl) ?_
  refine RO_goto (tgt := 3) dc_Tape_append_74 rfl ?_
  refine RO_sub ?_ (H3 (w32 (v3 + (-8))) mem)
  exact ⟨rfl, rfl, rfl, trivial⟩
def bo_Tape_append_40 (p1 : Int) (k3 : Int → Mm → Res) (v3 : Int) (v4 : Int) (mem : Mm) : Res := if (mem 1 0) < 1000 then (if 0 ≤ mem 1 0 ∧ mem 1 0 < 1000 then if 0 ≤ v4 ∧ v4 ≤ 65535 then bn (mst mem 2 (mem 1 0).toNat v4) fun m3 => bn (mst m3 1 0 (w32 ((m3 1 0) + 1))) fun m4 => bo_Tape_append_71 p1 k3 v3 m4 else none else none) else (bo_Tape_append_71 p1 k3 v3 mem)
set_option maxHeartbeats 4000000 in
theorem rb_Tape_append_40 {E : EE} (p1 : Int)  (k3 : Int → Mm → Res) (H3 : ∀ (v3 : Int)  (mem : Mm), RO E mt_Tape_append (k3 v3 mem) 3 [(0, rf 1), (1, vl p1), (3, vi v3)] [] mem) (v3 : Int) (v4 : Int)  (mem : Mm) : RO E mt_Tape_append (bo_Tape_append_40 p1 k3 v3 v4 mem) 40 [(0, rf 1), (1, vl p1), (3, vi v3), (4, vi v4)] [] mem := by
  unfold bo_Tape_append_40
  refine RO_aload_n dc_Tape_append_40 rfl rfl ?_
  refine RO_getI gf_Tape_21 lk_1 dc_Tape_append_41 ?_
  refine RO_sipush dc_Tape_append_44 ?_
  refine RO_icmp_ge (tgt := 71) dc_Tape_append_47 rfl ?_ ?_
  · refine RO_aload_n dc_Tape_append_50 rfl rfl ?_
    refine RO_getR (b := 2) gf_Tape_9 lk_1 rfl dc_Tape_append_51 ?_
    refine RO_aload_n dc_Tape_append_54 rfl rfl ?_
    refine RO_getI gf_Tape_21 lk_1 dc_Tape_append_55 ?_
    refine RO_iload dc_Tape_append_58 rfl ?_
    refine RO_chk (fun hi1 => ?_)
    refine RO_chk (fun hc2 => ?_)
    refine RO_cs lk_2 hi1 hc2 dc_Tape_append_60 ?_
    refine RO_bnM (fun m3 => ?_)
    refine RO_aload_n dc_Tape_append_61 rfl rfl ?_
    refine RO_dup dc_Tape_append_62 (nt2 _) ?_
    refine RO_getI gf_Tape_21 lk_1 dc_Tape_append_63 ?_
    refine RO_iconst dc_Tape_append_66 ?_
    refine RO_iadd dc_Tape_append_67 ?_
    refine RO_putI gp_Tape_21 lk_1 dc_Tape_append_68 ?_
    refine RO_bnM (fun m4 => ?_)
    refine RO_sub ?_ (rb_Tape_append_71 p1 k3 H3 v3 m4)
    exact ⟨rfl, rfl, rfl, trivial⟩
  · refine RO_sub ?_ (rb_Tape_append_71 p1 k3 H3 v3 mem)
    exact ⟨rfl, rfl, rfl, trivial⟩
def bo_Tape_append_3 (p1 : Int) (k3 : Int → Mm → Res) (v3 : Int) (mem : Mm) : Res := if v3 < 0 then (some (0, mem)) else (bn (i2c (w32 (land (lushr p1 v3) 255))) fun x1 => bd (fn_Tape_isBlank x1 mem) fun r2 m3 => if r2 = 0 then (if 32 < x1 then (if x1 < 127 then (bo_Tape_append_40 p1 k3 v3 x1 m3) else (bo_Tape_append_71 p1 k3 v3 m3)) else (bo_Tape_append_71 p1 k3 v3 m3)) else (bo_Tape_append_40 p1 k3 v3 x1 m3))
set_option maxHeartbeats 4000000 in
theorem rb_Tape_append_3 {E : EE} (p1 : Int)  (k3 : Int → Mm → Res) (H3 : ∀ (v3 : Int)  (mem : Mm), RO E mt_Tape_append (k3 v3 mem) 3 [(0, rf 1), (1, vl p1), (3, vi v3)] [] mem) (v3 : Int)  (mem : Mm) : RO E mt_Tape_append (bo_Tape_append_3 p1 k3 v3 mem) 3 [(0, rf 1), (1, vl p1), (3, vi v3)] [] mem := by
  unfold bo_Tape_append_3
  refine RO_iload_n dc_Tape_append_3 rfl rfl ?_
  refine RO_if_lt (tgt := 77) dc_Tape_append_4 rfl ?_ ?_
  · exact RO_vret rfl dc_Tape_append_77
  · refine RO_lload_n dc_Tape_append_7 rfl rfl ?_
    refine RO_iload_n dc_Tape_append_8 rfl rfl ?_
    refine RO_lushr dc_Tape_append_9 ?_
    refine RO_ldc2 (x := 255) c2_Tape_15 ⟨by decide, ⟨by decide, by decide⟩⟩ dc_Tape_append_10 ?_
    refine RO_land dc_Tape_append_13 ?_
    refine RO_l2i dc_Tape_append_14 ?_
    refine RO_i2c dc_Tape_append_15 ?_
    refine RO_bnT (fun x1 => ?_)
    refine RO_istore dc_Tape_append_16 (Nat.le_of_ble_eq_true rfl) ?_
    refine RO_iload dc_Tape_append_18 rfl ?_
    refine RO_callSi (As := [vi x1]) (rest := []) mi_Tape_isBlank ms_Tape_isBlank ml_Tape_17 (Nat.le_of_ble_eq_true rfl) rfl (Nat.le_of_ble_eq_true rfl) (fun _ => rfl) dc_Tape_append_20 (fun rq mq hq => pf_Tape_isBlank x1  mem hq) (fun r2 m3 => ?_)
    refine RO_if_ne (tgt := 40) dc_Tape_append_23 rfl ?_ ?_
    · refine RO_iload dc_Tape_append_26 rfl ?_
      refine RO_bipush dc_Tape_append_28 ?_
      refine RO_icmp_le (tgt := 71) dc_Tape_append_30 rfl ?_ ?_
      · refine RO_iload dc_Tape_append_33 rfl ?_
        refine RO_bipush dc_Tape_append_35 ?_
        refine RO_icmp_ge (tgt := 71) dc_Tape_append_37 rfl ?_ ?_
        · refine RO_sub ?_ (rb_Tape_append_40 p1 k3 H3 v3 x1 m3)
          exact ⟨rfl, rfl, rfl, rfl, trivial⟩
        · refine RO_sub ?_ (rb_Tape_append_71 p1 k3 H3 v3 m3)
          exact ⟨rfl, rfl, rfl, trivial⟩
      · refine RO_sub ?_ (rb_Tape_append_71 p1 k3 H3 v3 m3)
        exact ⟨rfl, rfl, rfl, trivial⟩
    · refine RO_sub ?_ (rb_Tape_append_40 p1 k3 H3 v3 x1 m3)
      exact ⟨rfl, rfl, rfl, rfl, trivial⟩
def lp_Tape_append_3 (p1 : Int)  : Nat → Int → Mm → Res
  | 0 => fun _ _ => none
  | n + 1 => bo_Tape_append_3 p1  (lp_Tape_append_3 p1  n)
theorem rp_Tape_append_3 {E : EE} (p1 : Int)    : ∀ (n : Nat) (v3 : Int)  (mem : Mm), RO E mt_Tape_append (lp_Tape_append_3 p1  n v3 mem) 3 [(0, rf 1), (1, vl p1), (3, vi v3)] [] mem := by
  intro n
  induction n with
  | zero => intro v3  mem; exact RO_none
  | succ n ih => intro v3  mem; exact rb_Tape_append_3 p1   (lp_Tape_append_3 p1  n)  ih v3  mem
def fn_Tape_append (p1 : Int) (mem : Mm) : Res := lp_Tape_append_3 p1 FU 56 mem
set_option maxHeartbeats 4000000 in
theorem pf_Tape_append {E : EE} (p1 : Int)  (mem : Mm) {r : Int} {mem9 : Mm} (h : fn_Tape_append p1 mem = some (r, mem9)) : MetX E 2 yn_Tape_append cd_Tape_append 5 none [rf 1, vl p1] mem r mem9 := by
  refine RO_met (y := yn_Tape_append) (by decide +kernel) (Nat.le_of_ble_eq_true rfl) ?_ h
  show RO E mt_Tape_append (fn_Tape_append p1 mem) 0 [(0, rf 1), (1, vl p1)] [] mem
  unfold fn_Tape_append
  refine RO_bipush dc_Tape_append_0 ?_
  refine RO_istore_n dc_Tape_append_2 rfl (Nat.le_of_ble_eq_true rfl) ?_
  refine RO_sub ?_ (rp_Tape_append_3 p1 FU 56 mem)
  exact ⟨rfl, rfl, rfl, trivial⟩
def bo_Tape_stepOverWord_136  (k95 : Int → Mm → Res) (v1 : Int) (mem : Mm) : Res := k95 (w32 (v1 + 1)) mem
set_option maxHeartbeats 4000000 in
theorem rb_Tape_stepOverWord_136 {E : EE}   (k95 : Int → Mm → Res) (H95 : ∀ (v1 : Int)  (mem : Mm), RO E mt_Tape_stepOverWord (k95 v1 mem) 95 [(0, rf 1), (1, vi v1)] [] mem) (v1 : Int)  (mem : Mm) : RO E mt_Tape_stepOverWord (bo_Tape_stepOverWord_136  k95 v1 mem) 136 [(0, rf 1), (1, vi v1)] [] mem := by
  unfold bo_Tape_stepOverWord_136
  refine RO_iinc dc_Tape_stepOverWord_136 rfl (Nat.le_of_ble_eq_true rfl) ?_
  refine RO_goto (tgt := 95) dc_Tape_stepOverWord_139 rfl ?_
  refine RO_sub ?_ (H95 (w32 (v1 + 1)) mem)
  exact ⟨rfl, rfl, trivial⟩
def bo_Tape_stepOverWord_95  (k95 : Int → Mm → Res) (v1 : Int) (mem : Mm) : Res := if v1 < 29 then (if (mem 1 6) = 2 then (if 0 ≤ v1 ∧ v1 < 29 then if ((-v1 - 2)) ≠ -1 then if (lcm (wdL.getD (-((-v1 - 2)) - 2).toNat 0) (mem 1 3)) = 0 then (if 0 ≤ v1 ∧ v1 < 29 then bn (mst mem 1 2 ((-v1 - 2))) fun m4 => bo_Tape_stepOverWord_136 k95 v1 m4 else none) else (bo_Tape_stepOverWord_136 k95 v1 mem) else none else none) else (some (0, mem))) else (some (0, mem))
set_option maxHeartbeats 4000000 in
theorem rb_Tape_stepOverWord_95 {E : EE}   (k95 : Int → Mm → Res) (H95 : ∀ (v1 : Int)  (mem : Mm), RO E mt_Tape_stepOverWord (k95 v1 mem) 95 [(0, rf 1), (1, vi v1)] [] mem) (v1 : Int)  (mem : Mm) : RO E mt_Tape_stepOverWord (bo_Tape_stepOverWord_95  k95 v1 mem) 95 [(0, rf 1), (1, vi v1)] [] mem := by
  unfold bo_Tape_stepOverWord_95
  refine RO_iload_n dc_Tape_stepOverWord_95 rfl rfl ?_
  refine RO_getsALL (by decide +kernel) dc_Tape_stepOverWord_96 ?_
  refine RO_lenALL dc_Tape_stepOverWord_99 ?_
  refine RO_icmp_ge (tgt := 142) dc_Tape_stepOverWord_100 rfl ?_ ?_
  · refine RO_aload_n dc_Tape_stepOverWord_103 rfl rfl ?_
    refine RO_getI gf_Tape_41 lk_1 dc_Tape_stepOverWord_104 ?_
    refine RO_iconst dc_Tape_stepOverWord_107 ?_
    refine RO_icmp_ne (tgt := 142) dc_Tape_stepOverWord_108 rfl ?_ ?_
    · refine RO_getsALL (by decide +kernel) dc_Tape_stepOverWord_111 ?_
      refine RO_iload_n dc_Tape_stepOverWord_114 rfl rfl ?_
      refine RO_chk (fun hi1 => ?_)
      refine RO_aldALL hi1 dc_Tape_stepOverWord_115 ?_
      refine RO_chk (fun hw2 => ?_)
      refine RO_letters (by decide +kernel) hw2 dc_Tape_stepOverWord_116 ?_
      refine RO_aload_n dc_Tape_stepOverWord_119 rfl rfl ?_
      refine RO_getL gf_Tape_64 lk_1 dc_Tape_stepOverWord_120 ?_
      refine RO_lcmp dc_Tape_stepOverWord_123 ?_
      refine RO_if_ne (tgt := 136) dc_Tape_stepOverWord_124 rfl ?_ ?_
      · refine RO_aload_n dc_Tape_stepOverWord_127 rfl rfl ?_
        refine RO_getsALL (by decide +kernel) dc_Tape_stepOverWord_128 ?_
        refine RO_iload_n dc_Tape_stepOverWord_131 rfl rfl ?_
        refine RO_chk (fun hi3 => ?_)
        refine RO_aldALL hi3 dc_Tape_stepOverWord_132 ?_
        refine RO_putW gp_Tape_37 lk_1 dc_Tape_stepOverWord_133 ?_
        refine RO_bnM (fun m4 => ?_)
        refine RO_sub ?_ (rb_Tape_stepOverWord_136 k95 H95 v1 m4)
        exact ⟨rfl, rfl, trivial⟩
      · refine RO_sub ?_ (rb_Tape_stepOverWord_136 k95 H95 v1 mem)
        exact ⟨rfl, rfl, trivial⟩
    · exact RO_vret rfl dc_Tape_stepOverWord_142
  · exact RO_vret rfl dc_Tape_stepOverWord_142
def lp_Tape_stepOverWord_95   : Nat → Int → Mm → Res
  | 0 => fun _ _ => none
  | n + 1 => bo_Tape_stepOverWord_95   (lp_Tape_stepOverWord_95   n)
theorem rp_Tape_stepOverWord_95 {E : EE}     : ∀ (n : Nat) (v1 : Int)  (mem : Mm), RO E mt_Tape_stepOverWord (lp_Tape_stepOverWord_95   n v1 mem) 95 [(0, rf 1), (1, vi v1)] [] mem := by
  intro n
  induction n with
  | zero => intro v1  mem; exact RO_none
  | succ n ih => intro v1  mem; exact rb_Tape_stepOverWord_95    (lp_Tape_stepOverWord_95   n)  ih v1  mem
def bo_Tape_stepOverWord_90   (s1 : Int) (mem : Mm) : Res := bn (mst mem 1 6 s1) fun m1 => lp_Tape_stepOverWord_95 FU 0 m1
set_option maxHeartbeats 4000000 in
theorem rb_Tape_stepOverWord_90 {E : EE}     (s1 : Int)  (mem : Mm) : RO E mt_Tape_stepOverWord (bo_Tape_stepOverWord_90   s1 mem) 90 [(0, rf 1)] [vi s1, rf 1] mem := by
  unfold bo_Tape_stepOverWord_90
  refine RO_putI gp_Tape_41 lk_1 dc_Tape_stepOverWord_90 ?_
  refine RO_bnM (fun m1 => ?_)
  refine RO_iconst dc_Tape_stepOverWord_93 ?_
  refine RO_istore_n dc_Tape_stepOverWord_94 rfl (Nat.le_of_ble_eq_true rfl) ?_
  refine RO_sub ?_ (rp_Tape_stepOverWord_95 FU 0 m1)
  exact ⟨rfl, rfl, trivial⟩
def bo_Tape_stepOverWord_70    (mem : Mm) : Res := if 8 < (w32 ((mem 1 8) - (mem 1 7))) then (bo_Tape_stepOverWord_90 0 mem) else (bo_Tape_stepOverWord_90 2 mem)
set_option maxHeartbeats 4000000 in
theorem rb_Tape_stepOverWord_70 {E : EE}       (mem : Mm) : RO E mt_Tape_stepOverWord (bo_Tape_stepOverWord_70    mem) 70 [(0, rf 1)] [] mem := by
  unfold bo_Tape_stepOverWord_70
  refine RO_aload_n dc_Tape_stepOverWord_70 rfl rfl ?_
  refine RO_aload_n dc_Tape_stepOverWord_71 rfl rfl ?_
  refine RO_getI gf_Tape_28 lk_1 dc_Tape_stepOverWord_72 ?_
  refine RO_aload_n dc_Tape_stepOverWord_75 rfl rfl ?_
  refine RO_getI gf_Tape_34 lk_1 dc_Tape_stepOverWord_76 ?_
  refine RO_isub dc_Tape_stepOverWord_79 ?_
  refine RO_bipush dc_Tape_stepOverWord_80 ?_
  refine RO_icmp_gt (tgt := 89) dc_Tape_stepOverWord_82 rfl ?_ ?_
  · refine RO_iconst dc_Tape_stepOverWord_89 ?_
    refine RO_sub ?_ (rb_Tape_stepOverWord_90 0 mem)
    exact ⟨rfl, trivial⟩
  · refine RO_iconst dc_Tape_stepOverWord_85 ?_
    refine RO_goto (tgt := 90) dc_Tape_stepOverWord_86 rfl ?_
    refine RO_sub ?_ (rb_Tape_stepOverWord_90 2 mem)
    exact ⟨rfl, trivial⟩
def bo_Tape_stepOverWord_5  (k5 : Mm → Res)  (mem : Mm) : Res := if (mem 1 8) < (mem 1 0) then (if 0 ≤ mem 1 8 ∧ mem 1 8 < 1000 then bd (fn_Tape_isLetter (mem 2 (mem 1 8).toNat) mem) fun r2 m3 => if r2 = 0 then (bo_Tape_stepOverWord_70 m3) else (if 0 ≤ m3 1 8 ∧ m3 1 8 < 1000 then bn (mst m3 1 3 (lor (lshl (m3 1 3) 5) (w32 ((w32 ((m3 2 (m3 1 8).toNat) - 97)) + 1)))) fun m5 => bn (mst m5 1 8 (w32 ((m5 1 8) + 1))) fun m6 => k5 m6 else none) else none) else (bo_Tape_stepOverWord_70 mem)
set_option maxHeartbeats 4000000 in
theorem rb_Tape_stepOverWord_5 {E : EE}   (k5 : Mm → Res) (H5 : ∀   (mem : Mm), RO E mt_Tape_stepOverWord (k5  mem) 5 [(0, rf 1)] [] mem)   (mem : Mm) : RO E mt_Tape_stepOverWord (bo_Tape_stepOverWord_5  k5  mem) 5 [(0, rf 1)] [] mem := by
  unfold bo_Tape_stepOverWord_5
  refine RO_aload_n dc_Tape_stepOverWord_5 rfl rfl ?_
  refine RO_getI gf_Tape_28 lk_1 dc_Tape_stepOverWord_6 ?_
  refine RO_aload_n dc_Tape_stepOverWord_9 rfl rfl ?_
  refine RO_getI gf_Tape_21 lk_1 dc_Tape_stepOverWord_10 ?_
  refine RO_icmp_ge (tgt := 70) dc_Tape_stepOverWord_13 rfl ?_ ?_
  · refine RO_aload_n dc_Tape_stepOverWord_16 rfl rfl ?_
    refine RO_getR (b := 2) gf_Tape_9 lk_1 rfl dc_Tape_stepOverWord_17 ?_
    refine RO_aload_n dc_Tape_stepOverWord_20 rfl rfl ?_
    refine RO_getI gf_Tape_28 lk_1 dc_Tape_stepOverWord_21 ?_
    refine RO_chk (fun hi1 => ?_)
    refine RO_ca lk_2 hi1 dc_Tape_stepOverWord_24 ?_
    refine RO_callSi (As := [vi (mem 2 (mem 1 8).toNat)]) (rest := []) mi_Tape_isLetter ms_Tape_isLetter ml_Tape_44 (Nat.le_of_ble_eq_true rfl) rfl (Nat.le_of_ble_eq_true rfl) (fun _ => rfl) dc_Tape_stepOverWord_25 (fun rq mq hq => pf_Tape_isLetter (mem 2 (mem 1 8).toNat)  mem hq) (fun r2 m3 => ?_)
    refine RO_if_eq (tgt := 70) dc_Tape_stepOverWord_28 rfl ?_ ?_
    · refine RO_sub ?_ (rb_Tape_stepOverWord_70 m3)
      exact ⟨rfl, trivial⟩
    · refine RO_aload_n dc_Tape_stepOverWord_31 rfl rfl ?_
      refine RO_aload_n dc_Tape_stepOverWord_32 rfl rfl ?_
      refine RO_getL gf_Tape_64 lk_1 dc_Tape_stepOverWord_33 ?_
      refine RO_iconst dc_Tape_stepOverWord_36 ?_
      refine RO_lshl dc_Tape_stepOverWord_37 ?_
      refine RO_aload_n dc_Tape_stepOverWord_38 rfl rfl ?_
      refine RO_getR (b := 2) gf_Tape_9 lk_1 rfl dc_Tape_stepOverWord_39 ?_
      refine RO_aload_n dc_Tape_stepOverWord_42 rfl rfl ?_
      refine RO_getI gf_Tape_28 lk_1 dc_Tape_stepOverWord_43 ?_
      refine RO_chk (fun hi4 => ?_)
      refine RO_ca lk_2 hi4 dc_Tape_stepOverWord_46 ?_
      refine RO_bipush dc_Tape_stepOverWord_47 ?_
      refine RO_isub dc_Tape_stepOverWord_49 ?_
      refine RO_iconst dc_Tape_stepOverWord_50 ?_
      refine RO_iadd dc_Tape_stepOverWord_51 ?_
      refine RO_i2l dc_Tape_stepOverWord_52 ?_
      refine RO_lor dc_Tape_stepOverWord_53 ?_
      refine RO_putL gp_Tape_64 lk_1 dc_Tape_stepOverWord_54 ?_
      refine RO_bnM (fun m5 => ?_)
      refine RO_aload_n dc_Tape_stepOverWord_57 rfl rfl ?_
      refine RO_dup dc_Tape_stepOverWord_58 (nt2 _) ?_
      refine RO_getI gf_Tape_28 lk_1 dc_Tape_stepOverWord_59 ?_
      refine RO_iconst dc_Tape_stepOverWord_62 ?_
      refine RO_iadd dc_Tape_stepOverWord_63 ?_
      refine RO_putI gp_Tape_28 lk_1 dc_Tape_stepOverWord_64 ?_
      refine RO_bnM (fun m6 => ?_)
      refine RO_goto (tgt := 5) dc_Tape_stepOverWord_67 rfl ?_
      refine RO_sub ?_ (H5 m6)
      exact ⟨rfl, trivial⟩
  · refine RO_sub ?_ (rb_Tape_stepOverWord_70 mem)
    exact ⟨rfl, trivial⟩
def lp_Tape_stepOverWord_5   : Nat → Mm → Res
  | 0 => fun _ => none
  | n + 1 => bo_Tape_stepOverWord_5   (lp_Tape_stepOverWord_5   n)
theorem rp_Tape_stepOverWord_5 {E : EE}     : ∀ (n : Nat)   (mem : Mm), RO E mt_Tape_stepOverWord (lp_Tape_stepOverWord_5   n  mem) 5 [(0, rf 1)] [] mem := by
  intro n
  induction n with
  | zero => intro   mem; exact RO_none
  | succ n ih => intro   mem; exact rb_Tape_stepOverWord_5    (lp_Tape_stepOverWord_5   n)  ih   mem
def fn_Tape_stepOverWord  (mem : Mm) : Res := bn (mst mem 1 3 0) fun m1 => lp_Tape_stepOverWord_5 FU m1
set_option maxHeartbeats 4000000 in
theorem pf_Tape_stepOverWord {E : EE}   (mem : Mm) {r : Int} {mem9 : Mm} (h : fn_Tape_stepOverWord  mem = some (r, mem9)) : MetX E 2 yn_Tape_stepOverWord cd_Tape_stepOverWord 2 none [rf 1] mem r mem9 := by
  refine RO_met (y := yn_Tape_stepOverWord) (by decide +kernel) (Nat.le_of_ble_eq_true rfl) ?_ h
  show RO E mt_Tape_stepOverWord (fn_Tape_stepOverWord  mem) 0 [(0, rf 1)] [] mem
  unfold fn_Tape_stepOverWord
  refine RO_aload_n dc_Tape_stepOverWord_0 rfl rfl ?_
  refine RO_lconst (x := 0) dc_Tape_stepOverWord_1 ⟨by decide, ⟨by decide, by decide⟩⟩ ?_
  refine RO_putL gp_Tape_64 lk_1 dc_Tape_stepOverWord_2 ?_
  refine RO_bnM (fun m1 => ?_)
  refine RO_sub ?_ (rp_Tape_stepOverWord_5 FU m1)
  exact ⟨rfl, trivial⟩
