def fn_Model_readsHour  (mem : Mm) : Res := bn (w32 (6 + (mem 205 (7 : Int).toNat))) fun x1 => if x1 = 12 then (bd (fn_Model_fails 5 mem) fun r2 m3 => if r2 = 0 ∨ r2 = 1 then some (r2, m3) else none) else (bd (fn_Model_nextToken  mem) fun r5 m6 => bd (fn_Model_needsNew  m6) fun r7 m8 => if r7 = 0 then (some (0, m8)) else (bn (m8 203 43) fun x9 => bd (fn_Model_needsWord 79 m8) fun r10 m11 => if r10 = 0 then (some (0, m11)) else (bd (fn_Model_needsWalker 1 m11) fun r12 m13 => if r12 = 0 then (some (0, m13)) else (if 0 ≤ x1 ∧ x1 < 12 then bn (mst m13 218 x1.toNat (m13 203 42)) fun m15 => bd (fn_Model_nextToken  m15) fun r16 m17 => bd (fn_Model_needsWord 47 m17) fun r18 m19 => if r18 = 0 then (some (0, m19)) else (bd (fn_Model_needsPlace 1 m19) fun r20 m21 => if r20 = 0 then (some (0, m21)) else (if 0 ≤ x1 ∧ x1 < 12 then bd (fn_Model_isOf 1 (m21 218 x1.toNat) (m21 203 42) m21) fun r23 m24 => if r23 = 0 then (bd (fn_Model_fails 4 m24) fun r25 m26 => if r25 = 0 ∨ r25 = 1 then some (r25, m26) else none) else (if 0 ≤ x1 ∧ x1 < 12 then bn (mst m24 219 x1.toNat (m24 203 42)) fun m29 => bd (fn_Model_nextToken  m29) fun r30 m31 => bd (fn_Model_needsBoth 262 0 239 m31) fun r32 m33 => if r32 = 0 then (some (0, m33)) else (if 0 ≤ x1 ∧ x1 < 12 then bn (mst m33 220 x1.toNat (m33 203 42)) fun m35 => if 0 ≤ x1 ∧ x1 < 12 then bn (mst m35 208 x1.toNat x9) fun m37 => bn (mst m37 205 (7 : Int).toNat (w32 ((m37 205 (7 : Int).toNat) + 1))) fun m38 => bd (fn_Model_closes  m38) fun r39 m40 => if r39 = 0 ∨ r39 = 1 then some (r39, m40) else none else none else none) else none) else none)) else none))))
set_option maxHeartbeats 4000000 in
theorem pf_Model_readsHour {E : EE}   (mem : Mm) {r : Int} {mem9 : Mm} (h : fn_Model_readsHour  mem = some (r, mem9)) : MetX E 5 yn_Model_readsHour cd_Model_readsHour 4 (some .boolean) [rf 203] mem r mem9 := by
  refine RO_met (y := yn_Model_readsHour) (by decide +kernel) (Nat.le_of_ble_eq_true rfl) ?_ h
  show RO E mt_Model_readsHour (fn_Model_readsHour  mem) 0 [(0, rf 203)] [] mem
  unfold fn_Model_readsHour
  refine RO_bipush dc_Model_readsHour_0 ?_
  refine RO_aload_n dc_Model_readsHour_2 rfl rfl ?_
  refine RO_getR (b := 205) gf_Model_13 lk_203 rfl dc_Model_readsHour_3 ?_
  refine RO_bipush dc_Model_readsHour_6 ?_
  refine RO_ia lk_205 ⟨by decide, by decide⟩ dc_Model_readsHour_8 ?_
  refine RO_iadd dc_Model_readsHour_9 ?_
  refine RO_bnT (fun x1 => ?_)
  refine RO_istore_n dc_Model_readsHour_10 rfl (Nat.le_of_ble_eq_true rfl) ?_
  refine RO_iload_n dc_Model_readsHour_11 rfl rfl ?_
  refine RO_bipush dc_Model_readsHour_12 ?_
  refine RO_icmp_ne (tgt := 23) dc_Model_readsHour_14 rfl ?_ ?_
  · refine RO_aload_n dc_Model_readsHour_17 rfl rfl ?_
    refine RO_iconst dc_Model_readsHour_18 ?_
    refine RO_callVi (As := [vi 5]) (rest := []) mi_Model_fails mv_Model_fails ml_Model_245 lk_203 (Nat.le_of_ble_eq_true rfl) rfl (Nat.le_of_ble_eq_true rfl) (fun _ => rfl) dc_Model_readsHour_19 (fun rq mq hq => pf_Model_fails 5  mem hq) (fun r2 m3 => ?_)
    refine RO_chk (fun hz4 => ?_)
    exact RO_zret rfl hz4 dc_Model_readsHour_22
  · refine RO_aload_n dc_Model_readsHour_23 rfl rfl ?_
    refine RO_callVv (As := []) (rest := []) mi_Model_nextToken mv_Model_nextToken ml_Model_252 lk_203 (Nat.le_of_ble_eq_true rfl) rfl (Nat.le_of_ble_eq_true rfl) dc_Model_readsHour_24 (fun rq mq hq => pf_Model_nextToken   mem hq) (fun r5 m6 => ?_)
    refine RO_aload_n dc_Model_readsHour_27 rfl rfl ?_
    refine RO_callVi (As := []) (rest := []) mi_Model_needsNew mv_Model_needsNew ml_Model_348 lk_203 (Nat.le_of_ble_eq_true rfl) rfl (Nat.le_of_ble_eq_true rfl) (fun _ => rfl) dc_Model_readsHour_28 (fun rq mq hq => pf_Model_needsNew   m6 hq) (fun r7 m8 => ?_)
    refine RO_if_ne (tgt := 36) dc_Model_readsHour_31 rfl ?_ ?_
    · refine RO_iconst dc_Model_readsHour_34 ?_
      exact RO_zret rfl (Or.inl rfl) dc_Model_readsHour_35
    · refine RO_aload_n dc_Model_readsHour_36 rfl rfl ?_
      refine RO_getL gf_Model_345 lk_203 dc_Model_readsHour_37 ?_
      refine RO_bnT (fun x9 => ?_)
      refine RO_lstore_n dc_Model_readsHour_40 rfl (Nat.le_of_ble_eq_true rfl) ?_
      refine RO_aload_n dc_Model_readsHour_41 rfl rfl ?_
      refine RO_ldc2 (x := 79) c2_Model_290 ⟨by decide, ⟨by decide, by decide⟩⟩ dc_Model_readsHour_42 ?_
      refine RO_callVi (As := [vl 79]) (rest := []) mi_Model_needsWord mv_Model_needsWord ml_Model_325 lk_203 (Nat.le_of_ble_eq_true rfl) rfl (Nat.le_of_ble_eq_true rfl) (fun _ => rfl) dc_Model_readsHour_45 (fun rq mq hq => pf_Model_needsWord 79  m8 hq) (fun r10 m11 => ?_)
      refine RO_if_eq (tgt := 59) dc_Model_readsHour_48 rfl ?_ ?_
      · refine RO_iconst dc_Model_readsHour_59 ?_
        exact RO_zret rfl (Or.inl rfl) dc_Model_readsHour_60
      · refine RO_aload_n dc_Model_readsHour_51 rfl rfl ?_
        refine RO_iconst dc_Model_readsHour_52 ?_
        refine RO_callVi (As := [vi 1]) (rest := []) mi_Model_needsWalker mv_Model_needsWalker ml_Model_364 lk_203 (Nat.le_of_ble_eq_true rfl) rfl (Nat.le_of_ble_eq_true rfl) (fun _ => rfl) dc_Model_readsHour_53 (fun rq mq hq => pf_Model_needsWalker 1  m11 hq) (fun r12 m13 => ?_)
        refine RO_if_ne (tgt := 61) dc_Model_readsHour_56 rfl ?_ ?_
        · refine RO_iconst dc_Model_readsHour_59 ?_
          exact RO_zret rfl (Or.inl rfl) dc_Model_readsHour_60
        · refine RO_aload_n dc_Model_readsHour_61 rfl rfl ?_
          refine RO_getR (b := 218) gf_Model_53 lk_203 rfl dc_Model_readsHour_62 ?_
          refine RO_iload_n dc_Model_readsHour_65 rfl rfl ?_
          refine RO_aload_n dc_Model_readsHour_66 rfl rfl ?_
          refine RO_getI gf_Model_322 lk_203 dc_Model_readsHour_67 ?_
          refine RO_chk (fun hi14 => ?_)
          refine RO_is lk_218 hi14 dc_Model_readsHour_70 ?_
          refine RO_bnM (fun m15 => ?_)
          refine RO_aload_n dc_Model_readsHour_71 rfl rfl ?_
          refine RO_callVv (As := []) (rest := []) mi_Model_nextToken mv_Model_nextToken ml_Model_252 lk_203 (Nat.le_of_ble_eq_true rfl) rfl (Nat.le_of_ble_eq_true rfl) dc_Model_readsHour_72 (fun rq mq hq => pf_Model_nextToken   m15 hq) (fun r16 m17 => ?_)
          refine RO_aload_n dc_Model_readsHour_75 rfl rfl ?_
          refine RO_ldc2 (x := 47) c2_Model_284 ⟨by decide, ⟨by decide, by decide⟩⟩ dc_Model_readsHour_76 ?_
          refine RO_callVi (As := [vl 47]) (rest := []) mi_Model_needsWord mv_Model_needsWord ml_Model_325 lk_203 (Nat.le_of_ble_eq_true rfl) rfl (Nat.le_of_ble_eq_true rfl) (fun _ => rfl) dc_Model_readsHour_79 (fun rq mq hq => pf_Model_needsWord 47  m17 hq) (fun r18 m19 => ?_)
          refine RO_if_eq (tgt := 93) dc_Model_readsHour_82 rfl ?_ ?_
          · refine RO_iconst dc_Model_readsHour_93 ?_
            exact RO_zret rfl (Or.inl rfl) dc_Model_readsHour_94
          · refine RO_aload_n dc_Model_readsHour_85 rfl rfl ?_
            refine RO_iconst dc_Model_readsHour_86 ?_
            refine RO_callVi (As := [vi 1]) (rest := []) mi_Model_needsPlace mv_Model_needsPlace ml_Model_354 lk_203 (Nat.le_of_ble_eq_true rfl) rfl (Nat.le_of_ble_eq_true rfl) (fun _ => rfl) dc_Model_readsHour_87 (fun rq mq hq => pf_Model_needsPlace 1  m19 hq) (fun r20 m21 => ?_)
            refine RO_if_ne (tgt := 95) dc_Model_readsHour_90 rfl ?_ ?_
            · refine RO_iconst dc_Model_readsHour_93 ?_
              exact RO_zret rfl (Or.inl rfl) dc_Model_readsHour_94
            · refine RO_aload_n dc_Model_readsHour_95 rfl rfl ?_
              refine RO_iconst dc_Model_readsHour_96 ?_
              refine RO_aload_n dc_Model_readsHour_97 rfl rfl ?_
              refine RO_getR (b := 218) gf_Model_53 lk_203 rfl dc_Model_readsHour_98 ?_
              refine RO_iload_n dc_Model_readsHour_101 rfl rfl ?_
              refine RO_chk (fun hi22 => ?_)
              refine RO_ia lk_218 hi22 dc_Model_readsHour_102 ?_
              refine RO_aload_n dc_Model_readsHour_103 rfl rfl ?_
              refine RO_getI gf_Model_322 lk_203 dc_Model_readsHour_104 ?_
              refine RO_callVi (As := [vi 1, vi (m21 218 x1.toNat), vi (m21 203 42)]) (rest := []) mi_Model_isOf mv_Model_isOf ml_Model_367 lk_203 (Nat.le_of_ble_eq_true rfl) rfl (Nat.le_of_ble_eq_true rfl) (fun _ => rfl) dc_Model_readsHour_107 (fun rq mq hq => pf_Model_isOf 1 (m21 218 x1.toNat) (m21 203 42)  m21 hq) (fun r23 m24 => ?_)
              refine RO_if_ne (tgt := 119) dc_Model_readsHour_110 rfl ?_ ?_
              · refine RO_aload_n dc_Model_readsHour_113 rfl rfl ?_
                refine RO_iconst dc_Model_readsHour_114 ?_
                refine RO_callVi (As := [vi 4]) (rest := []) mi_Model_fails mv_Model_fails ml_Model_245 lk_203 (Nat.le_of_ble_eq_true rfl) rfl (Nat.le_of_ble_eq_true rfl) (fun _ => rfl) dc_Model_readsHour_115 (fun rq mq hq => pf_Model_fails 4  m24 hq) (fun r25 m26 => ?_)
                refine RO_chk (fun hz27 => ?_)
                exact RO_zret rfl hz27 dc_Model_readsHour_118
              · refine RO_aload_n dc_Model_readsHour_119 rfl rfl ?_
                refine RO_getR (b := 219) gf_Model_56 lk_203 rfl dc_Model_readsHour_120 ?_
                refine RO_iload_n dc_Model_readsHour_123 rfl rfl ?_
                refine RO_aload_n dc_Model_readsHour_124 rfl rfl ?_
                refine RO_getI gf_Model_322 lk_203 dc_Model_readsHour_125 ?_
                refine RO_chk (fun hi28 => ?_)
                refine RO_is lk_219 hi28 dc_Model_readsHour_128 ?_
                refine RO_bnM (fun m29 => ?_)
                refine RO_aload_n dc_Model_readsHour_129 rfl rfl ?_
                refine RO_callVv (As := []) (rest := []) mi_Model_nextToken mv_Model_nextToken ml_Model_252 lk_203 (Nat.le_of_ble_eq_true rfl) rfl (Nat.le_of_ble_eq_true rfl) dc_Model_readsHour_130 (fun rq mq hq => pf_Model_nextToken   m29 hq) (fun r30 m31 => ?_)
                refine RO_aload_n dc_Model_readsHour_133 rfl rfl ?_
                refine RO_ldc2 (x := 262) c2_Model_292 ⟨by decide, ⟨by decide, by decide⟩⟩ dc_Model_readsHour_134 ?_
                refine RO_iconst dc_Model_readsHour_137 ?_
                refine RO_sipush dc_Model_readsHour_138 ?_
                refine RO_callVi (As := [vl 262, vi 0, vi 239]) (rest := []) mi_Model_needsBoth mv_Model_needsBoth ml_Model_357 lk_203 (Nat.le_of_ble_eq_true rfl) rfl (Nat.le_of_ble_eq_true rfl) (fun _ => rfl) dc_Model_readsHour_141 (fun rq mq hq => pf_Model_needsBoth 262 0 239  m31 hq) (fun r32 m33 => ?_)
                refine RO_if_ne (tgt := 149) dc_Model_readsHour_144 rfl ?_ ?_
                · refine RO_iconst dc_Model_readsHour_147 ?_
                  exact RO_zret rfl (Or.inl rfl) dc_Model_readsHour_148
                · refine RO_aload_n dc_Model_readsHour_149 rfl rfl ?_
                  refine RO_getR (b := 220) gf_Model_59 lk_203 rfl dc_Model_readsHour_150 ?_
                  refine RO_iload_n dc_Model_readsHour_153 rfl rfl ?_
                  refine RO_aload_n dc_Model_readsHour_154 rfl rfl ?_
                  refine RO_getI gf_Model_322 lk_203 dc_Model_readsHour_155 ?_
                  refine RO_chk (fun hi34 => ?_)
                  refine RO_is lk_220 hi34 dc_Model_readsHour_158 ?_
                  refine RO_bnM (fun m35 => ?_)
                  refine RO_aload_n dc_Model_readsHour_159 rfl rfl ?_
                  refine RO_getR (b := 208) gf_Model_23 lk_203 rfl dc_Model_readsHour_160 ?_
                  refine RO_iload_n dc_Model_readsHour_163 rfl rfl ?_
                  refine RO_lload_n dc_Model_readsHour_164 rfl rfl ?_
                  refine RO_chk (fun hi36 => ?_)
                  refine RO_lst lk_208 hi36 dc_Model_readsHour_165 ?_
                  refine RO_bnM (fun m37 => ?_)
                  refine RO_aload_n dc_Model_readsHour_166 rfl rfl ?_
                  refine RO_getR (b := 205) gf_Model_13 lk_203 rfl dc_Model_readsHour_167 ?_
                  refine RO_bipush dc_Model_readsHour_170 ?_
                  refine RO_dup2 dc_Model_readsHour_172 (nt0 _) (nt2 _) ?_
                  refine RO_ia lk_205 ⟨by decide, by decide⟩ dc_Model_readsHour_173 ?_
                  refine RO_iconst dc_Model_readsHour_174 ?_
                  refine RO_iadd dc_Model_readsHour_175 ?_
                  refine RO_is lk_205 ⟨by decide, by decide⟩ dc_Model_readsHour_176 ?_
                  refine RO_bnM (fun m38 => ?_)
                  refine RO_aload_n dc_Model_readsHour_177 rfl rfl ?_
                  refine RO_callVi (As := []) (rest := []) mi_Model_closes mv_Model_closes ml_Model_351 lk_203 (Nat.le_of_ble_eq_true rfl) rfl (Nat.le_of_ble_eq_true rfl) (fun _ => rfl) dc_Model_readsHour_178 (fun rq mq hq => pf_Model_closes   m38 hq) (fun r39 m40 => ?_)
                  refine RO_chk (fun hz41 => ?_)
                  exact RO_zret rfl hz41 dc_Model_readsHour_181
def bo_Model_days_35    (mem : Mm) : Res := bd (fn_Model_laysLines 5 0 mem) fun r1 m2 => some (0, m2)
set_option maxHeartbeats 4000000 in
theorem rb_Model_days_35 {E : EE}       (mem : Mm) : RO E mt_Model_days (bo_Model_days_35    mem) 35 [(0, rf 203)] [] mem := by
  unfold bo_Model_days_35
  refine RO_aload_n dc_Model_days_35 rfl rfl ?_
  refine RO_iconst dc_Model_days_36 ?_
  refine RO_iconst dc_Model_days_37 ?_
  refine RO_callVv (As := [vi 5, vi 0]) (rest := []) mi_Model_laysLines mv_Model_laysLines ml_Model_422 lk_203 (Nat.le_of_ble_eq_true rfl) rfl (Nat.le_of_ble_eq_true rfl) dc_Model_days_38 (fun rq mq hq => pf_Model_laysLines 5 0  mem hq) (fun r1 m2 => ?_)
  refine RO_iconst dc_Model_days_41 ?_
  exact RO_iret rfl dc_Model_days_42
def bo_Model_days_16  (k16 : Mm → Res)  (mem : Mm) : Res := if (mem 203 6) = 0 then (bo_Model_days_35 mem) else (bd (fn_Model_readsLine  mem) fun r1 m2 => if r1 = 0 then (some (m2 203 9, m2)) else (k16 m2))
set_option maxHeartbeats 4000000 in
theorem rb_Model_days_16 {E : EE}   (k16 : Mm → Res) (H16 : ∀   (mem : Mm), RO E mt_Model_days (k16  mem) 16 [(0, rf 203)] [] mem)   (mem : Mm) : RO E mt_Model_days (bo_Model_days_16  k16  mem) 16 [(0, rf 203)] [] mem := by
  unfold bo_Model_days_16
  refine RO_aload_n dc_Model_days_16 rfl rfl ?_
  refine RO_getI gf_Model_208 lk_203 dc_Model_days_17 ?_
  refine RO_if_eq (tgt := 35) dc_Model_days_20 rfl ?_ ?_
  · refine RO_sub ?_ (rb_Model_days_35 mem)
    exact ⟨rfl, trivial⟩
  · refine RO_aload_n dc_Model_days_23 rfl rfl ?_
    refine RO_callVi (As := []) (rest := []) mi_Model_readsLine mv_Model_readsLine ml_Model_419 lk_203 (Nat.le_of_ble_eq_true rfl) rfl (Nat.le_of_ble_eq_true rfl) (fun _ => rfl) dc_Model_days_24 (fun rq mq hq => pf_Model_readsLine   mem hq) (fun r1 m2 => ?_)
    refine RO_if_ne (tgt := 16) dc_Model_days_27 rfl ?_ ?_
    · refine RO_aload_n dc_Model_days_30 rfl rfl ?_
      refine RO_getI gf_Model_219 lk_203 dc_Model_days_31 ?_
      exact RO_iret rfl dc_Model_days_34
    · refine RO_sub ?_ (H16 m2)
      exact ⟨rfl, trivial⟩
def lp_Model_days_16   : Nat → Mm → Res
  | 0 => fun _ => none
  | n + 1 => bo_Model_days_16   (lp_Model_days_16   n)
theorem rp_Model_days_16 {E : EE}     : ∀ (n : Nat)   (mem : Mm), RO E mt_Model_days (lp_Model_days_16   n  mem) 16 [(0, rf 203)] [] mem := by
  intro n
  induction n with
  | zero => intro   mem; exact RO_none
  | succ n ih => intro   mem; exact rb_Model_days_16    (lp_Model_days_16   n)  ih   mem
def fn_Model_days  (mem : Mm) : Res := bn (mst mem 203 0 0) fun m1 => bn (mst m1 236 (5 : Int).toNat 0) fun m2 => bd (fn_Model_begins  m2) fun r3 m4 => lp_Model_days_16 FU m4
set_option maxHeartbeats 4000000 in
theorem pf_Model_days {E : EE}   (mem : Mm) {r : Int} {mem9 : Mm} (h : fn_Model_days  mem = some (r, mem9)) : MetX E 5 yn_Model_days cd_Model_days 1 (some .int) [rf 203] mem r mem9 := by
  refine RO_met (y := yn_Model_days) (by decide +kernel) (Nat.le_of_ble_eq_true rfl) ?_ h
  show RO E mt_Model_days (fn_Model_days  mem) 0 [(0, rf 203)] [] mem
  unfold fn_Model_days
  refine RO_aload_n dc_Model_days_0 rfl rfl ?_
  refine RO_iconst dc_Model_days_1 ?_
  refine RO_putI gp_Model_183 lk_203 dc_Model_days_2 ?_
  refine RO_bnM (fun m1 => ?_)
  refine RO_aload_n dc_Model_days_5 rfl rfl ?_
  refine RO_getR (b := 236) gf_Model_108 lk_203 rfl dc_Model_days_6 ?_
  refine RO_iconst dc_Model_days_9 ?_
  refine RO_iconst dc_Model_days_10 ?_
  refine RO_is lk_236 ⟨by decide, by decide⟩ dc_Model_days_11 ?_
  refine RO_bnM (fun m2 => ?_)
  refine RO_aload_n dc_Model_days_12 rfl rfl ?_
  refine RO_callVv (As := []) (rest := []) mi_Model_begins mv_Model_begins ml_Model_373 lk_203 (Nat.le_of_ble_eq_true rfl) rfl (Nat.le_of_ble_eq_true rfl) dc_Model_days_13 (fun rq mq hq => pf_Model_begins   m2 hq) (fun r3 m4 => ?_)
  refine RO_sub ?_ (rp_Model_days_16 FU m4)
  exact ⟨rfl, trivial⟩
def fn_Model_where (p1 : Int) (p2 : Int) (mem : Mm) : Res := bn (mst mem 203 0 0) fun m1 => bd (fn_Model_isWalker p1 m1) fun r2 m3 => if r2 = 0 then (some ((-1), m3)) else (bd (fn_Model_within p2 0 239 m3) fun r4 m5 => if r4 = 0 then (some ((-1), m5)) else (bd (fn_Model_laysDay  m5) fun r6 m7 => if 0 ≤ w32 ((w32 (240 * p1)) + p2) ∧ w32 ((w32 (240 * p1)) + p2) < 1440 then some (m7 251 (w32 ((w32 (240 * p1)) + p2)).toNat, m7) else none))
set_option maxHeartbeats 4000000 in
theorem pf_Model_where {E : EE} (p1 : Int) (p2 : Int)  (mem : Mm) {r : Int} {mem9 : Mm} (h : fn_Model_where p1 p2 mem = some (r, mem9)) : MetX E 5 yn_Model_where cd_Model_where 3 (some .int) [rf 203, vi p1, vi p2] mem r mem9 := by
  refine RO_met (y := yn_Model_where) (by decide +kernel) (Nat.le_of_ble_eq_true rfl) ?_ h
  show RO E mt_Model_where (fn_Model_where p1 p2 mem) 0 [(0, rf 203), (1, vi p1), (2, vi p2)] [] mem
  unfold fn_Model_where
  refine RO_aload_n dc_Model_where_0 rfl rfl ?_
  refine RO_iconst dc_Model_where_1 ?_
  refine RO_putI gp_Model_183 lk_203 dc_Model_where_2 ?_
  refine RO_bnM (fun m1 => ?_)
  refine RO_aload_n dc_Model_where_5 rfl rfl ?_
  refine RO_iload_n dc_Model_where_6 rfl rfl ?_
  refine RO_callVi (As := [vi p1]) (rest := []) mi_Model_isWalker mv_Model_isWalker ml_Model_467 lk_203 (Nat.le_of_ble_eq_true rfl) rfl (Nat.le_of_ble_eq_true rfl) (fun _ => rfl) dc_Model_where_7 (fun rq mq hq => pf_Model_isWalker p1  m1 hq) (fun r2 m3 => ?_)
  refine RO_if_eq (tgt := 24) dc_Model_where_10 rfl ?_ ?_
  · refine RO_iconst dc_Model_where_24 ?_
    exact RO_iret rfl dc_Model_where_25
  · refine RO_iload_n dc_Model_where_13 rfl rfl ?_
    refine RO_iconst dc_Model_where_14 ?_
    refine RO_sipush dc_Model_where_15 ?_
    refine RO_callSi (As := [vi p2, vi 0, vi 239]) (rest := []) mi_Model_within ms_Model_within ml_Model_318 (Nat.le_of_ble_eq_true rfl) rfl (Nat.le_of_ble_eq_true rfl) (fun _ => rfl) dc_Model_where_18 (fun rq mq hq => pf_Model_within p2 0 239  m3 hq) (fun r4 m5 => ?_)
    refine RO_if_ne (tgt := 26) dc_Model_where_21 rfl ?_ ?_
    · refine RO_iconst dc_Model_where_24 ?_
      exact RO_iret rfl dc_Model_where_25
    · refine RO_aload_n dc_Model_where_26 rfl rfl ?_
      refine RO_callVv (As := []) (rest := []) mi_Model_laysDay mv_Model_laysDay ml_Model_470 lk_203 (Nat.le_of_ble_eq_true rfl) rfl (Nat.le_of_ble_eq_true rfl) dc_Model_where_27 (fun rq mq hq => pf_Model_laysDay   m5 hq) (fun r6 m7 => ?_)
      refine RO_aload_n dc_Model_where_30 rfl rfl ?_
      refine RO_getR (b := 251) gf_Model_153 lk_203 rfl dc_Model_where_31 ?_
      refine RO_sipush dc_Model_where_34 ?_
      refine RO_iload_n dc_Model_where_37 rfl rfl ?_
      refine RO_imul dc_Model_where_38 ?_
      refine RO_iload_n dc_Model_where_39 rfl rfl ?_
      refine RO_iadd dc_Model_where_40 ?_
      refine RO_chk (fun hi8 => ?_)
      refine RO_ia lk_251 hi8 dc_Model_where_41 ?_
      exact RO_iret rfl dc_Model_where_42
def fn_Model_hour (p1 : Int) (p2 : Int) (mem : Mm) : Res := bn (mst mem 203 0 0) fun m1 => bd (fn_Model_isHour p1 m1) fun r2 m3 => if r2 = 0 then (some ((-2), m3)) else (bd (fn_Model_within p2 0 5 m3) fun r4 m5 => if r4 = 0 then (some ((-2), m5)) else (if p2 < 3 then (if p2 = 0 then (if 0 ≤ w32 (10 + p1) ∧ w32 (10 + p1) < 16 then some (m5 245 (w32 (10 + p1)).toNat, m5) else none) else (if p2 = 1 then (if 0 ≤ p1 ∧ p1 < 12 then some (m5 219 p1.toNat, m5) else none) else (if 0 ≤ p1 ∧ p1 < 12 then some (m5 220 p1.toNat, m5) else none))) else (bd (fn_Model_laysDay  m5) fun r9 m10 => if p2 = 3 then (bd (fn_Model_isWhen p1 m10) fun r11 m12 => some (r11, m12)) else (if p2 = 4 then (bd (fn_Model_isWhen p1 m10) fun r13 m14 => bd (fn_Model_offBy p1 r13 m14) fun r15 m16 => some (r15, m16)) else (bd (fn_Model_costOf p1 m10) fun r17 m18 => some (r17, m18))))))
set_option maxHeartbeats 4000000 in
theorem pf_Model_hour {E : EE} (p1 : Int) (p2 : Int)  (mem : Mm) {r : Int} {mem9 : Mm} (h : fn_Model_hour p1 p2 mem = some (r, mem9)) : MetX E 5 yn_Model_hour cd_Model_hour 3 (some .int) [rf 203, vi p1, vi p2] mem r mem9 := by
  refine RO_met (y := yn_Model_hour) (by decide +kernel) (Nat.le_of_ble_eq_true rfl) ?_ h
  show RO E mt_Model_hour (fn_Model_hour p1 p2 mem) 0 [(0, rf 203), (1, vi p1), (2, vi p2)] [] mem
  unfold fn_Model_hour
  refine RO_aload_n dc_Model_hour_0 rfl rfl ?_
  refine RO_iconst dc_Model_hour_1 ?_
  refine RO_putI gp_Model_183 lk_203 dc_Model_hour_2 ?_
  refine RO_bnM (fun m1 => ?_)
  refine RO_aload_n dc_Model_hour_5 rfl rfl ?_
  refine RO_iload_n dc_Model_hour_6 rfl rfl ?_
  refine RO_callVi (As := [vi p1]) (rest := []) mi_Model_isHour mv_Model_isHour ml_Model_473 lk_203 (Nat.le_of_ble_eq_true rfl) rfl (Nat.le_of_ble_eq_true rfl) (fun _ => rfl) dc_Model_hour_7 (fun rq mq hq => pf_Model_isHour p1  m1 hq) (fun r2 m3 => ?_)
  refine RO_if_eq (tgt := 22) dc_Model_hour_10 rfl ?_ ?_
  · refine RO_bipush dc_Model_hour_22 ?_
    exact RO_iret rfl dc_Model_hour_24
  · refine RO_iload_n dc_Model_hour_13 rfl rfl ?_
    refine RO_iconst dc_Model_hour_14 ?_
    refine RO_iconst dc_Model_hour_15 ?_
    refine RO_callSi (As := [vi p2, vi 0, vi 5]) (rest := []) mi_Model_within ms_Model_within ml_Model_318 (Nat.le_of_ble_eq_true rfl) rfl (Nat.le_of_ble_eq_true rfl) (fun _ => rfl) dc_Model_hour_16 (fun rq mq hq => pf_Model_within p2 0 5  m3 hq) (fun r4 m5 => ?_)
    refine RO_if_ne (tgt := 25) dc_Model_hour_19 rfl ?_ ?_
    · refine RO_bipush dc_Model_hour_22 ?_
      exact RO_iret rfl dc_Model_hour_24
    · refine RO_iload_n dc_Model_hour_25 rfl rfl ?_
      refine RO_iconst dc_Model_hour_26 ?_
      refine RO_icmp_ge (tgt := 67) dc_Model_hour_27 rfl ?_ ?_
      · refine RO_iload_n dc_Model_hour_30 rfl rfl ?_
        refine RO_if_ne (tgt := 46) dc_Model_hour_31 rfl ?_ ?_
        · refine RO_aload_n dc_Model_hour_34 rfl rfl ?_
          refine RO_getR (b := 245) gf_Model_135 lk_203 rfl dc_Model_hour_35 ?_
          refine RO_bipush dc_Model_hour_38 ?_
          refine RO_iload_n dc_Model_hour_40 rfl rfl ?_
          refine RO_iadd dc_Model_hour_41 ?_
          refine RO_chk (fun hi6 => ?_)
          refine RO_ia lk_245 hi6 dc_Model_hour_42 ?_
          refine RO_goto (tgt := 66) dc_Model_hour_43 rfl ?_
          exact RO_iret rfl dc_Model_hour_66
        · refine RO_iload_n dc_Model_hour_46 rfl rfl ?_
          refine RO_iconst dc_Model_hour_47 ?_
          refine RO_icmp_ne (tgt := 60) dc_Model_hour_48 rfl ?_ ?_
          · refine RO_aload_n dc_Model_hour_51 rfl rfl ?_
            refine RO_getR (b := 219) gf_Model_56 lk_203 rfl dc_Model_hour_52 ?_
            refine RO_iload_n dc_Model_hour_55 rfl rfl ?_
            refine RO_chk (fun hi7 => ?_)
            refine RO_ia lk_219 hi7 dc_Model_hour_56 ?_
            refine RO_goto (tgt := 66) dc_Model_hour_57 rfl ?_
            exact RO_iret rfl dc_Model_hour_66
          · refine RO_aload_n dc_Model_hour_60 rfl rfl ?_
            refine RO_getR (b := 220) gf_Model_59 lk_203 rfl dc_Model_hour_61 ?_
            refine RO_iload_n dc_Model_hour_64 rfl rfl ?_
            refine RO_chk (fun hi8 => ?_)
            refine RO_ia lk_220 hi8 dc_Model_hour_65 ?_
            exact RO_iret rfl dc_Model_hour_66
      · refine RO_aload_n dc_Model_hour_67 rfl rfl ?_
        refine RO_callVv (As := []) (rest := []) mi_Model_laysDay mv_Model_laysDay ml_Model_470 lk_203 (Nat.le_of_ble_eq_true rfl) rfl (Nat.le_of_ble_eq_true rfl) dc_Model_hour_68 (fun rq mq hq => pf_Model_laysDay   m5 hq) (fun r9 m10 => ?_)
        refine RO_iload_n dc_Model_hour_71 rfl rfl ?_
        refine RO_iconst dc_Model_hour_72 ?_
        refine RO_icmp_ne (tgt := 84) dc_Model_hour_73 rfl ?_ ?_
        · refine RO_aload_n dc_Model_hour_76 rfl rfl ?_
          refine RO_iload_n dc_Model_hour_77 rfl rfl ?_
          refine RO_callVi (As := [vi p1]) (rest := []) mi_Model_isWhen mv_Model_isWhen ml_Model_454 lk_203 (Nat.le_of_ble_eq_true rfl) rfl (Nat.le_of_ble_eq_true rfl) (fun _ => rfl) dc_Model_hour_78 (fun rq mq hq => pf_Model_isWhen p1  m10 hq) (fun r11 m12 => ?_)
          refine RO_goto (tgt := 107) dc_Model_hour_81 rfl ?_
          exact RO_iret rfl dc_Model_hour_107
        · refine RO_iload_n dc_Model_hour_84 rfl rfl ?_
          refine RO_iconst dc_Model_hour_85 ?_
          refine RO_icmp_ne (tgt := 102) dc_Model_hour_86 rfl ?_ ?_
          · refine RO_aload_n dc_Model_hour_89 rfl rfl ?_
            refine RO_iload_n dc_Model_hour_90 rfl rfl ?_
            refine RO_aload_n dc_Model_hour_91 rfl rfl ?_
            refine RO_iload_n dc_Model_hour_92 rfl rfl ?_
            refine RO_callVi (As := [vi p1]) (rest := [vi p1, rf 203]) mi_Model_isWhen mv_Model_isWhen ml_Model_454 lk_203 (Nat.le_of_ble_eq_true rfl) rfl (Nat.le_of_ble_eq_true rfl) (fun _ => rfl) dc_Model_hour_93 (fun rq mq hq => pf_Model_isWhen p1  m10 hq) (fun r13 m14 => ?_)
            refine RO_callVi (As := [vi p1, vi r13]) (rest := []) mi_Model_offBy mv_Model_offBy ml_Model_457 lk_203 (Nat.le_of_ble_eq_true rfl) rfl (Nat.le_of_ble_eq_true rfl) (fun _ => rfl) dc_Model_hour_96 (fun rq mq hq => pf_Model_offBy p1 r13  m14 hq) (fun r15 m16 => ?_)
            refine RO_goto (tgt := 107) dc_Model_hour_99 rfl ?_
            exact RO_iret rfl dc_Model_hour_107
          · refine RO_aload_n dc_Model_hour_102 rfl rfl ?_
            refine RO_iload_n dc_Model_hour_103 rfl rfl ?_
            refine RO_callVi (As := [vi p1]) (rest := []) mi_Model_costOf mv_Model_costOf ml_Model_476 lk_203 (Nat.le_of_ble_eq_true rfl) rfl (Nat.le_of_ble_eq_true rfl) (fun _ => rfl) dc_Model_hour_104 (fun rq mq hq => pf_Model_costOf p1  m10 hq) (fun r17 m18 => ?_)
            exact RO_iret rfl dc_Model_hour_107
def fn_Model_meet (p1 : Int) (p2 : Int) (p3 : Int) (mem : Mm) : Res := bn (mst mem 203 0 0) fun m1 => bd (fn_Model_isWalker p1 m1) fun r2 m3 => if r2 = 0 then (some ((-2), m3)) else (bd (fn_Model_isWalker p2 m3) fun r4 m5 => if r4 = 0 then (some ((-2), m5)) else (if p1 = p2 then (some ((-2), m5)) else (bd (fn_Model_within p3 0 1 m5) fun r6 m7 => if r6 = 0 then (some ((-2), m7)) else (bd (fn_Model_laysDay  m7) fun r8 m9 => bd (fn_Model_firstMeeting p1 p2 m9) fun r10 m11 => if r10 < 0 then (some (r10, m11)) else (if p3 = 0 then (some (r10, m11)) else (if 0 ≤ w32 ((w32 (240 * p1)) + r10) ∧ w32 ((w32 (240 * p1)) + r10) < 1440 then some (m11 251 (w32 ((w32 (240 * p1)) + r10)).toNat, m11) else none))))))
set_option maxHeartbeats 4000000 in
theorem pf_Model_meet {E : EE} (p1 : Int) (p2 : Int) (p3 : Int)  (mem : Mm) {r : Int} {mem9 : Mm} (h : fn_Model_meet p1 p2 p3 mem = some (r, mem9)) : MetX E 5 yn_Model_meet cd_Model_meet 5 (some .int) [rf 203, vi p1, vi p2, vi p3] mem r mem9 := by
  refine RO_met (y := yn_Model_meet) (by decide +kernel) (Nat.le_of_ble_eq_true rfl) ?_ h
  show RO E mt_Model_meet (fn_Model_meet p1 p2 p3 mem) 0 [(0, rf 203), (1, vi p1), (2, vi p2), (3, vi p3)] [] mem
  unfold fn_Model_meet
  refine RO_aload_n dc_Model_meet_0 rfl rfl ?_
  refine RO_iconst dc_Model_meet_1 ?_
  refine RO_putI gp_Model_183 lk_203 dc_Model_meet_2 ?_
  refine RO_bnM (fun m1 => ?_)
  refine RO_aload_n dc_Model_meet_5 rfl rfl ?_
  refine RO_iload_n dc_Model_meet_6 rfl rfl ?_
  refine RO_callVi (As := [vi p1]) (rest := []) mi_Model_isWalker mv_Model_isWalker ml_Model_467 lk_203 (Nat.le_of_ble_eq_true rfl) rfl (Nat.le_of_ble_eq_true rfl) (fun _ => rfl) dc_Model_meet_7 (fun rq mq hq => pf_Model_isWalker p1  m1 hq) (fun r2 m3 => ?_)
  refine RO_if_eq (tgt := 35) dc_Model_meet_10 rfl ?_ ?_
  · refine RO_bipush dc_Model_meet_35 ?_
    exact RO_iret rfl dc_Model_meet_37
  · refine RO_aload_n dc_Model_meet_13 rfl rfl ?_
    refine RO_iload_n dc_Model_meet_14 rfl rfl ?_
    refine RO_callVi (As := [vi p2]) (rest := []) mi_Model_isWalker mv_Model_isWalker ml_Model_467 lk_203 (Nat.le_of_ble_eq_true rfl) rfl (Nat.le_of_ble_eq_true rfl) (fun _ => rfl) dc_Model_meet_15 (fun rq mq hq => pf_Model_isWalker p2  m3 hq) (fun r4 m5 => ?_)
    refine RO_if_eq (tgt := 35) dc_Model_meet_18 rfl ?_ ?_
    · refine RO_bipush dc_Model_meet_35 ?_
      exact RO_iret rfl dc_Model_meet_37
    · refine RO_iload_n dc_Model_meet_21 rfl rfl ?_
      refine RO_iload_n dc_Model_meet_22 rfl rfl ?_
      refine RO_icmp_eq (tgt := 35) dc_Model_meet_23 rfl ?_ ?_
      · refine RO_bipush dc_Model_meet_35 ?_
        exact RO_iret rfl dc_Model_meet_37
      · refine RO_iload_n dc_Model_meet_26 rfl rfl ?_
        refine RO_iconst dc_Model_meet_27 ?_
        refine RO_iconst dc_Model_meet_28 ?_
        refine RO_callSi (As := [vi p3, vi 0, vi 1]) (rest := []) mi_Model_within ms_Model_within ml_Model_318 (Nat.le_of_ble_eq_true rfl) rfl (Nat.le_of_ble_eq_true rfl) (fun _ => rfl) dc_Model_meet_29 (fun rq mq hq => pf_Model_within p3 0 1  m5 hq) (fun r6 m7 => ?_)
        refine RO_if_ne (tgt := 38) dc_Model_meet_32 rfl ?_ ?_
        · refine RO_bipush dc_Model_meet_35 ?_
          exact RO_iret rfl dc_Model_meet_37
        · refine RO_aload_n dc_Model_meet_38 rfl rfl ?_
          refine RO_callVv (As := []) (rest := []) mi_Model_laysDay mv_Model_laysDay ml_Model_470 lk_203 (Nat.le_of_ble_eq_true rfl) rfl (Nat.le_of_ble_eq_true rfl) dc_Model_meet_39 (fun rq mq hq => pf_Model_laysDay   m7 hq) (fun r8 m9 => ?_)
          refine RO_aload_n dc_Model_meet_42 rfl rfl ?_
          refine RO_iload_n dc_Model_meet_43 rfl rfl ?_
          refine RO_iload_n dc_Model_meet_44 rfl rfl ?_
          refine RO_callVi (As := [vi p1, vi p2]) (rest := []) mi_Model_firstMeeting mv_Model_firstMeeting ml_Model_479 lk_203 (Nat.le_of_ble_eq_true rfl) rfl (Nat.le_of_ble_eq_true rfl) (fun _ => rfl) dc_Model_meet_45 (fun rq mq hq => pf_Model_firstMeeting p1 p2  m9 hq) (fun r10 m11 => ?_)
          refine RO_istore dc_Model_meet_48 (Nat.le_of_ble_eq_true rfl) ?_
          refine RO_iload dc_Model_meet_50 rfl ?_
          refine RO_if_lt (tgt := 59) dc_Model_meet_52 rfl ?_ ?_
          · refine RO_iload dc_Model_meet_59 rfl ?_
            refine RO_goto (tgt := 77) dc_Model_meet_61 rfl ?_
            exact RO_iret rfl dc_Model_meet_77
          · refine RO_iload_n dc_Model_meet_55 rfl rfl ?_
            refine RO_if_ne (tgt := 64) dc_Model_meet_56 rfl ?_ ?_
            · refine RO_iload dc_Model_meet_59 rfl ?_
              refine RO_goto (tgt := 77) dc_Model_meet_61 rfl ?_
              exact RO_iret rfl dc_Model_meet_77
            · refine RO_aload_n dc_Model_meet_64 rfl rfl ?_
              refine RO_getR (b := 251) gf_Model_153 lk_203 rfl dc_Model_meet_65 ?_
              refine RO_sipush dc_Model_meet_68 ?_
              refine RO_iload_n dc_Model_meet_71 rfl rfl ?_
              refine RO_imul dc_Model_meet_72 ?_
              refine RO_iload dc_Model_meet_73 rfl ?_
              refine RO_iadd dc_Model_meet_75 ?_
              refine RO_chk (fun hi12 => ?_)
              refine RO_ia lk_251 hi12 dc_Model_meet_76 ?_
              exact RO_iret rfl dc_Model_meet_77
def bo_Model_passes_92   (v1 : Int) (mem : Mm) : Res := bn (mst mem 245 (3 : Int).toNat 0) fun m1 => bn (mst m1 245 (0 : Int).toNat (w32 ((m1 245 (0 : Int).toNat) + 1))) fun m2 => some (v1, m2)
set_option maxHeartbeats 4000000 in
theorem rb_Model_passes_92 {E : EE}     (v1 : Int)  (mem : Mm) : RO E mt_Model_passes (bo_Model_passes_92   v1 mem) 92 [(0, rf 203), (1, vi v1)] [] mem := by
  unfold bo_Model_passes_92
  refine RO_aload_n dc_Model_passes_92 rfl rfl ?_
  refine RO_getR (b := 245) gf_Model_135 lk_203 rfl dc_Model_passes_93 ?_
  refine RO_iconst dc_Model_passes_96 ?_
  refine RO_iconst dc_Model_passes_97 ?_
  refine RO_is lk_245 ⟨by decide, by decide⟩ dc_Model_passes_98 ?_
  refine RO_bnM (fun m1 => ?_)
  refine RO_aload_n dc_Model_passes_99 rfl rfl ?_
  refine RO_getR (b := 245) gf_Model_135 lk_203 rfl dc_Model_passes_100 ?_
  refine RO_iconst dc_Model_passes_103 ?_
  refine RO_dup2 dc_Model_passes_104 (nt0 _) (nt2 _) ?_
  refine RO_ia lk_245 ⟨by decide, by decide⟩ dc_Model_passes_105 ?_
  refine RO_iconst dc_Model_passes_106 ?_
  refine RO_iadd dc_Model_passes_107 ?_
  refine RO_is lk_245 ⟨by decide, by decide⟩ dc_Model_passes_108 ?_
  refine RO_bnM (fun m2 => ?_)
  refine RO_iload_n dc_Model_passes_109 rfl rfl ?_
  exact RO_iret rfl dc_Model_passes_110
def bo_Model_passes_71  (k71 : Int → Int → Mm → Res) (v1 : Int) (v2 : Int) (mem : Mm) : Res := if v2 < 6 then (if 0 ≤ w32 (4 + v2) ∧ w32 (4 + v2) < 16 then bn (mst mem 245 (w32 (4 + v2)).toNat 0) fun m2 => k71 v1 (w32 (v2 + 1)) m2 else none) else (bo_Model_passes_92 v1 mem)
set_option maxHeartbeats 4000000 in
theorem rb_Model_passes_71 {E : EE}   (k71 : Int → Int → Mm → Res) (H71 : ∀ (v1 : Int) (v2 : Int)  (mem : Mm), RO E mt_Model_passes (k71 v1 v2 mem) 71 [(0, rf 203), (1, vi v1), (2, vi v2)] [] mem) (v1 : Int) (v2 : Int)  (mem : Mm) : RO E mt_Model_passes (bo_Model_passes_71  k71 v1 v2 mem) 71 [(0, rf 203), (1, vi v1), (2, vi v2)] [] mem := by
  unfold bo_Model_passes_71
  refine RO_iload_n dc_Model_passes_71 rfl rfl ?_
  refine RO_bipush dc_Model_passes_72 ?_
  refine RO_icmp_ge (tgt := 92) dc_Model_passes_74 rfl ?_ ?_
  · refine RO_aload_n dc_Model_passes_77 rfl rfl ?_
    refine RO_getR (b := 245) gf_Model_135 lk_203 rfl dc_Model_passes_78 ?_
    refine RO_iconst dc_Model_passes_81 ?_
    refine RO_iload_n dc_Model_passes_82 rfl rfl ?_
    refine RO_iadd dc_Model_passes_83 ?_
    refine RO_iconst dc_Model_passes_84 ?_
    refine RO_chk (fun hi1 => ?_)
    refine RO_is lk_245 hi1 dc_Model_passes_85 ?_
    refine RO_bnM (fun m2 => ?_)
    refine RO_iinc dc_Model_passes_86 rfl (Nat.le_of_ble_eq_true rfl) ?_
    refine RO_goto (tgt := 71) dc_Model_passes_89 rfl ?_
    refine RO_sub ?_ (H71 v1 (w32 (v2 + 1)) m2)
    exact ⟨rfl, rfl, rfl, trivial⟩
  · refine RO_sub ?_ (rb_Model_passes_92 v1 mem)
    exact ⟨rfl, rfl, trivial⟩
def lp_Model_passes_71   : Nat → Int → Int → Mm → Res
  | 0 => fun _ _ _ => none
  | n + 1 => bo_Model_passes_71   (lp_Model_passes_71   n)
theorem rp_Model_passes_71 {E : EE}     : ∀ (n : Nat) (v1 : Int) (v2 : Int)  (mem : Mm), RO E mt_Model_passes (lp_Model_passes_71   n v1 v2 mem) 71 [(0, rf 203), (1, vi v1), (2, vi v2)] [] mem := by
  intro n
  induction n with
  | zero => intro v1 v2  mem; exact RO_none
  | succ n ih => intro v1 v2  mem; exact rb_Model_passes_71    (lp_Model_passes_71   n)  ih v1 v2  mem
def bo_Model_passes_59   (v1 : Int) (mem : Mm) : Res := bn (mst mem 245 (1 : Int).toNat (w32 ((mem 245 (1 : Int).toNat) + v1))) fun m1 => lp_Model_passes_71 FU v1 0 m1
set_option maxHeartbeats 4000000 in
theorem rb_Model_passes_59 {E : EE}     (v1 : Int)  (mem : Mm) : RO E mt_Model_passes (bo_Model_passes_59   v1 mem) 59 [(0, rf 203), (1, vi v1)] [] mem := by
  unfold bo_Model_passes_59
  refine RO_aload_n dc_Model_passes_59 rfl rfl ?_
  refine RO_getR (b := 245) gf_Model_135 lk_203 rfl dc_Model_passes_60 ?_
  refine RO_iconst dc_Model_passes_63 ?_
  refine RO_dup2 dc_Model_passes_64 (nt0 _) (nt2 _) ?_
  refine RO_ia lk_245 ⟨by decide, by decide⟩ dc_Model_passes_65 ?_
  refine RO_iload_n dc_Model_passes_66 rfl rfl ?_
  refine RO_iadd dc_Model_passes_67 ?_
  refine RO_is lk_245 ⟨by decide, by decide⟩ dc_Model_passes_68 ?_
  refine RO_bnM (fun m1 => ?_)
  refine RO_iconst dc_Model_passes_69 ?_
  refine RO_istore_n dc_Model_passes_70 rfl (Nat.le_of_ble_eq_true rfl) ?_
  refine RO_sub ?_ (rp_Model_passes_71 FU v1 0 m1)
  exact ⟨rfl, rfl, rfl, trivial⟩
def bo_Model_passes_49  (k13 : Int → Int → Mm → Res) (v1 : Int) (v2 : Int) (s1 : Int) (s2 : Int) (mem : Mm) : Res := bn (mst mem 203 64 (w32 (s1 + s2))) fun m1 => k13 v1 (w32 (v2 + 1)) m1
set_option maxHeartbeats 4000000 in
theorem rb_Model_passes_49 {E : EE}   (k13 : Int → Int → Mm → Res) (H13 : ∀ (v1 : Int) (v2 : Int)  (mem : Mm), RO E mt_Model_passes (k13 v1 v2 mem) 13 [(0, rf 203), (1, vi v1), (2, vi v2)] [] mem) (v1 : Int) (v2 : Int) (s1 : Int) (s2 : Int)  (mem : Mm) : RO E mt_Model_passes (bo_Model_passes_49  k13 v1 v2 s1 s2 mem) 49 [(0, rf 203), (1, vi v1), (2, vi v2)] [vi s2, vi s1, rf 203] mem := by
  unfold bo_Model_passes_49
  refine RO_iadd dc_Model_passes_49 ?_
  refine RO_putI gp_Model_498 lk_203 dc_Model_passes_50 ?_
  refine RO_bnM (fun m1 => ?_)
  refine RO_iinc dc_Model_passes_53 rfl (Nat.le_of_ble_eq_true rfl) ?_
  refine RO_goto (tgt := 13) dc_Model_passes_56 rfl ?_
  refine RO_sub ?_ (H13 v1 (w32 (v2 + 1)) m1)
  exact ⟨rfl, rfl, rfl, trivial⟩
def bo_Model_passes_13  (k13 : Int → Int → Mm → Res) (v1 : Int) (v2 : Int) (mem : Mm) : Res := if v2 < (mem 205 (2 : Int).toNat) then (bd (fn_Model_costOf v2 mem) fun r1 m2 => bn (w32 (v1 + r1)) fun x3 => bd (fn_Model_isWhen v2 m2) fun r4 m5 => if r4 < 0 then (bo_Model_passes_49 k13 x3 v2 (m2 203 64) 1 m5) else (bo_Model_passes_49 k13 x3 v2 (m2 203 64) 0 m5)) else (bo_Model_passes_59 v1 mem)
set_option maxHeartbeats 4000000 in
theorem rb_Model_passes_13 {E : EE}   (k13 : Int → Int → Mm → Res) (H13 : ∀ (v1 : Int) (v2 : Int)  (mem : Mm), RO E mt_Model_passes (k13 v1 v2 mem) 13 [(0, rf 203), (1, vi v1), (2, vi v2)] [] mem) (v1 : Int) (v2 : Int)  (mem : Mm) : RO E mt_Model_passes (bo_Model_passes_13  k13 v1 v2 mem) 13 [(0, rf 203), (1, vi v1), (2, vi v2)] [] mem := by
  unfold bo_Model_passes_13
  refine RO_iload_n dc_Model_passes_13 rfl rfl ?_
  refine RO_aload_n dc_Model_passes_14 rfl rfl ?_
  refine RO_getR (b := 205) gf_Model_13 lk_203 rfl dc_Model_passes_15 ?_
  refine RO_iconst dc_Model_passes_18 ?_
  refine RO_ia lk_205 ⟨by decide, by decide⟩ dc_Model_passes_19 ?_
  refine RO_icmp_ge (tgt := 59) dc_Model_passes_20 rfl ?_ ?_
  · refine RO_iload_n dc_Model_passes_23 rfl rfl ?_
    refine RO_aload_n dc_Model_passes_24 rfl rfl ?_
    refine RO_iload_n dc_Model_passes_25 rfl rfl ?_
    refine RO_callVi (As := [vi v2]) (rest := [vi v1]) mi_Model_costOf mv_Model_costOf ml_Model_476 lk_203 (Nat.le_of_ble_eq_true rfl) rfl (Nat.le_of_ble_eq_true rfl) (fun _ => rfl) dc_Model_passes_26 (fun rq mq hq => pf_Model_costOf v2  mem hq) (fun r1 m2 => ?_)
    refine RO_iadd dc_Model_passes_29 ?_
    refine RO_bnT (fun x3 => ?_)
    refine RO_istore_n dc_Model_passes_30 rfl (Nat.le_of_ble_eq_true rfl) ?_
    refine RO_aload_n dc_Model_passes_31 rfl rfl ?_
    refine RO_dup dc_Model_passes_32 (nt2 _) ?_
    refine RO_getI gf_Model_498 lk_203 dc_Model_passes_33 ?_
    refine RO_aload_n dc_Model_passes_36 rfl rfl ?_
    refine RO_iload_n dc_Model_passes_37 rfl rfl ?_
    refine RO_callVi (As := [vi v2]) (rest := [vi (m2 203 64), rf 203]) mi_Model_isWhen mv_Model_isWhen ml_Model_454 lk_203 (Nat.le_of_ble_eq_true rfl) rfl (Nat.le_of_ble_eq_true rfl) (fun _ => rfl) dc_Model_passes_38 (fun rq mq hq => pf_Model_isWhen v2  m2 hq) (fun r4 m5 => ?_)
    refine RO_if_ge (tgt := 48) dc_Model_passes_41 rfl ?_ ?_
    · refine RO_iconst dc_Model_passes_44 ?_
      refine RO_goto (tgt := 49) dc_Model_passes_45 rfl ?_
      refine RO_sub ?_ (rb_Model_passes_49 k13 H13 x3 v2 (m2 203 64) 1 m5)
      exact ⟨rfl, rfl, rfl, trivial⟩
    · refine RO_iconst dc_Model_passes_48 ?_
      refine RO_sub ?_ (rb_Model_passes_49 k13 H13 x3 v2 (m2 203 64) 0 m5)
      exact ⟨rfl, rfl, rfl, trivial⟩
  · refine RO_sub ?_ (rb_Model_passes_59 v1 mem)
    exact ⟨rfl, rfl, trivial⟩
def lp_Model_passes_13   : Nat → Int → Int → Mm → Res
  | 0 => fun _ _ _ => none
  | n + 1 => bo_Model_passes_13   (lp_Model_passes_13   n)
theorem rp_Model_passes_13 {E : EE}     : ∀ (n : Nat) (v1 : Int) (v2 : Int)  (mem : Mm), RO E mt_Model_passes (lp_Model_passes_13   n v1 v2 mem) 13 [(0, rf 203), (1, vi v1), (2, vi v2)] [] mem := by
  intro n
  induction n with
  | zero => intro v1 v2  mem; exact RO_none
  | succ n ih => intro v1 v2  mem; exact rb_Model_passes_13    (lp_Model_passes_13   n)  ih v1 v2  mem
def fn_Model_passes  (mem : Mm) : Res := bd (fn_Model_laysDay  mem) fun r1 m2 => bn (mst m2 203 64 0) fun m3 => lp_Model_passes_13 FU 0 0 m3
set_option maxHeartbeats 4000000 in
theorem pf_Model_passes {E : EE}   (mem : Mm) {r : Int} {mem9 : Mm} (h : fn_Model_passes  mem = some (r, mem9)) : MetX E 5 yn_Model_passes cd_Model_passes 3 (some .int) [rf 203] mem r mem9 := by
  refine RO_met (y := yn_Model_passes) (by decide +kernel) (Nat.le_of_ble_eq_true rfl) ?_ h
  show RO E mt_Model_passes (fn_Model_passes  mem) 0 [(0, rf 203)] [] mem
  unfold fn_Model_passes
  refine RO_aload_n dc_Model_passes_0 rfl rfl ?_
  refine RO_callVv (As := []) (rest := []) mi_Model_laysDay mv_Model_laysDay ml_Model_470 lk_203 (Nat.le_of_ble_eq_true rfl) rfl (Nat.le_of_ble_eq_true rfl) dc_Model_passes_1 (fun rq mq hq => pf_Model_laysDay   mem hq) (fun r1 m2 => ?_)
  refine RO_iconst dc_Model_passes_4 ?_
  refine RO_istore_n dc_Model_passes_5 rfl (Nat.le_of_ble_eq_true rfl) ?_
  refine RO_aload_n dc_Model_passes_6 rfl rfl ?_
  refine RO_iconst dc_Model_passes_7 ?_
  refine RO_putI gp_Model_498 lk_203 dc_Model_passes_8 ?_
  refine RO_bnM (fun m3 => ?_)
  refine RO_iconst dc_Model_passes_11 ?_
  refine RO_istore_n dc_Model_passes_12 rfl (Nat.le_of_ble_eq_true rfl) ?_
  refine RO_sub ?_ (rp_Model_passes_13 FU 0 0 m3)
  exact ⟨rfl, rfl, rfl, trivial⟩
def bo_Model_times_70 (p1 : Int)  (v2 : Int) (v3 : Int) (v4 : Int) (mem : Mm) : Res := if p1 = 0 then (some (v2, mem)) else (if p1 = 1 then (some (v3, mem)) else (some (v4, mem)))
set_option maxHeartbeats 4000000 in
theorem rb_Model_times_70 {E : EE} (p1 : Int)    (v2 : Int) (v3 : Int) (v4 : Int)  (mem : Mm) : RO E mt_Model_times (bo_Model_times_70 p1  v2 v3 v4 mem) 70 [(1, vi p1), (2, vi v2), (3, vi v3), (4, vi v4)] [] mem := by
  unfold bo_Model_times_70
  refine RO_iload_n dc_Model_times_70 rfl rfl ?_
  refine RO_if_ne (tgt := 78) dc_Model_times_71 rfl ?_ ?_
  · refine RO_iload_n dc_Model_times_74 rfl rfl ?_
    refine RO_goto (tgt := 89) dc_Model_times_75 rfl ?_
    exact RO_iret rfl dc_Model_times_89
  · refine RO_iload_n dc_Model_times_78 rfl rfl ?_
    refine RO_iconst dc_Model_times_79 ?_
    refine RO_icmp_ne (tgt := 87) dc_Model_times_80 rfl ?_ ?_
    · refine RO_iload_n dc_Model_times_83 rfl rfl ?_
      refine RO_goto (tgt := 89) dc_Model_times_84 rfl ?_
      exact RO_iret rfl dc_Model_times_89
    · refine RO_iload dc_Model_times_87 rfl ?_
      exact RO_iret rfl dc_Model_times_89
def bo_Model_times_64 (p1 : Int) (k30 : Int → Int → Int → Int → Mm → Res) (v2 : Int) (v3 : Int) (v4 : Int) (v5 : Int) (mem : Mm) : Res := k30 v2 v3 v4 (w32 (v5 + 1)) mem
set_option maxHeartbeats 4000000 in
theorem rb_Model_times_64 {E : EE} (p1 : Int)  (k30 : Int → Int → Int → Int → Mm → Res) (H30 : ∀ (v2 : Int) (v3 : Int) (v4 : Int) (v5 : Int)  (mem : Mm), RO E mt_Model_times (k30 v2 v3 v4 v5 mem) 30 [(0, rf 203), (1, vi p1), (2, vi v2), (3, vi v3), (4, vi v4), (5, vi v5)] [] mem) (v2 : Int) (v3 : Int) (v4 : Int) (v5 : Int)  (mem : Mm) : RO E mt_Model_times (bo_Model_times_64 p1 k30 v2 v3 v4 v5 mem) 64 [(0, rf 203), (1, vi p1), (2, vi v2), (3, vi v3), (4, vi v4), (5, vi v5)] [] mem := by
  unfold bo_Model_times_64
  refine RO_iinc dc_Model_times_64 rfl (Nat.le_of_ble_eq_true rfl) ?_
  refine RO_goto (tgt := 30) dc_Model_times_67 rfl ?_
  refine RO_sub ?_ (H30 v2 v3 v4 (w32 (v5 + 1)) mem)
  exact ⟨rfl, rfl, rfl, rfl, rfl, rfl, trivial⟩
def bo_Model_times_60 (p1 : Int) (k30 : Int → Int → Int → Int → Mm → Res) (v2 : Int) (v3 : Int) (v5 : Int) (mem : Mm) : Res := bo_Model_times_64 p1 k30 v2 v3 v5 v5 mem
set_option maxHeartbeats 4000000 in
theorem rb_Model_times_60 {E : EE} (p1 : Int)  (k30 : Int → Int → Int → Int → Mm → Res) (H30 : ∀ (v2 : Int) (v3 : Int) (v4 : Int) (v5 : Int)  (mem : Mm), RO E mt_Model_times (k30 v2 v3 v4 v5 mem) 30 [(0, rf 203), (1, vi p1), (2, vi v2), (3, vi v3), (4, vi v4), (5, vi v5)] [] mem) (v2 : Int) (v3 : Int) (v5 : Int)  (mem : Mm) : RO E mt_Model_times (bo_Model_times_60 p1 k30 v2 v3 v5 mem) 60 [(0, rf 203), (1, vi p1), (2, vi v2), (3, vi v3), (5, vi v5)] [] mem := by
  unfold bo_Model_times_60
  refine RO_iload dc_Model_times_60 rfl ?_
  refine RO_istore dc_Model_times_62 (Nat.le_of_ble_eq_true rfl) ?_
  refine RO_sub ?_ (rb_Model_times_64 p1 k30 H30 v2 v3 v5 v5 mem)
  exact ⟨rfl, rfl, rfl, rfl, rfl, rfl, trivial⟩
def bo_Model_times_30 (p1 : Int) (k30 : Int → Int → Int → Int → Mm → Res) (v2 : Int) (v3 : Int) (v4 : Int) (v5 : Int) (mem : Mm) : Res := if v5 < 240 then (bd (fn_Model_isAsSeen v5 mem) fun r1 m2 => if r1 = 0 then (bo_Model_times_64 p1 k30 v2 v3 v4 v5 m2) else (if v3 < 0 then (bo_Model_times_60 p1 k30 (w32 (v2 + 1)) v5 v5 m2) else (bo_Model_times_60 p1 k30 (w32 (v2 + 1)) v3 v5 m2))) else (bo_Model_times_70 p1 v2 v3 v4 mem)
set_option maxHeartbeats 4000000 in
theorem rb_Model_times_30 {E : EE} (p1 : Int)  (k30 : Int → Int → Int → Int → Mm → Res) (H30 : ∀ (v2 : Int) (v3 : Int) (v4 : Int) (v5 : Int)  (mem : Mm), RO E mt_Model_times (k30 v2 v3 v4 v5 mem) 30 [(0, rf 203), (1, vi p1), (2, vi v2), (3, vi v3), (4, vi v4), (5, vi v5)] [] mem) (v2 : Int) (v3 : Int) (v4 : Int) (v5 : Int)  (mem : Mm) : RO E mt_Model_times (bo_Model_times_30 p1 k30 v2 v3 v4 v5 mem) 30 [(0, rf 203), (1, vi p1), (2, vi v2), (3, vi v3), (4, vi v4), (5, vi v5)] [] mem := by
  unfold bo_Model_times_30
  refine RO_iload dc_Model_times_30 rfl ?_
  refine RO_sipush dc_Model_times_32 ?_
  refine RO_icmp_ge (tgt := 70) dc_Model_times_35 rfl ?_ ?_
  · refine RO_aload_n dc_Model_times_38 rfl rfl ?_
    refine RO_iload dc_Model_times_39 rfl ?_
    refine RO_callVi (As := [vi v5]) (rest := []) mi_Model_isAsSeen mv_Model_isAsSeen ml_Model_507 lk_203 (Nat.le_of_ble_eq_true rfl) rfl (Nat.le_of_ble_eq_true rfl) (fun _ => rfl) dc_Model_times_41 (fun rq mq hq => pf_Model_isAsSeen v5  mem hq) (fun r1 m2 => ?_)
    refine RO_if_ne (tgt := 50) dc_Model_times_44 rfl ?_ ?_
    · refine RO_goto (tgt := 64) dc_Model_times_47 rfl ?_
      refine RO_sub ?_ (rb_Model_times_64 p1 k30 H30 v2 v3 v4 v5 m2)
      exact ⟨rfl, rfl, rfl, rfl, rfl, rfl, trivial⟩
    · refine RO_iinc dc_Model_times_50 rfl (Nat.le_of_ble_eq_true rfl) ?_
      refine RO_iload_n dc_Model_times_53 rfl rfl ?_
      refine RO_if_ge (tgt := 60) dc_Model_times_54 rfl ?_ ?_
      · refine RO_iload dc_Model_times_57 rfl ?_
        refine RO_istore_n dc_Model_times_59 rfl (Nat.le_of_ble_eq_true rfl) ?_
        refine RO_sub ?_ (rb_Model_times_60 p1 k30 H30 (w32 (v2 + 1)) v5 v5 m2)
        exact ⟨rfl, rfl, rfl, rfl, rfl, trivial⟩
      · refine RO_sub ?_ (rb_Model_times_60 p1 k30 H30 (w32 (v2 + 1)) v3 v5 m2)
        exact ⟨rfl, rfl, rfl, rfl, rfl, trivial⟩
  · refine RO_sub ?_ (rb_Model_times_70 p1 v2 v3 v4 mem)
    exact ⟨rfl, rfl, rfl, rfl, trivial⟩
def lp_Model_times_30 (p1 : Int)  : Nat → Int → Int → Int → Int → Mm → Res
  | 0 => fun _ _ _ _ _ => none
  | n + 1 => bo_Model_times_30 p1  (lp_Model_times_30 p1  n)
theorem rp_Model_times_30 {E : EE} (p1 : Int)    : ∀ (n : Nat) (v2 : Int) (v3 : Int) (v4 : Int) (v5 : Int)  (mem : Mm), RO E mt_Model_times (lp_Model_times_30 p1  n v2 v3 v4 v5 mem) 30 [(0, rf 203), (1, vi p1), (2, vi v2), (3, vi v3), (4, vi v4), (5, vi v5)] [] mem := by
  intro n
  induction n with
  | zero => intro v2 v3 v4 v5  mem; exact RO_none
  | succ n ih => intro v2 v3 v4 v5  mem; exact rb_Model_times_30 p1   (lp_Model_times_30 p1  n)  ih v2 v3 v4 v5  mem
def fn_Model_times (p1 : Int) (mem : Mm) : Res := bn (mst mem 203 0 0) fun m1 => bd (fn_Model_within p1 0 2 m1) fun r2 m3 => if r2 = 0 then (some ((-1), m3)) else (bd (fn_Model_laysDay  m3) fun r4 m5 => lp_Model_times_30 p1 FU 0 (-1) (-1) 0 m5)
set_option maxHeartbeats 4000000 in
theorem pf_Model_times {E : EE} (p1 : Int)  (mem : Mm) {r : Int} {mem9 : Mm} (h : fn_Model_times p1 mem = some (r, mem9)) : MetX E 5 yn_Model_times cd_Model_times 6 (some .int) [rf 203, vi p1] mem r mem9 := by
  refine RO_met (y := yn_Model_times) (by decide +kernel) (Nat.le_of_ble_eq_true rfl) ?_ h
  show RO E mt_Model_times (fn_Model_times p1 mem) 0 [(0, rf 203), (1, vi p1)] [] mem
  unfold fn_Model_times
  refine RO_aload_n dc_Model_times_0 rfl rfl ?_
  refine RO_iconst dc_Model_times_1 ?_
  refine RO_putI gp_Model_183 lk_203 dc_Model_times_2 ?_
  refine RO_bnM (fun m1 => ?_)
  refine RO_iload_n dc_Model_times_5 rfl rfl ?_
  refine RO_iconst dc_Model_times_6 ?_
  refine RO_iconst dc_Model_times_7 ?_
  refine RO_callSi (As := [vi p1, vi 0, vi 2]) (rest := []) mi_Model_within ms_Model_within ml_Model_318 (Nat.le_of_ble_eq_true rfl) rfl (Nat.le_of_ble_eq_true rfl) (fun _ => rfl) dc_Model_times_8 (fun rq mq hq => pf_Model_within p1 0 2  m1 hq) (fun r2 m3 => ?_)
  refine RO_if_ne (tgt := 16) dc_Model_times_11 rfl ?_ ?_
  · refine RO_iconst dc_Model_times_14 ?_
    exact RO_iret rfl dc_Model_times_15
  · refine RO_aload_n dc_Model_times_16 rfl rfl ?_
    refine RO_callVv (As := []) (rest := []) mi_Model_laysDay mv_Model_laysDay ml_Model_470 lk_203 (Nat.le_of_ble_eq_true rfl) rfl (Nat.le_of_ble_eq_true rfl) dc_Model_times_17 (fun rq mq hq => pf_Model_laysDay   m3 hq) (fun r4 m5 => ?_)
    refine RO_iconst dc_Model_times_20 ?_
    refine RO_istore_n dc_Model_times_21 rfl (Nat.le_of_ble_eq_true rfl) ?_
    refine RO_iconst dc_Model_times_22 ?_
    refine RO_istore_n dc_Model_times_23 rfl (Nat.le_of_ble_eq_true rfl) ?_
    refine RO_iconst dc_Model_times_24 ?_
    refine RO_istore dc_Model_times_25 (Nat.le_of_ble_eq_true rfl) ?_
    refine RO_iconst dc_Model_times_27 ?_
    refine RO_istore dc_Model_times_28 (Nat.le_of_ble_eq_true rfl) ?_
    refine RO_sub ?_ (rp_Model_times_30 p1 FU 0 (-1) (-1) 0 m5)
    exact ⟨rfl, rfl, rfl, rfl, rfl, rfl, trivial⟩
def bo_Model_sure_197 (p1 : Int) (p2 : Int) (p3 : Int)  (v5 : Int) (v6 : Int) (mem : Mm) : Res := if v5 < 0 then (some (v5, mem)) else (if p3 = 0 then (some (v5, mem)) else (some (v6, mem)))
set_option maxHeartbeats 4000000 in
theorem rb_Model_sure_197 {E : EE} (p1 : Int) (p2 : Int) (p3 : Int)    (v5 : Int) (v6 : Int)  (mem : Mm) : RO E mt_Model_sure (bo_Model_sure_197 p1 p2 p3  v5 v6 mem) 197 [(3, vi p3), (5, vi v5), (6, vi v6)] [] mem := by
  unfold bo_Model_sure_197
  refine RO_iload dc_Model_sure_197 rfl ?_
  refine RO_if_lt (tgt := 206) dc_Model_sure_199 rfl ?_ ?_
  · refine RO_iload dc_Model_sure_206 rfl ?_
    refine RO_goto (tgt := 213) dc_Model_sure_208 rfl ?_
    exact RO_iret rfl dc_Model_sure_213
  · refine RO_iload_n dc_Model_sure_202 rfl rfl ?_
    refine RO_if_ne (tgt := 211) dc_Model_sure_203 rfl ?_ ?_
    · refine RO_iload dc_Model_sure_206 rfl ?_
      refine RO_goto (tgt := 213) dc_Model_sure_208 rfl ?_
      exact RO_iret rfl dc_Model_sure_213
    · refine RO_iload dc_Model_sure_211 rfl ?_
      exact RO_iret rfl dc_Model_sure_213
def bo_Model_sure_191 (p1 : Int) (p2 : Int) (p3 : Int) (k115 : Int → Int → Int → Mm → Res) (v5 : Int) (v6 : Int) (v7 : Int) (mem : Mm) : Res := k115 v5 v6 (w32 (v7 + 1)) mem
set_option maxHeartbeats 4000000 in
theorem rb_Model_sure_191 {E : EE} (p1 : Int) (p2 : Int) (p3 : Int)  (k115 : Int → Int → Int → Mm → Res) (H115 : ∀ (v5 : Int) (v6 : Int) (v7 : Int)  (mem : Mm), RO E mt_Model_sure (k115 v5 v6 v7 mem) 115 [(0, rf 203), (1, vi p1), (2, vi p2), (3, vi p3), (5, vi v5), (6, vi v6), (7, vi v7)] [] mem) (v5 : Int) (v6 : Int) (v7 : Int)  (mem : Mm) : RO E mt_Model_sure (bo_Model_sure_191 p1 p2 p3 k115 v5 v6 v7 mem) 191 [(0, rf 203), (1, vi p1), (2, vi p2), (3, vi p3), (5, vi v5), (6, vi v6), (7, vi v7)] [] mem := by
  unfold bo_Model_sure_191
  refine RO_iinc dc_Model_sure_191 rfl (Nat.le_of_ble_eq_true rfl) ?_
  refine RO_goto (tgt := 115) dc_Model_sure_194 rfl ?_
  refine RO_sub ?_ (H115 v5 v6 (w32 (v7 + 1)) mem)
  exact ⟨rfl, rfl, rfl, rfl, rfl, rfl, rfl, trivial⟩
def bo_Model_sure_183 (p1 : Int) (p2 : Int) (p3 : Int) (k115 : Int → Int → Int → Mm → Res) (v7 : Int) (v9 : Int) (mem : Mm) : Res := bo_Model_sure_191 p1 p2 p3 k115 v7 v9 v7 mem
set_option maxHeartbeats 4000000 in
theorem rb_Model_sure_183 {E : EE} (p1 : Int) (p2 : Int) (p3 : Int)  (k115 : Int → Int → Int → Mm → Res) (H115 : ∀ (v5 : Int) (v6 : Int) (v7 : Int)  (mem : Mm), RO E mt_Model_sure (k115 v5 v6 v7 mem) 115 [(0, rf 203), (1, vi p1), (2, vi p2), (3, vi p3), (5, vi v5), (6, vi v6), (7, vi v7)] [] mem) (v7 : Int) (v9 : Int)  (mem : Mm) : RO E mt_Model_sure (bo_Model_sure_183 p1 p2 p3 k115 v7 v9 mem) 183 [(0, rf 203), (1, vi p1), (2, vi p2), (3, vi p3), (7, vi v7), (9, vi v9)] [] mem := by
  unfold bo_Model_sure_183
  refine RO_iload dc_Model_sure_183 rfl ?_
  refine RO_istore dc_Model_sure_185 (Nat.le_of_ble_eq_true rfl) ?_
  refine RO_iload dc_Model_sure_187 rfl ?_
  refine RO_istore dc_Model_sure_189 (Nat.le_of_ble_eq_true rfl) ?_
  refine RO_sub ?_ (rb_Model_sure_191 p1 p2 p3 k115 H115 v7 v9 v7 mem)
  exact ⟨rfl, rfl, rfl, rfl, rfl, rfl, rfl, trivial⟩
def bo_Model_sure_115 (p1 : Int) (p2 : Int) (p3 : Int) (k115 : Int → Int → Int → Mm → Res) (v5 : Int) (v6 : Int) (v7 : Int) (mem : Mm) : Res := if v7 < (mem 205 (0 : Int).toNat) then (bd (fn_Model_firstMeetingAt p1 p2 v7 mem) fun r1 m2 => if r1 < 0 then (bo_Model_sure_191 p1 p2 p3 k115 v5 v6 v7 m2) else (if 0 ≤ v7 ∧ v7 < 6 then if (m2 258 v7.toNat) < 0 then (bo_Model_sure_191 p1 p2 p3 k115 v5 v6 v7 m2) else (if 0 ≤ v7 ∧ v7 < 6 then bn (imx r1 (m2 258 v7.toNat)) fun x5 => if v5 < 0 then (bo_Model_sure_183 p1 p2 p3 k115 v7 x5 m2) else (if x5 < v6 then (bo_Model_sure_183 p1 p2 p3 k115 v7 x5 m2) else (bo_Model_sure_191 p1 p2 p3 k115 v5 v6 v7 m2)) else none) else none)) else (bo_Model_sure_197 p1 p2 p3 v5 v6 mem)
set_option maxHeartbeats 4000000 in
theorem rb_Model_sure_115 {E : EE} (p1 : Int) (p2 : Int) (p3 : Int)  (k115 : Int → Int → Int → Mm → Res) (H115 : ∀ (v5 : Int) (v6 : Int) (v7 : Int)  (mem : Mm), RO E mt_Model_sure (k115 v5 v6 v7 mem) 115 [(0, rf 203), (1, vi p1), (2, vi p2), (3, vi p3), (5, vi v5), (6, vi v6), (7, vi v7)] [] mem) (v5 : Int) (v6 : Int) (v7 : Int)  (mem : Mm) : RO E mt_Model_sure (bo_Model_sure_115 p1 p2 p3 k115 v5 v6 v7 mem) 115 [(0, rf 203), (1, vi p1), (2, vi p2), (3, vi p3), (5, vi v5), (6, vi v6), (7, vi v7)] [] mem := by
  unfold bo_Model_sure_115
  refine RO_iload dc_Model_sure_115 rfl ?_
  refine RO_aload_n dc_Model_sure_117 rfl rfl ?_
  refine RO_getR (b := 205) gf_Model_13 lk_203 rfl dc_Model_sure_118 ?_
  refine RO_iconst dc_Model_sure_121 ?_
  refine RO_ia lk_205 ⟨by decide, by decide⟩ dc_Model_sure_122 ?_
  refine RO_icmp_ge (tgt := 197) dc_Model_sure_123 rfl ?_ ?_
  · refine RO_aload_n dc_Model_sure_126 rfl rfl ?_
    refine RO_iload_n dc_Model_sure_127 rfl rfl ?_
    refine RO_iload_n dc_Model_sure_128 rfl rfl ?_
    refine RO_iload dc_Model_sure_129 rfl ?_
    refine RO_callVi (As := [vi p1, vi p2, vi v7]) (rest := []) mi_Model_firstMeetingAt mv_Model_firstMeetingAt ml_Model_529 lk_203 (Nat.le_of_ble_eq_true rfl) rfl (Nat.le_of_ble_eq_true rfl) (fun _ => rfl) dc_Model_sure_131 (fun rq mq hq => pf_Model_firstMeetingAt p1 p2 v7  mem hq) (fun r1 m2 => ?_)
    refine RO_istore dc_Model_sure_134 (Nat.le_of_ble_eq_true rfl) ?_
    refine RO_iload dc_Model_sure_136 rfl ?_
    refine RO_if_lt (tgt := 191) dc_Model_sure_138 rfl ?_ ?_
    · refine RO_sub ?_ (rb_Model_sure_191 p1 p2 p3 k115 H115 v5 v6 v7 m2)
      exact ⟨rfl, rfl, rfl, rfl, rfl, rfl, rfl, trivial⟩
    · refine RO_aload_n dc_Model_sure_141 rfl rfl ?_
      refine RO_getR (b := 258) gf_Model_174 lk_203 rfl dc_Model_sure_142 ?_
      refine RO_iload dc_Model_sure_145 rfl ?_
      refine RO_chk (fun hi3 => ?_)
      refine RO_ia lk_258 hi3 dc_Model_sure_147 ?_
      refine RO_if_ge (tgt := 154) dc_Model_sure_148 rfl ?_ ?_
      · refine RO_goto (tgt := 191) dc_Model_sure_151 rfl ?_
        refine RO_sub ?_ (rb_Model_sure_191 p1 p2 p3 k115 H115 v5 v6 v7 m2)
        exact ⟨rfl, rfl, rfl, rfl, rfl, rfl, rfl, trivial⟩
      · refine RO_iload dc_Model_sure_154 rfl ?_
        refine RO_aload_n dc_Model_sure_156 rfl rfl ?_
        refine RO_getR (b := 258) gf_Model_174 lk_203 rfl dc_Model_sure_157 ?_
        refine RO_iload dc_Model_sure_160 rfl ?_
        refine RO_chk (fun hi4 => ?_)
        refine RO_ia lk_258 hi4 dc_Model_sure_162 ?_
        refine RO_max mw_max ml_Model_513 (Nat.le_of_ble_eq_true rfl) (Nat.le_of_ble_eq_true rfl) dc_Model_sure_163 ?_
        refine RO_bnT (fun x5 => ?_)
        refine RO_istore dc_Model_sure_166 (Nat.le_of_ble_eq_true rfl) ?_
        refine RO_iload dc_Model_sure_168 rfl ?_
        refine RO_if_lt (tgt := 183) dc_Model_sure_170 rfl ?_ ?_
        · refine RO_sub ?_ (rb_Model_sure_183 p1 p2 p3 k115 H115 v7 x5 m2)
          exact ⟨rfl, rfl, rfl, rfl, rfl, rfl, trivial⟩
        · refine RO_iload dc_Model_sure_173 rfl ?_
          refine RO_iload dc_Model_sure_175 rfl ?_
          refine RO_icmp_lt (tgt := 183) dc_Model_sure_177 rfl ?_ ?_
          · refine RO_sub ?_ (rb_Model_sure_183 p1 p2 p3 k115 H115 v7 x5 m2)
            exact ⟨rfl, rfl, rfl, rfl, rfl, rfl, trivial⟩
          · refine RO_goto (tgt := 191) dc_Model_sure_180 rfl ?_
            refine RO_sub ?_ (rb_Model_sure_191 p1 p2 p3 k115 H115 v5 v6 v7 m2)
            exact ⟨rfl, rfl, rfl, rfl, rfl, rfl, rfl, trivial⟩
  · refine RO_sub ?_ (rb_Model_sure_197 p1 p2 p3 v5 v6 mem)
    exact ⟨rfl, rfl, rfl, trivial⟩
def lp_Model_sure_115 (p1 : Int) (p2 : Int) (p3 : Int)  : Nat → Int → Int → Int → Mm → Res
  | 0 => fun _ _ _ _ => none
  | n + 1 => bo_Model_sure_115 p1 p2 p3  (lp_Model_sure_115 p1 p2 p3  n)
theorem rp_Model_sure_115 {E : EE} (p1 : Int) (p2 : Int) (p3 : Int)    : ∀ (n : Nat) (v5 : Int) (v6 : Int) (v7 : Int)  (mem : Mm), RO E mt_Model_sure (lp_Model_sure_115 p1 p2 p3  n v5 v6 v7 mem) 115 [(0, rf 203), (1, vi p1), (2, vi p2), (3, vi p3), (5, vi v5), (6, vi v6), (7, vi v7)] [] mem := by
  intro n
  induction n with
  | zero => intro v5 v6 v7  mem; exact RO_none
  | succ n ih => intro v5 v6 v7  mem; exact rb_Model_sure_115 p1 p2 p3   (lp_Model_sure_115 p1 p2 p3  n)  ih v5 v6 v7  mem
def bo_Model_sure_87 (p1 : Int) (p2 : Int) (p3 : Int)  (v4 : Int) (mem : Mm) : Res := bn (mst mem 245 (3 : Int).toNat 1) fun m1 => bd (fn_Model_laysDay  m1) fun r2 m3 => bn (mst m3 245 (3 : Int).toNat v4) fun m4 => lp_Model_sure_115 p1 p2 p3 FU (-1) 0 0 m4
set_option maxHeartbeats 4000000 in
theorem rb_Model_sure_87 {E : EE} (p1 : Int) (p2 : Int) (p3 : Int)    (v4 : Int)  (mem : Mm) : RO E mt_Model_sure (bo_Model_sure_87 p1 p2 p3  v4 mem) 87 [(0, rf 203), (1, vi p1), (2, vi p2), (3, vi p3), (4, vi v4)] [] mem := by
  unfold bo_Model_sure_87
  refine RO_aload_n dc_Model_sure_87 rfl rfl ?_
  refine RO_getR (b := 245) gf_Model_135 lk_203 rfl dc_Model_sure_88 ?_
  refine RO_iconst dc_Model_sure_91 ?_
  refine RO_iconst dc_Model_sure_92 ?_
  refine RO_is lk_245 ⟨by decide, by decide⟩ dc_Model_sure_93 ?_
  refine RO_bnM (fun m1 => ?_)
  refine RO_aload_n dc_Model_sure_94 rfl rfl ?_
  refine RO_callVv (As := []) (rest := []) mi_Model_laysDay mv_Model_laysDay ml_Model_470 lk_203 (Nat.le_of_ble_eq_true rfl) rfl (Nat.le_of_ble_eq_true rfl) dc_Model_sure_95 (fun rq mq hq => pf_Model_laysDay   m1 hq) (fun r2 m3 => ?_)
  refine RO_aload_n dc_Model_sure_98 rfl rfl ?_
  refine RO_getR (b := 245) gf_Model_135 lk_203 rfl dc_Model_sure_99 ?_
  refine RO_iconst dc_Model_sure_102 ?_
  refine RO_iload dc_Model_sure_103 rfl ?_
  refine RO_is lk_245 ⟨by decide, by decide⟩ dc_Model_sure_105 ?_
  refine RO_bnM (fun m4 => ?_)
  refine RO_iconst dc_Model_sure_106 ?_
  refine RO_istore dc_Model_sure_107 (Nat.le_of_ble_eq_true rfl) ?_
  refine RO_iconst dc_Model_sure_109 ?_
  refine RO_istore dc_Model_sure_110 (Nat.le_of_ble_eq_true rfl) ?_
  refine RO_iconst dc_Model_sure_112 ?_
  refine RO_istore dc_Model_sure_113 (Nat.le_of_ble_eq_true rfl) ?_
  refine RO_sub ?_ (rp_Model_sure_115 p1 p2 p3 FU (-1) 0 0 m4)
  exact ⟨rfl, rfl, rfl, rfl, rfl, rfl, rfl, trivial⟩
def bo_Model_sure_59 (p1 : Int) (p2 : Int) (p3 : Int) (k59 : Int → Int → Mm → Res) (v4 : Int) (v5 : Int) (mem : Mm) : Res := if v5 < 6 then (bd (fn_Model_firstMeetingAt p1 p2 v5 mem) fun r1 m2 => if 0 ≤ v5 ∧ v5 < 6 then bn (mst m2 258 v5.toNat r1) fun m4 => k59 v4 (w32 (v5 + 1)) m4 else none) else (bo_Model_sure_87 p1 p2 p3 v4 mem)
set_option maxHeartbeats 4000000 in
theorem rb_Model_sure_59 {E : EE} (p1 : Int) (p2 : Int) (p3 : Int)  (k59 : Int → Int → Mm → Res) (H59 : ∀ (v4 : Int) (v5 : Int)  (mem : Mm), RO E mt_Model_sure (k59 v4 v5 mem) 59 [(0, rf 203), (1, vi p1), (2, vi p2), (3, vi p3), (4, vi v4), (5, vi v5)] [] mem) (v4 : Int) (v5 : Int)  (mem : Mm) : RO E mt_Model_sure (bo_Model_sure_59 p1 p2 p3 k59 v4 v5 mem) 59 [(0, rf 203), (1, vi p1), (2, vi p2), (3, vi p3), (4, vi v4), (5, vi v5)] [] mem := by
  unfold bo_Model_sure_59
  refine RO_iload dc_Model_sure_59 rfl ?_
  refine RO_bipush dc_Model_sure_61 ?_
  refine RO_icmp_ge (tgt := 87) dc_Model_sure_63 rfl ?_ ?_
  · refine RO_aload_n dc_Model_sure_66 rfl rfl ?_
    refine RO_getR (b := 258) gf_Model_174 lk_203 rfl dc_Model_sure_67 ?_
    refine RO_iload dc_Model_sure_70 rfl ?_
    refine RO_aload_n dc_Model_sure_72 rfl rfl ?_
    refine RO_iload_n dc_Model_sure_73 rfl rfl ?_
    refine RO_iload_n dc_Model_sure_74 rfl rfl ?_
    refine RO_iload dc_Model_sure_75 rfl ?_
    refine RO_callVi (As := [vi p1, vi p2, vi v5]) (rest := [vi v5, rf 258]) mi_Model_firstMeetingAt mv_Model_firstMeetingAt ml_Model_529 lk_203 (Nat.le_of_ble_eq_true rfl) rfl (Nat.le_of_ble_eq_true rfl) (fun _ => rfl) dc_Model_sure_77 (fun rq mq hq => pf_Model_firstMeetingAt p1 p2 v5  mem hq) (fun r1 m2 => ?_)
    refine RO_chk (fun hi3 => ?_)
    refine RO_is lk_258 hi3 dc_Model_sure_80 ?_
    refine RO_bnM (fun m4 => ?_)
    refine RO_iinc dc_Model_sure_81 rfl (Nat.le_of_ble_eq_true rfl) ?_
    refine RO_goto (tgt := 59) dc_Model_sure_84 rfl ?_
    refine RO_sub ?_ (H59 v4 (w32 (v5 + 1)) m4)
    exact ⟨rfl, rfl, rfl, rfl, rfl, rfl, trivial⟩
  · refine RO_sub ?_ (rb_Model_sure_87 p1 p2 p3 v4 mem)
    exact ⟨rfl, rfl, rfl, rfl, rfl, trivial⟩
def lp_Model_sure_59 (p1 : Int) (p2 : Int) (p3 : Int)  : Nat → Int → Int → Mm → Res
  | 0 => fun _ _ _ => none
  | n + 1 => bo_Model_sure_59 p1 p2 p3  (lp_Model_sure_59 p1 p2 p3  n)
theorem rp_Model_sure_59 {E : EE} (p1 : Int) (p2 : Int) (p3 : Int)    : ∀ (n : Nat) (v4 : Int) (v5 : Int)  (mem : Mm), RO E mt_Model_sure (lp_Model_sure_59 p1 p2 p3  n v4 v5 mem) 59 [(0, rf 203), (1, vi p1), (2, vi p2), (3, vi p3), (4, vi v4), (5, vi v5)] [] mem := by
  intro n
  induction n with
  | zero => intro v4 v5  mem; exact RO_none
  | succ n ih => intro v4 v5  mem; exact rb_Model_sure_59 p1 p2 p3   (lp_Model_sure_59 p1 p2 p3  n)  ih v4 v5  mem
def fn_Model_sure (p1 : Int) (p2 : Int) (p3 : Int) (mem : Mm) : Res := bn (mst mem 203 0 0) fun m1 => bd (fn_Model_isWalker p1 m1) fun r2 m3 => if r2 = 0 then (some ((-1), m3)) else (bd (fn_Model_isWalker p2 m3) fun r4 m5 => if r4 = 0 then (some ((-1), m5)) else (if p1 = p2 then (some ((-1), m5)) else (bd (fn_Model_within p3 0 1 m5) fun r6 m7 => if r6 = 0 then (some ((-1), m7)) else (bn (m7 245 (3 : Int).toNat) fun x8 => bn (mst m7 245 (3 : Int).toNat 0) fun m9 => bd (fn_Model_laysDay  m9) fun r10 m11 => lp_Model_sure_59 p1 p2 p3 FU x8 0 m11))))
set_option maxHeartbeats 4000000 in
theorem pf_Model_sure {E : EE} (p1 : Int) (p2 : Int) (p3 : Int)  (mem : Mm) {r : Int} {mem9 : Mm} (h : fn_Model_sure p1 p2 p3 mem = some (r, mem9)) : MetX E 5 yn_Model_sure cd_Model_sure 10 (some .int) [rf 203, vi p1, vi p2, vi p3] mem r mem9 := by
  refine RO_met (y := yn_Model_sure) (by decide +kernel) (Nat.le_of_ble_eq_true rfl) ?_ h
  show RO E mt_Model_sure (fn_Model_sure p1 p2 p3 mem) 0 [(0, rf 203), (1, vi p1), (2, vi p2), (3, vi p3)] [] mem
  unfold fn_Model_sure
  refine RO_aload_n dc_Model_sure_0 rfl rfl ?_
  refine RO_iconst dc_Model_sure_1 ?_
  refine RO_putI gp_Model_183 lk_203 dc_Model_sure_2 ?_
  refine RO_bnM (fun m1 => ?_)
  refine RO_aload_n dc_Model_sure_5 rfl rfl ?_
  refine RO_iload_n dc_Model_sure_6 rfl rfl ?_
  refine RO_callVi (As := [vi p1]) (rest := []) mi_Model_isWalker mv_Model_isWalker ml_Model_467 lk_203 (Nat.le_of_ble_eq_true rfl) rfl (Nat.le_of_ble_eq_true rfl) (fun _ => rfl) dc_Model_sure_7 (fun rq mq hq => pf_Model_isWalker p1  m1 hq) (fun r2 m3 => ?_)
  refine RO_if_eq (tgt := 35) dc_Model_sure_10 rfl ?_ ?_
  · refine RO_iconst dc_Model_sure_35 ?_
    exact RO_iret rfl dc_Model_sure_36
  · refine RO_aload_n dc_Model_sure_13 rfl rfl ?_
    refine RO_iload_n dc_Model_sure_14 rfl rfl ?_
    refine RO_callVi (As := [vi p2]) (rest := []) mi_Model_isWalker mv_Model_isWalker ml_Model_467 lk_203 (Nat.le_of_ble_eq_true rfl) rfl (Nat.le_of_ble_eq_true rfl) (fun _ => rfl) dc_Model_sure_15 (fun rq mq hq => pf_Model_isWalker p2  m3 hq) (fun r4 m5 => ?_)
    refine RO_if_eq (tgt := 35) dc_Model_sure_18 rfl ?_ ?_
    · refine RO_iconst dc_Model_sure_35 ?_
      exact RO_iret rfl dc_Model_sure_36
    · refine RO_iload_n dc_Model_sure_21 rfl rfl ?_
      refine RO_iload_n dc_Model_sure_22 rfl rfl ?_
      refine RO_icmp_eq (tgt := 35) dc_Model_sure_23 rfl ?_ ?_
      · refine RO_iconst dc_Model_sure_35 ?_
        exact RO_iret rfl dc_Model_sure_36
      · refine RO_iload_n dc_Model_sure_26 rfl rfl ?_
        refine RO_iconst dc_Model_sure_27 ?_
        refine RO_iconst dc_Model_sure_28 ?_
        refine RO_callSi (As := [vi p3, vi 0, vi 1]) (rest := []) mi_Model_within ms_Model_within ml_Model_318 (Nat.le_of_ble_eq_true rfl) rfl (Nat.le_of_ble_eq_true rfl) (fun _ => rfl) dc_Model_sure_29 (fun rq mq hq => pf_Model_within p3 0 1  m5 hq) (fun r6 m7 => ?_)
        refine RO_if_ne (tgt := 37) dc_Model_sure_32 rfl ?_ ?_
        · refine RO_iconst dc_Model_sure_35 ?_
          exact RO_iret rfl dc_Model_sure_36
        · refine RO_aload_n dc_Model_sure_37 rfl rfl ?_
          refine RO_getR (b := 245) gf_Model_135 lk_203 rfl dc_Model_sure_38 ?_
          refine RO_iconst dc_Model_sure_41 ?_
          refine RO_ia lk_245 ⟨by decide, by decide⟩ dc_Model_sure_42 ?_
          refine RO_bnT (fun x8 => ?_)
          refine RO_istore dc_Model_sure_43 (Nat.le_of_ble_eq_true rfl) ?_
          refine RO_aload_n dc_Model_sure_45 rfl rfl ?_
          refine RO_getR (b := 245) gf_Model_135 lk_203 rfl dc_Model_sure_46 ?_
          refine RO_iconst dc_Model_sure_49 ?_
          refine RO_iconst dc_Model_sure_50 ?_
          refine RO_is lk_245 ⟨by decide, by decide⟩ dc_Model_sure_51 ?_
          refine RO_bnM (fun m9 => ?_)
          refine RO_aload_n dc_Model_sure_52 rfl rfl ?_
          refine RO_callVv (As := []) (rest := []) mi_Model_laysDay mv_Model_laysDay ml_Model_470 lk_203 (Nat.le_of_ble_eq_true rfl) rfl (Nat.le_of_ble_eq_true rfl) dc_Model_sure_53 (fun rq mq hq => pf_Model_laysDay   m9 hq) (fun r10 m11 => ?_)
          refine RO_iconst dc_Model_sure_56 ?_
          refine RO_istore dc_Model_sure_57 (Nat.le_of_ble_eq_true rfl) ?_
          refine RO_sub ?_ (rp_Model_sure_59 p1 p2 p3 FU x8 0 m11)
          exact ⟨rfl, rfl, rfl, rfl, rfl, rfl, trivial⟩
def bo_Model_soonest_303 (p1 : Int) (p2 : Int) (p3 : Int) (k99 : Int → Int → Mm → Res) (v4 : Int) (v5 : Int) (mem : Mm) : Res := k99 v4 (w32 (v5 + 1)) mem
set_option maxHeartbeats 4000000 in
theorem rb_Model_soonest_303 {E : EE} (p1 : Int) (p2 : Int) (p3 : Int)  (k99 : Int → Int → Mm → Res) (H99 : ∀ (v4 : Int) (v5 : Int)  (mem : Mm), RO E mt_Model_soonest (k99 v4 v5 mem) 99 [(0, rf 203), (3, vi p3), (4, vi v4), (5, vi v5)] [] mem) (v4 : Int) (v5 : Int)  (mem : Mm) : RO E mt_Model_soonest (bo_Model_soonest_303 p1 p2 p3 k99 v4 v5 mem) 303 [(0, rf 203), (3, vi p3), (4, vi v4), (5, vi v5)] [] mem := by
  unfold bo_Model_soonest_303
  refine RO_iinc dc_Model_soonest_303 rfl (Nat.le_of_ble_eq_true rfl) ?_
  refine RO_goto (tgt := 99) dc_Model_soonest_306 rfl ?_
  refine RO_sub ?_ (H99 v4 (w32 (v5 + 1)) mem)
  exact ⟨rfl, rfl, rfl, rfl, trivial⟩
def bo_Model_soonest_297 (p1 : Int) (p2 : Int) (p3 : Int) (k99 : Int → Int → Mm → Res) (k110 : Int → Int → Int → Mm → Res) (v4 : Int) (v5 : Int) (v6 : Int) (mem : Mm) : Res := k110 v4 v5 (w32 (v6 + 1)) mem
set_option maxHeartbeats 4000000 in
theorem rb_Model_soonest_297 {E : EE} (p1 : Int) (p2 : Int) (p3 : Int)  (k99 : Int → Int → Mm → Res) (k110 : Int → Int → Int → Mm → Res) (H99 : ∀ (v4 : Int) (v5 : Int)  (mem : Mm), RO E mt_Model_soonest (k99 v4 v5 mem) 99 [(0, rf 203), (3, vi p3), (4, vi v4), (5, vi v5)] [] mem) (H110 : ∀ (v4 : Int) (v5 : Int) (v6 : Int)  (mem : Mm), RO E mt_Model_soonest (k110 v4 v5 v6 mem) 110 [(0, rf 203), (3, vi p3), (4, vi v4), (5, vi v5), (6, vi v6)] [] mem) (v4 : Int) (v5 : Int) (v6 : Int)  (mem : Mm) : RO E mt_Model_soonest (bo_Model_soonest_297 p1 p2 p3 k99 k110 v4 v5 v6 mem) 297 [(0, rf 203), (3, vi p3), (4, vi v4), (5, vi v5), (6, vi v6)] [] mem := by
  unfold bo_Model_soonest_297
  refine RO_iinc dc_Model_soonest_297 rfl (Nat.le_of_ble_eq_true rfl) ?_
  refine RO_goto (tgt := 110) dc_Model_soonest_300 rfl ?_
  refine RO_sub ?_ (H110 v4 v5 (w32 (v6 + 1)) mem)
  exact ⟨rfl, rfl, rfl, rfl, rfl, trivial⟩
def bo_Model_soonest_291 (p1 : Int) (p2 : Int) (p3 : Int) (k99 : Int → Int → Mm → Res) (k110 : Int → Int → Int → Mm → Res) (k217 : Int → Int → Int → Int → Int → Mm → Res) (v4 : Int) (v5 : Int) (v6 : Int) (v7 : Int) (v9 : Int) (mem : Mm) : Res := k217 v4 v5 v6 v7 (w32 (v9 + 1)) mem
set_option maxHeartbeats 4000000 in
theorem rb_Model_soonest_291 {E : EE} (p1 : Int) (p2 : Int) (p3 : Int)  (k99 : Int → Int → Mm → Res) (k110 : Int → Int → Int → Mm → Res) (k217 : Int → Int → Int → Int → Int → Mm → Res) (H99 : ∀ (v4 : Int) (v5 : Int)  (mem : Mm), RO E mt_Model_soonest (k99 v4 v5 mem) 99 [(0, rf 203), (3, vi p3), (4, vi v4), (5, vi v5)] [] mem) (H110 : ∀ (v4 : Int) (v5 : Int) (v6 : Int)  (mem : Mm), RO E mt_Model_soonest (k110 v4 v5 v6 mem) 110 [(0, rf 203), (3, vi p3), (4, vi v4), (5, vi v5), (6, vi v6)] [] mem) (H217 : ∀ (v4 : Int) (v5 : Int) (v6 : Int) (v7 : Int) (v9 : Int)  (mem : Mm), RO E mt_Model_soonest (k217 v4 v5 v6 v7 v9 mem) 217 [(0, rf 203), (3, vi p3), (4, vi v4), (5, vi v5), (6, vi v6), (7, vl v7), (9, vi v9)] [] mem) (v4 : Int) (v5 : Int) (v6 : Int) (v7 : Int) (v9 : Int)  (mem : Mm) : RO E mt_Model_soonest (bo_Model_soonest_291 p1 p2 p3 k99 k110 k217 v4 v5 v6 v7 v9 mem) 291 [(0, rf 203), (3, vi p3), (4, vi v4), (5, vi v5), (6, vi v6), (7, vl v7), (9, vi v9)] [] mem := by
  unfold bo_Model_soonest_291
  refine RO_iinc dc_Model_soonest_291 rfl (Nat.le_of_ble_eq_true rfl) ?_
  refine RO_goto (tgt := 217) dc_Model_soonest_294 rfl ?_
  refine RO_sub ?_ (H217 v4 v5 v6 v7 (w32 (v9 + 1)) mem)
  exact ⟨rfl, rfl, rfl, rfl, rfl, rfl, rfl, trivial⟩
def bo_Model_soonest_217 (p1 : Int) (p2 : Int) (p3 : Int) (k99 : Int → Int → Mm → Res) (k110 : Int → Int → Int → Mm → Res) (k217 : Int → Int → Int → Int → Int → Mm → Res) (v4 : Int) (v5 : Int) (v6 : Int) (v7 : Int) (v9 : Int) (mem : Mm) : Res := if v9 < (mem 205 (0 : Int).toNat) then (if 0 ≤ w32 ((w32 (6 * v6)) + v9) ∧ w32 ((w32 (6 * v6)) + v9) < 72 then bn (w32 (v5 + (w32 ((mem 209 (w32 ((w32 (6 * v6)) + v9)).toNat) * v4)))) fun x2 => if 0 ≤ w32 ((w32 (6 * v6)) + v9) ∧ w32 ((w32 (6 * v6)) + v9) < 72 then if 0 < (mem 209 (w32 ((w32 (6 * v6)) + v9)).toNat) then (if x2 < 240 then (bn (w32 ((w32 (6 * x2)) + v9)) fun x4 => if 0 ≤ x4 ∧ x4 < 1440 then if 0 ≤ x4 ∧ x4 < 1440 then bn (mst mem 259 x4.toNat (lor (mem 259 x4.toNat) v7)) fun m7 => bo_Model_soonest_291 p1 p2 p3 k99 k110 k217 v4 v5 v6 v7 v9 m7 else none else none) else (bo_Model_soonest_291 p1 p2 p3 k99 k110 k217 v4 v5 v6 v7 v9 mem)) else (bo_Model_soonest_291 p1 p2 p3 k99 k110 k217 v4 v5 v6 v7 v9 mem) else none else none) else (bo_Model_soonest_297 p1 p2 p3 k99 k110 v4 v5 v6 mem)
set_option maxHeartbeats 4000000 in
theorem rb_Model_soonest_217 {E : EE} (p1 : Int) (p2 : Int) (p3 : Int)  (k99 : Int → Int → Mm → Res) (k110 : Int → Int → Int → Mm → Res) (k217 : Int → Int → Int → Int → Int → Mm → Res) (H99 : ∀ (v4 : Int) (v5 : Int)  (mem : Mm), RO E mt_Model_soonest (k99 v4 v5 mem) 99 [(0, rf 203), (3, vi p3), (4, vi v4), (5, vi v5)] [] mem) (H110 : ∀ (v4 : Int) (v5 : Int) (v6 : Int)  (mem : Mm), RO E mt_Model_soonest (k110 v4 v5 v6 mem) 110 [(0, rf 203), (3, vi p3), (4, vi v4), (5, vi v5), (6, vi v6)] [] mem) (H217 : ∀ (v4 : Int) (v5 : Int) (v6 : Int) (v7 : Int) (v9 : Int)  (mem : Mm), RO E mt_Model_soonest (k217 v4 v5 v6 v7 v9 mem) 217 [(0, rf 203), (3, vi p3), (4, vi v4), (5, vi v5), (6, vi v6), (7, vl v7), (9, vi v9)] [] mem) (v4 : Int) (v5 : Int) (v6 : Int) (v7 : Int) (v9 : Int)  (mem : Mm) : RO E mt_Model_soonest (bo_Model_soonest_217 p1 p2 p3 k99 k110 k217 v4 v5 v6 v7 v9 mem) 217 [(0, rf 203), (3, vi p3), (4, vi v4), (5, vi v5), (6, vi v6), (7, vl v7), (9, vi v9)] [] mem := by
  unfold bo_Model_soonest_217
  refine RO_iload dc_Model_soonest_217 rfl ?_
  refine RO_aload_n dc_Model_soonest_219 rfl rfl ?_
  refine RO_getR (b := 205) gf_Model_13 lk_203 rfl dc_Model_soonest_220 ?_
  refine RO_iconst dc_Model_soonest_223 ?_
  refine RO_ia lk_205 ⟨by decide, by decide⟩ dc_Model_soonest_224 ?_
  refine RO_icmp_ge (tgt := 297) dc_Model_soonest_225 rfl ?_ ?_
  · refine RO_iload dc_Model_soonest_228 rfl ?_
    refine RO_aload_n dc_Model_soonest_230 rfl rfl ?_
    refine RO_getR (b := 209) gf_Model_26 lk_203 rfl dc_Model_soonest_231 ?_
    refine RO_bipush dc_Model_soonest_234 ?_
    refine RO_iload dc_Model_soonest_236 rfl ?_
    refine RO_imul dc_Model_soonest_238 ?_
    refine RO_iload dc_Model_soonest_239 rfl ?_
    refine RO_iadd dc_Model_soonest_241 ?_
    refine RO_chk (fun hi1 => ?_)
    refine RO_ia lk_209 hi1 dc_Model_soonest_242 ?_
    refine RO_iload dc_Model_soonest_243 rfl ?_
    refine RO_imul dc_Model_soonest_245 ?_
    refine RO_iadd dc_Model_soonest_246 ?_
    refine RO_bnT (fun x2 => ?_)
    refine RO_istore dc_Model_soonest_247 (Nat.le_of_ble_eq_true rfl) ?_
    refine RO_aload_n dc_Model_soonest_249 rfl rfl ?_
    refine RO_getR (b := 209) gf_Model_26 lk_203 rfl dc_Model_soonest_250 ?_
    refine RO_bipush dc_Model_soonest_253 ?_
    refine RO_iload dc_Model_soonest_255 rfl ?_
    refine RO_imul dc_Model_soonest_257 ?_
    refine RO_iload dc_Model_soonest_258 rfl ?_
    refine RO_iadd dc_Model_soonest_260 ?_
    refine RO_chk (fun hi3 => ?_)
    refine RO_ia lk_209 hi3 dc_Model_soonest_261 ?_
    refine RO_if_le (tgt := 291) dc_Model_soonest_262 rfl ?_ ?_
    · refine RO_iload dc_Model_soonest_265 rfl ?_
      refine RO_sipush dc_Model_soonest_267 ?_
      refine RO_icmp_ge (tgt := 291) dc_Model_soonest_270 rfl ?_ ?_
      · refine RO_aload_n dc_Model_soonest_273 rfl rfl ?_
        refine RO_getR (b := 259) gf_Model_177 lk_203 rfl dc_Model_soonest_274 ?_
        refine RO_bipush dc_Model_soonest_277 ?_
        refine RO_iload dc_Model_soonest_279 rfl ?_
        refine RO_imul dc_Model_soonest_281 ?_
        refine RO_iload dc_Model_soonest_282 rfl ?_
        refine RO_iadd dc_Model_soonest_284 ?_
        refine RO_bnT (fun x4 => ?_)
        refine RO_dup2 dc_Model_soonest_285 (nt0 _) (nt2 _) ?_
        refine RO_chk (fun hi5 => ?_)
        refine RO_la lk_259 hi5 dc_Model_soonest_286 ?_
        refine RO_lload dc_Model_soonest_287 rfl ?_
        refine RO_lor dc_Model_soonest_289 ?_
        refine RO_chk (fun hi6 => ?_)
        refine RO_lst lk_259 hi6 dc_Model_soonest_290 ?_
        refine RO_bnM (fun m7 => ?_)
        refine RO_sub ?_ (rb_Model_soonest_291 p1 p2 p3 k99 k110 k217 H99 H110 H217 v4 v5 v6 v7 v9 m7)
        exact ⟨rfl, rfl, rfl, rfl, rfl, rfl, rfl, trivial⟩
      · refine RO_sub ?_ (rb_Model_soonest_291 p1 p2 p3 k99 k110 k217 H99 H110 H217 v4 v5 v6 v7 v9 mem)
        exact ⟨rfl, rfl, rfl, rfl, rfl, rfl, rfl, trivial⟩
    · refine RO_sub ?_ (rb_Model_soonest_291 p1 p2 p3 k99 k110 k217 H99 H110 H217 v4 v5 v6 v7 v9 mem)
      exact ⟨rfl, rfl, rfl, rfl, rfl, rfl, rfl, trivial⟩
  · refine RO_sub ?_ (rb_Model_soonest_297 p1 p2 p3 k99 k110 H99 H110 v4 v5 v6 mem)
    exact ⟨rfl, rfl, rfl, rfl, rfl, trivial⟩
def lp_Model_soonest_217 (p1 : Int) (p2 : Int) (p3 : Int) (k99 : Int → Int → Mm → Res) (k110 : Int → Int → Int → Mm → Res) : Nat → Int → Int → Int → Int → Int → Mm → Res
  | 0 => fun _ _ _ _ _ _ => none
  | n + 1 => bo_Model_soonest_217 p1 p2 p3 k99 k110 (lp_Model_soonest_217 p1 p2 p3 k99 k110 n)
theorem rp_Model_soonest_217 {E : EE} (p1 : Int) (p2 : Int) (p3 : Int)  (k99 : Int → Int → Mm → Res) (k110 : Int → Int → Int → Mm → Res) (H99 : ∀ (v4 : Int) (v5 : Int)  (mem : Mm), RO E mt_Model_soonest (k99 v4 v5 mem) 99 [(0, rf 203), (3, vi p3), (4, vi v4), (5, vi v5)] [] mem) (H110 : ∀ (v4 : Int) (v5 : Int) (v6 : Int)  (mem : Mm), RO E mt_Model_soonest (k110 v4 v5 v6 mem) 110 [(0, rf 203), (3, vi p3), (4, vi v4), (5, vi v5), (6, vi v6)] [] mem) : ∀ (n : Nat) (v4 : Int) (v5 : Int) (v6 : Int) (v7 : Int) (v9 : Int)  (mem : Mm), RO E mt_Model_soonest (lp_Model_soonest_217 p1 p2 p3 k99 k110 n v4 v5 v6 v7 v9 mem) 217 [(0, rf 203), (3, vi p3), (4, vi v4), (5, vi v5), (6, vi v6), (7, vl v7), (9, vi v9)] [] mem := by
  intro n
  induction n with
  | zero => intro v4 v5 v6 v7 v9  mem; exact RO_none
  | succ n ih => intro v4 v5 v6 v7 v9  mem; exact rb_Model_soonest_217 p1 p2 p3  k99 k110 (lp_Model_soonest_217 p1 p2 p3 k99 k110 n) H99 H110 ih v4 v5 v6 v7 v9  mem
def bo_Model_soonest_214 (p1 : Int) (p2 : Int) (p3 : Int) (k99 : Int → Int → Mm → Res) (k110 : Int → Int → Int → Mm → Res) (v4 : Int) (v5 : Int) (v6 : Int) (v7 : Int) (mem : Mm) : Res := lp_Model_soonest_217 p1 p2 p3 k99 k110 FU v4 v5 v6 v7 0 mem
set_option maxHeartbeats 4000000 in
theorem rb_Model_soonest_214 {E : EE} (p1 : Int) (p2 : Int) (p3 : Int)  (k99 : Int → Int → Mm → Res) (k110 : Int → Int → Int → Mm → Res) (H99 : ∀ (v4 : Int) (v5 : Int)  (mem : Mm), RO E mt_Model_soonest (k99 v4 v5 mem) 99 [(0, rf 203), (3, vi p3), (4, vi v4), (5, vi v5)] [] mem) (H110 : ∀ (v4 : Int) (v5 : Int) (v6 : Int)  (mem : Mm), RO E mt_Model_soonest (k110 v4 v5 v6 mem) 110 [(0, rf 203), (3, vi p3), (4, vi v4), (5, vi v5), (6, vi v6)] [] mem) (v4 : Int) (v5 : Int) (v6 : Int) (v7 : Int)  (mem : Mm) : RO E mt_Model_soonest (bo_Model_soonest_214 p1 p2 p3 k99 k110 v4 v5 v6 v7 mem) 214 [(0, rf 203), (3, vi p3), (4, vi v4), (5, vi v5), (6, vi v6), (7, vl v7)] [] mem := by
  unfold bo_Model_soonest_214
  refine RO_iconst dc_Model_soonest_214 ?_
  refine RO_istore dc_Model_soonest_215 (Nat.le_of_ble_eq_true rfl) ?_
  refine RO_sub ?_ (rp_Model_soonest_217 p1 p2 p3 k99 k110 H99 H110 FU v4 v5 v6 v7 0 mem)
  exact ⟨rfl, rfl, rfl, rfl, rfl, rfl, rfl, trivial⟩
def bo_Model_soonest_110 (p1 : Int) (p2 : Int) (p3 : Int) (k99 : Int → Int → Mm → Res) (k110 : Int → Int → Int → Mm → Res) (v4 : Int) (v5 : Int) (v6 : Int) (mem : Mm) : Res := if v6 < (mem 205 (0 : Int).toNat) then (if 0 ≤ w32 ((w32 (6 * v5)) + v6) ∧ w32 ((w32 (6 * v5)) + v6) < 1440 then if (lcm (mem 259 (w32 ((w32 (6 * v5)) + v6)).toNat) 0) = 0 then (bo_Model_soonest_297 p1 p2 p3 k99 k110 v4 v5 v6 mem) else (if 0 ≤ w32 ((w32 (6 * v5)) + v6) ∧ w32 ((w32 (6 * v5)) + v6) < 1440 then bd (fn_Model_thereAt v6 v5 mem) fun r3 m4 => bd (fn_Model_grown (mem 259 (w32 ((w32 (6 * v5)) + v6)).toNat) (iand r3 p3) m4) fun r5 m6 => if (lcm (land (lshr r5 p3) 1) 1) = 0 then (some (v5, m6)) else (if (w32 (v5 + 1)) < 240 then (bn (w32 ((w32 (6 * (w32 (v5 + 1)))) + v6)) fun x7 => if 0 ≤ x7 ∧ x7 < 1440 then if 0 ≤ x7 ∧ x7 < 1440 then bn (mst m6 259 x7.toNat (lor (m6 259 x7.toNat) r5)) fun m10 => bo_Model_soonest_214 p1 p2 p3 k99 k110 v4 v5 v6 r5 m10 else none else none) else (bo_Model_soonest_214 p1 p2 p3 k99 k110 v4 v5 v6 r5 m6)) else none) else none) else (bo_Model_soonest_303 p1 p2 p3 k99 v4 v5 mem)
set_option maxHeartbeats 4000000 in
theorem rb_Model_soonest_110 {E : EE} (p1 : Int) (p2 : Int) (p3 : Int)  (k99 : Int → Int → Mm → Res) (k110 : Int → Int → Int → Mm → Res) (H99 : ∀ (v4 : Int) (v5 : Int)  (mem : Mm), RO E mt_Model_soonest (k99 v4 v5 mem) 99 [(0, rf 203), (3, vi p3), (4, vi v4), (5, vi v5)] [] mem) (H110 : ∀ (v4 : Int) (v5 : Int) (v6 : Int)  (mem : Mm), RO E mt_Model_soonest (k110 v4 v5 v6 mem) 110 [(0, rf 203), (3, vi p3), (4, vi v4), (5, vi v5), (6, vi v6)] [] mem) (v4 : Int) (v5 : Int) (v6 : Int)  (mem : Mm) : RO E mt_Model_soonest (bo_Model_soonest_110 p1 p2 p3 k99 k110 v4 v5 v6 mem) 110 [(0, rf 203), (3, vi p3), (4, vi v4), (5, vi v5), (6, vi v6)] [] mem := by
  unfold bo_Model_soonest_110
  refine RO_iload dc_Model_soonest_110 rfl ?_
  refine RO_aload_n dc_Model_soonest_112 rfl rfl ?_
  refine RO_getR (b := 205) gf_Model_13 lk_203 rfl dc_Model_soonest_113 ?_
  refine RO_iconst dc_Model_soonest_116 ?_
  refine RO_ia lk_205 ⟨by decide, by decide⟩ dc_Model_soonest_117 ?_
  refine RO_icmp_ge (tgt := 303) dc_Model_soonest_118 rfl ?_ ?_
  · refine RO_aload_n dc_Model_soonest_121 rfl rfl ?_
    refine RO_getR (b := 259) gf_Model_177 lk_203 rfl dc_Model_soonest_122 ?_
    refine RO_bipush dc_Model_soonest_125 ?_
    refine RO_iload dc_Model_soonest_127 rfl ?_
    refine RO_imul dc_Model_soonest_129 ?_
    refine RO_iload dc_Model_soonest_130 rfl ?_
    refine RO_iadd dc_Model_soonest_132 ?_
    refine RO_chk (fun hi1 => ?_)
    refine RO_la lk_259 hi1 dc_Model_soonest_133 ?_
    refine RO_lconst (x := 0) dc_Model_soonest_134 ⟨by decide, ⟨by decide, by decide⟩⟩ ?_
    refine RO_lcmp dc_Model_soonest_135 ?_
    refine RO_if_ne (tgt := 142) dc_Model_soonest_136 rfl ?_ ?_
    · refine RO_goto (tgt := 297) dc_Model_soonest_139 rfl ?_
      refine RO_sub ?_ (rb_Model_soonest_297 p1 p2 p3 k99 k110 H99 H110 v4 v5 v6 mem)
      exact ⟨rfl, rfl, rfl, rfl, rfl, trivial⟩
    · refine RO_aload_n dc_Model_soonest_142 rfl rfl ?_
      refine RO_getR (b := 259) gf_Model_177 lk_203 rfl dc_Model_soonest_143 ?_
      refine RO_bipush dc_Model_soonest_146 ?_
      refine RO_iload dc_Model_soonest_148 rfl ?_
      refine RO_imul dc_Model_soonest_150 ?_
      refine RO_iload dc_Model_soonest_151 rfl ?_
      refine RO_iadd dc_Model_soonest_153 ?_
      refine RO_chk (fun hi2 => ?_)
      refine RO_la lk_259 hi2 dc_Model_soonest_154 ?_
      refine RO_aload_n dc_Model_soonest_155 rfl rfl ?_
      refine RO_iload dc_Model_soonest_156 rfl ?_
      refine RO_iload dc_Model_soonest_158 rfl ?_
      refine RO_callVi (As := [vi v6, vi v5]) (rest := [vl (mem 259 (w32 ((w32 (6 * v5)) + v6)).toNat)]) mi_Model_thereAt mv_Model_thereAt ml_Model_510 lk_203 (Nat.le_of_ble_eq_true rfl) rfl (Nat.le_of_ble_eq_true rfl) (fun _ => rfl) dc_Model_soonest_160 (fun rq mq hq => pf_Model_thereAt v6 v5  mem hq) (fun r3 m4 => ?_)
      refine RO_iload_n dc_Model_soonest_163 rfl rfl ?_
      refine RO_iand dc_Model_soonest_164 ?_
      refine RO_callSl (As := [vl (mem 259 (w32 ((w32 (6 * v5)) + v6)).toNat), vi (iand r3 p3)]) (rest := []) mi_Model_grown ms_Model_grown ml_Model_532 (Nat.le_of_ble_eq_true rfl) rfl (Nat.le_of_ble_eq_true rfl) dc_Model_soonest_165 (fun rq mq hq => pf_Model_grown (mem 259 (w32 ((w32 (6 * v5)) + v6)).toNat) (iand r3 p3)  m4 hq) (fun r5 m6 => ?_)
      refine RO_lstore dc_Model_soonest_168 (Nat.le_of_ble_eq_true rfl) ?_
      refine RO_lload dc_Model_soonest_170 rfl ?_
      refine RO_iload_n dc_Model_soonest_172 rfl rfl ?_
      refine RO_lshr dc_Model_soonest_173 ?_
      refine RO_lconst (x := 1) dc_Model_soonest_174 ⟨by decide, ⟨by decide, by decide⟩⟩ ?_
      refine RO_land dc_Model_soonest_175 ?_
      refine RO_lconst (x := 1) dc_Model_soonest_176 ⟨by decide, ⟨by decide, by decide⟩⟩ ?_
      refine RO_lcmp dc_Model_soonest_177 ?_
      refine RO_if_ne (tgt := 184) dc_Model_soonest_178 rfl ?_ ?_
      · refine RO_iload dc_Model_soonest_181 rfl ?_
        exact RO_iret rfl dc_Model_soonest_183
      · refine RO_iload dc_Model_soonest_184 rfl ?_
        refine RO_iconst dc_Model_soonest_186 ?_
        refine RO_iadd dc_Model_soonest_187 ?_
        refine RO_sipush dc_Model_soonest_188 ?_
        refine RO_icmp_ge (tgt := 214) dc_Model_soonest_191 rfl ?_ ?_
        · refine RO_aload_n dc_Model_soonest_194 rfl rfl ?_
          refine RO_getR (b := 259) gf_Model_177 lk_203 rfl dc_Model_soonest_195 ?_
          refine RO_bipush dc_Model_soonest_198 ?_
          refine RO_iload dc_Model_soonest_200 rfl ?_
          refine RO_iconst dc_Model_soonest_202 ?_
          refine RO_iadd dc_Model_soonest_203 ?_
          refine RO_imul dc_Model_soonest_204 ?_
          refine RO_iload dc_Model_soonest_205 rfl ?_
          refine RO_iadd dc_Model_soonest_207 ?_
          refine RO_bnT (fun x7 => ?_)
          refine RO_dup2 dc_Model_soonest_208 (nt0 _) (nt2 _) ?_
          refine RO_chk (fun hi8 => ?_)
          refine RO_la lk_259 hi8 dc_Model_soonest_209 ?_
          refine RO_lload dc_Model_soonest_210 rfl ?_
          refine RO_lor dc_Model_soonest_212 ?_
          refine RO_chk (fun hi9 => ?_)
          refine RO_lst lk_259 hi9 dc_Model_soonest_213 ?_
          refine RO_bnM (fun m10 => ?_)
          refine RO_sub ?_ (rb_Model_soonest_214 p1 p2 p3 k99 k110 H99 H110 v4 v5 v6 r5 m10)
          exact ⟨rfl, rfl, rfl, rfl, rfl, rfl, trivial⟩
        · refine RO_sub ?_ (rb_Model_soonest_214 p1 p2 p3 k99 k110 H99 H110 v4 v5 v6 r5 m6)
          exact ⟨rfl, rfl, rfl, rfl, rfl, rfl, trivial⟩
  · refine RO_sub ?_ (rb_Model_soonest_303 p1 p2 p3 k99 H99 v4 v5 mem)
    exact ⟨rfl, rfl, rfl, rfl, trivial⟩
def lp_Model_soonest_110 (p1 : Int) (p2 : Int) (p3 : Int) (k99 : Int → Int → Mm → Res) : Nat → Int → Int → Int → Mm → Res
  | 0 => fun _ _ _ _ => none
  | n + 1 => bo_Model_soonest_110 p1 p2 p3 k99 (lp_Model_soonest_110 p1 p2 p3 k99 n)
theorem rp_Model_soonest_110 {E : EE} (p1 : Int) (p2 : Int) (p3 : Int)  (k99 : Int → Int → Mm → Res) (H99 : ∀ (v4 : Int) (v5 : Int)  (mem : Mm), RO E mt_Model_soonest (k99 v4 v5 mem) 99 [(0, rf 203), (3, vi p3), (4, vi v4), (5, vi v5)] [] mem) : ∀ (n : Nat) (v4 : Int) (v5 : Int) (v6 : Int)  (mem : Mm), RO E mt_Model_soonest (lp_Model_soonest_110 p1 p2 p3 k99 n v4 v5 v6 mem) 110 [(0, rf 203), (3, vi p3), (4, vi v4), (5, vi v5), (6, vi v6)] [] mem := by
  intro n
  induction n with
  | zero => intro v4 v5 v6  mem; exact RO_none
  | succ n ih => intro v4 v5 v6  mem; exact rb_Model_soonest_110 p1 p2 p3  k99 (lp_Model_soonest_110 p1 p2 p3 k99 n) H99 ih v4 v5 v6  mem
def bo_Model_soonest_99 (p1 : Int) (p2 : Int) (p3 : Int) (k99 : Int → Int → Mm → Res) (v4 : Int) (v5 : Int) (mem : Mm) : Res := if v5 < 240 then (lp_Model_soonest_110 p1 p2 p3 k99 FU v4 v5 0 mem) else (some ((-1), mem))
set_option maxHeartbeats 4000000 in
theorem rb_Model_soonest_99 {E : EE} (p1 : Int) (p2 : Int) (p3 : Int)  (k99 : Int → Int → Mm → Res) (H99 : ∀ (v4 : Int) (v5 : Int)  (mem : Mm), RO E mt_Model_soonest (k99 v4 v5 mem) 99 [(0, rf 203), (3, vi p3), (4, vi v4), (5, vi v5)] [] mem) (v4 : Int) (v5 : Int)  (mem : Mm) : RO E mt_Model_soonest (bo_Model_soonest_99 p1 p2 p3 k99 v4 v5 mem) 99 [(0, rf 203), (3, vi p3), (4, vi v4), (5, vi v5)] [] mem := by
  unfold bo_Model_soonest_99
  refine RO_iload dc_Model_soonest_99 rfl ?_
  refine RO_sipush dc_Model_soonest_101 ?_
  refine RO_icmp_ge (tgt := 309) dc_Model_soonest_104 rfl ?_ ?_
  · refine RO_iconst dc_Model_soonest_107 ?_
    refine RO_istore dc_Model_soonest_108 (Nat.le_of_ble_eq_true rfl) ?_
    refine RO_sub ?_ (rp_Model_soonest_110 p1 p2 p3 k99 H99 FU v4 v5 0 mem)
    exact ⟨rfl, rfl, rfl, rfl, rfl, trivial⟩
  · refine RO_iconst dc_Model_soonest_309 ?_
    exact RO_iret rfl dc_Model_soonest_310
def lp_Model_soonest_99 (p1 : Int) (p2 : Int) (p3 : Int)  : Nat → Int → Int → Mm → Res
  | 0 => fun _ _ _ => none
  | n + 1 => bo_Model_soonest_99 p1 p2 p3  (lp_Model_soonest_99 p1 p2 p3  n)
theorem rp_Model_soonest_99 {E : EE} (p1 : Int) (p2 : Int) (p3 : Int)    : ∀ (n : Nat) (v4 : Int) (v5 : Int)  (mem : Mm), RO E mt_Model_soonest (lp_Model_soonest_99 p1 p2 p3  n v4 v5 mem) 99 [(0, rf 203), (3, vi p3), (4, vi v4), (5, vi v5)] [] mem := by
  intro n
  induction n with
  | zero => intro v4 v5  mem; exact RO_none
  | succ n ih => intro v4 v5  mem; exact rb_Model_soonest_99 p1 p2 p3   (lp_Model_soonest_99 p1 p2 p3  n)  ih v4 v5  mem
def bo_Model_soonest_84 (p1 : Int) (p2 : Int) (p3 : Int)  (v4 : Int) (mem : Mm) : Res := if 0 ≤ w32 ((w32 (6 * p2)) + p1) ∧ w32 ((w32 (6 * p2)) + p1) < 1440 then bn (mst mem 259 (w32 ((w32 (6 * p2)) + p1)).toNat 1) fun m2 => lp_Model_soonest_99 p1 p2 p3 FU v4 p2 m2 else none
set_option maxHeartbeats 4000000 in
theorem rb_Model_soonest_84 {E : EE} (p1 : Int) (p2 : Int) (p3 : Int)    (v4 : Int)  (mem : Mm) : RO E mt_Model_soonest (bo_Model_soonest_84 p1 p2 p3  v4 mem) 84 [(0, rf 203), (1, vi p1), (2, vi p2), (3, vi p3), (4, vi v4)] [] mem := by
  unfold bo_Model_soonest_84
  refine RO_aload_n dc_Model_soonest_84 rfl rfl ?_
  refine RO_getR (b := 259) gf_Model_177 lk_203 rfl dc_Model_soonest_85 ?_
  refine RO_bipush dc_Model_soonest_88 ?_
  refine RO_iload_n dc_Model_soonest_90 rfl rfl ?_
  refine RO_imul dc_Model_soonest_91 ?_
  refine RO_iload_n dc_Model_soonest_92 rfl rfl ?_
  refine RO_iadd dc_Model_soonest_93 ?_
  refine RO_lconst (x := 1) dc_Model_soonest_94 ⟨by decide, ⟨by decide, by decide⟩⟩ ?_
  refine RO_chk (fun hi1 => ?_)
  refine RO_lst lk_259 hi1 dc_Model_soonest_95 ?_
  refine RO_bnM (fun m2 => ?_)
  refine RO_iload_n dc_Model_soonest_96 rfl rfl ?_
  refine RO_istore dc_Model_soonest_97 (Nat.le_of_ble_eq_true rfl) ?_
  refine RO_sub ?_ (rp_Model_soonest_99 p1 p2 p3 FU v4 p2 m2)
  exact ⟨rfl, rfl, rfl, rfl, trivial⟩
def bo_Model_soonest_62 (p1 : Int) (p2 : Int) (p3 : Int) (k62 : Int → Int → Mm → Res) (v4 : Int) (v5 : Int) (mem : Mm) : Res := if v5 < 1440 then (if 0 ≤ v5 ∧ v5 < 1440 then bn (mst mem 259 v5.toNat 0) fun m2 => k62 v4 (w32 (v5 + 1)) m2 else none) else (bo_Model_soonest_84 p1 p2 p3 v4 mem)
set_option maxHeartbeats 4000000 in
theorem rb_Model_soonest_62 {E : EE} (p1 : Int) (p2 : Int) (p3 : Int)  (k62 : Int → Int → Mm → Res) (H62 : ∀ (v4 : Int) (v5 : Int)  (mem : Mm), RO E mt_Model_soonest (k62 v4 v5 mem) 62 [(0, rf 203), (1, vi p1), (2, vi p2), (3, vi p3), (4, vi v4), (5, vi v5)] [] mem) (v4 : Int) (v5 : Int)  (mem : Mm) : RO E mt_Model_soonest (bo_Model_soonest_62 p1 p2 p3 k62 v4 v5 mem) 62 [(0, rf 203), (1, vi p1), (2, vi p2), (3, vi p3), (4, vi v4), (5, vi v5)] [] mem := by
  unfold bo_Model_soonest_62
  refine RO_iload dc_Model_soonest_62 rfl ?_
  refine RO_sipush dc_Model_soonest_64 ?_
  refine RO_icmp_ge (tgt := 84) dc_Model_soonest_67 rfl ?_ ?_
  · refine RO_aload_n dc_Model_soonest_70 rfl rfl ?_
    refine RO_getR (b := 259) gf_Model_177 lk_203 rfl dc_Model_soonest_71 ?_
    refine RO_iload dc_Model_soonest_74 rfl ?_
    refine RO_lconst (x := 0) dc_Model_soonest_76 ⟨by decide, ⟨by decide, by decide⟩⟩ ?_
    refine RO_chk (fun hi1 => ?_)
    refine RO_lst lk_259 hi1 dc_Model_soonest_77 ?_
    refine RO_bnM (fun m2 => ?_)
    refine RO_iinc dc_Model_soonest_78 rfl (Nat.le_of_ble_eq_true rfl) ?_
    refine RO_goto (tgt := 62) dc_Model_soonest_81 rfl ?_
    refine RO_sub ?_ (H62 v4 (w32 (v5 + 1)) m2)
    exact ⟨rfl, rfl, rfl, rfl, rfl, rfl, trivial⟩
  · refine RO_sub ?_ (rb_Model_soonest_84 p1 p2 p3 v4 mem)
    exact ⟨rfl, rfl, rfl, rfl, rfl, trivial⟩
def lp_Model_soonest_62 (p1 : Int) (p2 : Int) (p3 : Int)  : Nat → Int → Int → Mm → Res
  | 0 => fun _ _ _ => none
  | n + 1 => bo_Model_soonest_62 p1 p2 p3  (lp_Model_soonest_62 p1 p2 p3  n)
theorem rp_Model_soonest_62 {E : EE} (p1 : Int) (p2 : Int) (p3 : Int)    : ∀ (n : Nat) (v4 : Int) (v5 : Int)  (mem : Mm), RO E mt_Model_soonest (lp_Model_soonest_62 p1 p2 p3  n v4 v5 mem) 62 [(0, rf 203), (1, vi p1), (2, vi p2), (3, vi p3), (4, vi v4), (5, vi v5)] [] mem := by
  intro n
  induction n with
  | zero => intro v4 v5  mem; exact RO_none
  | succ n ih => intro v4 v5  mem; exact rb_Model_soonest_62 p1 p2 p3   (lp_Model_soonest_62 p1 p2 p3  n)  ih v4 v5  mem
def bo_Model_soonest_57 (p1 : Int) (p2 : Int) (p3 : Int)  (s0 : Int) (mem : Mm) : Res := lp_Model_soonest_62 p1 p2 p3 FU s0 0 mem
set_option maxHeartbeats 4000000 in
theorem rb_Model_soonest_57 {E : EE} (p1 : Int) (p2 : Int) (p3 : Int)    (s0 : Int)  (mem : Mm) : RO E mt_Model_soonest (bo_Model_soonest_57 p1 p2 p3  s0 mem) 57 [(0, rf 203), (1, vi p1), (2, vi p2), (3, vi p3)] [vi s0] mem := by
  unfold bo_Model_soonest_57
  refine RO_istore dc_Model_soonest_57 (Nat.le_of_ble_eq_true rfl) ?_
  refine RO_iconst dc_Model_soonest_59 ?_
  refine RO_istore dc_Model_soonest_60 (Nat.le_of_ble_eq_true rfl) ?_
  refine RO_sub ?_ (rp_Model_soonest_62 p1 p2 p3 FU s0 0 mem)
  exact ⟨rfl, rfl, rfl, rfl, rfl, rfl, trivial⟩
def fn_Model_soonest (p1 : Int) (p2 : Int) (p3 : Int) (mem : Mm) : Res := bn (mst mem 203 0 0) fun m1 => bd (fn_Model_isPlace p1 m1) fun r2 m3 => if r2 = 0 then (some ((-1), m3)) else (bd (fn_Model_within p2 0 239 m3) fun r4 m5 => if r4 = 0 then (some ((-1), m5)) else (if p3 < 0 then (some ((-1), m5)) else (bd (fn_Model_allWalkers  m5) fun r6 m7 => if r6 < p3 then (some ((-1), m7)) else (bd (fn_Model_laysDay  m7) fun r8 m9 => if (m9 245 (3 : Int).toNat) = 1 then (bo_Model_soonest_57 p1 p2 p3 2 m9) else (bo_Model_soonest_57 p1 p2 p3 1 m9)))))
set_option maxHeartbeats 4000000 in
theorem pf_Model_soonest {E : EE} (p1 : Int) (p2 : Int) (p3 : Int)  (mem : Mm) {r : Int} {mem9 : Mm} (h : fn_Model_soonest p1 p2 p3 mem = some (r, mem9)) : MetX E 5 yn_Model_soonest cd_Model_soonest 11 (some .int) [rf 203, vi p1, vi p2, vi p3] mem r mem9 := by
  refine RO_met (y := yn_Model_soonest) (by decide +kernel) (Nat.le_of_ble_eq_true rfl) ?_ h
  show RO E mt_Model_soonest (fn_Model_soonest p1 p2 p3 mem) 0 [(0, rf 203), (1, vi p1), (2, vi p2), (3, vi p3)] [] mem
  unfold fn_Model_soonest
  refine RO_aload_n dc_Model_soonest_0 rfl rfl ?_
  refine RO_iconst dc_Model_soonest_1 ?_
  refine RO_putI gp_Model_183 lk_203 dc_Model_soonest_2 ?_
  refine RO_bnM (fun m1 => ?_)
  refine RO_aload_n dc_Model_soonest_5 rfl rfl ?_
  refine RO_iload_n dc_Model_soonest_6 rfl rfl ?_
  refine RO_callVi (As := [vi p1]) (rest := []) mi_Model_isPlace mv_Model_isPlace ml_Model_433 lk_203 (Nat.le_of_ble_eq_true rfl) rfl (Nat.le_of_ble_eq_true rfl) (fun _ => rfl) dc_Model_soonest_7 (fun rq mq hq => pf_Model_isPlace p1  m1 hq) (fun r2 m3 => ?_)
  refine RO_if_eq (tgt := 36) dc_Model_soonest_10 rfl ?_ ?_
  · refine RO_iconst dc_Model_soonest_36 ?_
    exact RO_iret rfl dc_Model_soonest_37
  · refine RO_iload_n dc_Model_soonest_13 rfl rfl ?_
    refine RO_iconst dc_Model_soonest_14 ?_
    refine RO_sipush dc_Model_soonest_15 ?_
    refine RO_callSi (As := [vi p2, vi 0, vi 239]) (rest := []) mi_Model_within ms_Model_within ml_Model_318 (Nat.le_of_ble_eq_true rfl) rfl (Nat.le_of_ble_eq_true rfl) (fun _ => rfl) dc_Model_soonest_18 (fun rq mq hq => pf_Model_within p2 0 239  m3 hq) (fun r4 m5 => ?_)
    refine RO_if_eq (tgt := 36) dc_Model_soonest_21 rfl ?_ ?_
    · refine RO_iconst dc_Model_soonest_36 ?_
      exact RO_iret rfl dc_Model_soonest_37
    · refine RO_iload_n dc_Model_soonest_24 rfl rfl ?_
      refine RO_if_lt (tgt := 36) dc_Model_soonest_25 rfl ?_ ?_
      · refine RO_iconst dc_Model_soonest_36 ?_
        exact RO_iret rfl dc_Model_soonest_37
      · refine RO_iload_n dc_Model_soonest_28 rfl rfl ?_
        refine RO_aload_n dc_Model_soonest_29 rfl rfl ?_
        refine RO_callVi (As := []) (rest := [vi p3]) mi_Model_allWalkers mv_Model_allWalkers ml_Model_402 lk_203 (Nat.le_of_ble_eq_true rfl) rfl (Nat.le_of_ble_eq_true rfl) (fun _ => rfl) dc_Model_soonest_30 (fun rq mq hq => pf_Model_allWalkers   m5 hq) (fun r6 m7 => ?_)
        refine RO_icmp_le (tgt := 38) dc_Model_soonest_33 rfl ?_ ?_
        · refine RO_iconst dc_Model_soonest_36 ?_
          exact RO_iret rfl dc_Model_soonest_37
        · refine RO_aload_n dc_Model_soonest_38 rfl rfl ?_
          refine RO_callVv (As := []) (rest := []) mi_Model_laysDay mv_Model_laysDay ml_Model_470 lk_203 (Nat.le_of_ble_eq_true rfl) rfl (Nat.le_of_ble_eq_true rfl) dc_Model_soonest_39 (fun rq mq hq => pf_Model_laysDay   m7 hq) (fun r8 m9 => ?_)
          refine RO_aload_n dc_Model_soonest_42 rfl rfl ?_
          refine RO_getR (b := 245) gf_Model_135 lk_203 rfl dc_Model_soonest_43 ?_
          refine RO_iconst dc_Model_soonest_46 ?_
          refine RO_ia lk_245 ⟨by decide, by decide⟩ dc_Model_soonest_47 ?_
          refine RO_iconst dc_Model_soonest_48 ?_
          refine RO_icmp_ne (tgt := 56) dc_Model_soonest_49 rfl ?_ ?_
          · refine RO_iconst dc_Model_soonest_52 ?_
            refine RO_goto (tgt := 57) dc_Model_soonest_53 rfl ?_
            refine RO_sub ?_ (rb_Model_soonest_57 p1 p2 p3 2 m9)
            exact ⟨rfl, rfl, rfl, rfl, trivial⟩
          · refine RO_iconst dc_Model_soonest_56 ?_
            refine RO_sub ?_ (rb_Model_soonest_57 p1 p2 p3 1 m9)
            exact ⟨rfl, rfl, rfl, rfl, trivial⟩
