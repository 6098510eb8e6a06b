def bo_Model_readsLine_251    (mem : Mm) : Res := bn (mst mem 236 (5 : Int).toNat (w32 ((mem 236 (5 : Int).toNat) + 1))) fun m1 => bd (fn_Model_closes  m1) fun r2 m3 => if r2 = 0 ∨ r2 = 1 then some (r2, m3) else none
set_option maxHeartbeats 4000000 in
theorem rb_Model_readsLine_251 {E : EE}       (mem : Mm) : RO E mt_Model_readsLine (bo_Model_readsLine_251    mem) 251 [(0, rf 203)] [] mem := by
  unfold bo_Model_readsLine_251
  refine RO_aload_n dc_Model_readsLine_251 rfl rfl ?_
  refine RO_getR (b := 236) gf_Model_108 lk_203 rfl dc_Model_readsLine_252 ?_
  refine RO_iconst dc_Model_readsLine_255 ?_
  refine RO_dup2 dc_Model_readsLine_256 (nt0 _) (nt2 _) ?_
  refine RO_ia lk_236 ⟨by decide, by decide⟩ dc_Model_readsLine_257 ?_
  refine RO_iconst dc_Model_readsLine_258 ?_
  refine RO_iadd dc_Model_readsLine_259 ?_
  refine RO_is lk_236 ⟨by decide, by decide⟩ dc_Model_readsLine_260 ?_
  refine RO_bnM (fun m1 => ?_)
  refine RO_aload_n dc_Model_readsLine_261 rfl rfl ?_
  refine RO_callVi (As := []) (rest := []) mi_Model_closes mv_Model_closes ml_Model_351 lk_203 (Nat.le_of_ble_eq_true rfl) rfl (Nat.le_of_ble_eq_true rfl) (fun _ => rfl) dc_Model_readsLine_262 (fun rq mq hq => pf_Model_closes   m1 hq) (fun r2 m3 => ?_)
  refine RO_chk (fun hz4 => ?_)
  exact RO_zret rfl hz4 dc_Model_readsLine_265
def bo_Model_readsLine_150   (v1 : Int) (v2 : Int) (mem : Mm) : Res := if v1 = 0 then (bd (fn_Model_needsNumber 0 60 mem) fun r1 m2 => if r1 = 0 then (some (0, m2)) else (if 0 ≤ v2 ∧ v2 < 180 then bn (mst m2 239 v2.toNat (m2 203 42)) fun m4 => bo_Model_readsLine_251 m4 else none)) else (if v1 = 2 then (bd (fn_Model_isKept  mem) fun r5 m6 => if r5 = 0 then (bd (fn_Model_hourNamed 0 m6) fun r7 m8 => if 0 ≤ v2 ∧ v2 < 180 then bn (mst m8 238 v2.toNat r7) fun m10 => if 0 ≤ v2 ∧ v2 < 180 then if (m10 238 v2.toNat) < 0 then (bd (fn_Model_fails 2 m10) fun r12 m13 => if r12 = 0 ∨ r12 = 1 then some (r12, m13) else none) else (bd (fn_Model_nextToken  m10) fun r15 m16 => bd (fn_Model_needsWalker 0 m16) fun r17 m18 => if r17 = 0 then (some (0, m18)) else (if 0 ≤ v2 ∧ v2 < 180 then bn (mst m18 239 v2.toNat (m18 203 42)) fun m20 => bd (fn_Model_nextToken  m20) fun r21 m22 => bo_Model_readsLine_251 m22 else none)) else none else none) else (bd (fn_Model_fails 1 m6) fun r23 m24 => if r23 = 0 ∨ r23 = 1 then some (r23, m24) else none)) else (bo_Model_readsLine_251 mem))
set_option maxHeartbeats 4000000 in
theorem rb_Model_readsLine_150 {E : EE}     (v1 : Int) (v2 : Int)  (mem : Mm) : RO E mt_Model_readsLine (bo_Model_readsLine_150   v1 v2 mem) 150 [(0, rf 203), (1, vi v1), (2, vi v2)] [] mem := by
  unfold bo_Model_readsLine_150
  refine RO_iload_n dc_Model_readsLine_150 rfl rfl ?_
  refine RO_if_ne (tgt := 179) dc_Model_readsLine_151 rfl ?_ ?_
  · refine RO_aload_n dc_Model_readsLine_154 rfl rfl ?_
    refine RO_iconst dc_Model_readsLine_155 ?_
    refine RO_bipush dc_Model_readsLine_156 ?_
    refine RO_callVi (As := [vi 0, vi 60]) (rest := []) mi_Model_needsNumber mv_Model_needsNumber ml_Model_328 lk_203 (Nat.le_of_ble_eq_true rfl) rfl (Nat.le_of_ble_eq_true rfl) (fun _ => rfl) dc_Model_readsLine_158 (fun rq mq hq => pf_Model_needsNumber 0 60  mem hq) (fun r1 m2 => ?_)
    refine RO_if_ne (tgt := 166) dc_Model_readsLine_161 rfl ?_ ?_
    · refine RO_iconst dc_Model_readsLine_164 ?_
      exact RO_zret rfl (Or.inl rfl) dc_Model_readsLine_165
    · refine RO_aload_n dc_Model_readsLine_166 rfl rfl ?_
      refine RO_getR (b := 239) gf_Model_117 lk_203 rfl dc_Model_readsLine_167 ?_
      refine RO_iload_n dc_Model_readsLine_170 rfl rfl ?_
      refine RO_aload_n dc_Model_readsLine_171 rfl rfl ?_
      refine RO_getI gf_Model_322 lk_203 dc_Model_readsLine_172 ?_
      refine RO_chk (fun hi3 => ?_)
      refine RO_is lk_239 hi3 dc_Model_readsLine_175 ?_
      refine RO_bnM (fun m4 => ?_)
      refine RO_goto (tgt := 251) dc_Model_readsLine_176 rfl ?_
      refine RO_sub ?_ (rb_Model_readsLine_251 m4)
      exact ⟨rfl, trivial⟩
  · refine RO_iload_n dc_Model_readsLine_179 rfl rfl ?_
    refine RO_iconst dc_Model_readsLine_180 ?_
    refine RO_icmp_ne (tgt := 251) dc_Model_readsLine_181 rfl ?_ ?_
    · refine RO_aload_n dc_Model_readsLine_184 rfl rfl ?_
      refine RO_callVi (As := []) (rest := []) mi_Model_isKept mv_Model_isKept ml_Model_332 lk_203 (Nat.le_of_ble_eq_true rfl) rfl (Nat.le_of_ble_eq_true rfl) (fun _ => rfl) dc_Model_readsLine_185 (fun rq mq hq => pf_Model_isKept   mem hq) (fun r5 m6 => ?_)
      refine RO_if_eq (tgt := 197) dc_Model_readsLine_188 rfl ?_ ?_
      · refine RO_aload_n dc_Model_readsLine_197 rfl rfl ?_
        refine RO_getR (b := 238) gf_Model_114 lk_203 rfl dc_Model_readsLine_198 ?_
        refine RO_iload_n dc_Model_readsLine_201 rfl rfl ?_
        refine RO_aload_n dc_Model_readsLine_202 rfl rfl ?_
        refine RO_iconst dc_Model_readsLine_203 ?_
        refine RO_callVi (As := [vi 0]) (rest := [vi v2, rf 238]) mi_Model_hourNamed mv_Model_hourNamed ml_Model_342 lk_203 (Nat.le_of_ble_eq_true rfl) rfl (Nat.le_of_ble_eq_true rfl) (fun _ => rfl) dc_Model_readsLine_204 (fun rq mq hq => pf_Model_hourNamed 0  m6 hq) (fun r7 m8 => ?_)
        refine RO_chk (fun hi9 => ?_)
        refine RO_is lk_238 hi9 dc_Model_readsLine_207 ?_
        refine RO_bnM (fun m10 => ?_)
        refine RO_aload_n dc_Model_readsLine_208 rfl rfl ?_
        refine RO_getR (b := 238) gf_Model_114 lk_203 rfl dc_Model_readsLine_209 ?_
        refine RO_iload_n dc_Model_readsLine_212 rfl rfl ?_
        refine RO_chk (fun hi11 => ?_)
        refine RO_ia lk_238 hi11 dc_Model_readsLine_213 ?_
        refine RO_if_ge (tgt := 223) dc_Model_readsLine_214 rfl ?_ ?_
        · refine RO_aload_n dc_Model_readsLine_217 rfl rfl ?_
          refine RO_iconst dc_Model_readsLine_218 ?_
          refine RO_callVi (As := [vi 2]) (rest := []) mi_Model_fails mv_Model_fails ml_Model_245 lk_203 (Nat.le_of_ble_eq_true rfl) rfl (Nat.le_of_ble_eq_true rfl) (fun _ => rfl) dc_Model_readsLine_219 (fun rq mq hq => pf_Model_fails 2  m10 hq) (fun r12 m13 => ?_)
          refine RO_chk (fun hz14 => ?_)
          exact RO_zret rfl hz14 dc_Model_readsLine_222
        · refine RO_aload_n dc_Model_readsLine_223 rfl rfl ?_
          refine RO_callVv (As := []) (rest := []) mi_Model_nextToken mv_Model_nextToken ml_Model_252 lk_203 (Nat.le_of_ble_eq_true rfl) rfl (Nat.le_of_ble_eq_true rfl) dc_Model_readsLine_224 (fun rq mq hq => pf_Model_nextToken   m10 hq) (fun r15 m16 => ?_)
          refine RO_aload_n dc_Model_readsLine_227 rfl rfl ?_
          refine RO_iconst dc_Model_readsLine_228 ?_
          refine RO_callVi (As := [vi 0]) (rest := []) mi_Model_needsWalker mv_Model_needsWalker ml_Model_364 lk_203 (Nat.le_of_ble_eq_true rfl) rfl (Nat.le_of_ble_eq_true rfl) (fun _ => rfl) dc_Model_readsLine_229 (fun rq mq hq => pf_Model_needsWalker 0  m16 hq) (fun r17 m18 => ?_)
          refine RO_if_ne (tgt := 237) dc_Model_readsLine_232 rfl ?_ ?_
          · refine RO_iconst dc_Model_readsLine_235 ?_
            exact RO_zret rfl (Or.inl rfl) dc_Model_readsLine_236
          · refine RO_aload_n dc_Model_readsLine_237 rfl rfl ?_
            refine RO_getR (b := 239) gf_Model_117 lk_203 rfl dc_Model_readsLine_238 ?_
            refine RO_iload_n dc_Model_readsLine_241 rfl rfl ?_
            refine RO_aload_n dc_Model_readsLine_242 rfl rfl ?_
            refine RO_getI gf_Model_322 lk_203 dc_Model_readsLine_243 ?_
            refine RO_chk (fun hi19 => ?_)
            refine RO_is lk_239 hi19 dc_Model_readsLine_246 ?_
            refine RO_bnM (fun m20 => ?_)
            refine RO_aload_n dc_Model_readsLine_247 rfl rfl ?_
            refine RO_callVv (As := []) (rest := []) mi_Model_nextToken mv_Model_nextToken ml_Model_252 lk_203 (Nat.le_of_ble_eq_true rfl) rfl (Nat.le_of_ble_eq_true rfl) dc_Model_readsLine_248 (fun rq mq hq => pf_Model_nextToken   m20 hq) (fun r21 m22 => ?_)
            refine RO_sub ?_ (rb_Model_readsLine_251 m22)
            exact ⟨rfl, trivial⟩
      · refine RO_aload_n dc_Model_readsLine_191 rfl rfl ?_
        refine RO_iconst dc_Model_readsLine_192 ?_
        refine RO_callVi (As := [vi 1]) (rest := []) mi_Model_fails mv_Model_fails ml_Model_245 lk_203 (Nat.le_of_ble_eq_true rfl) rfl (Nat.le_of_ble_eq_true rfl) (fun _ => rfl) dc_Model_readsLine_193 (fun rq mq hq => pf_Model_fails 1  m6 hq) (fun r23 m24 => ?_)
        refine RO_chk (fun hz25 => ?_)
        exact RO_zret rfl hz25 dc_Model_readsLine_196
    · refine RO_sub ?_ (rb_Model_readsLine_251 mem)
      exact ⟨rfl, trivial⟩
def bo_Model_readsLine_71   (s0 : Int) (mem : Mm) : Res := if s0 < 0 then (bd (fn_Model_fails 1 mem) fun r1 m2 => if r1 = 0 ∨ r1 = 1 then some (r1, m2) else none) else (if (mem 236 (5 : Int).toNat) = 30 then (bd (fn_Model_fails 5 mem) fun r4 m5 => if r4 = 0 ∨ r4 = 1 then some (r4, m5) else none) else (bd (fn_Model_nextToken  mem) fun r7 m8 => bn (w32 (150 + (m8 236 (5 : Int).toNat))) fun x9 => if 0 ≤ x9 ∧ x9 < 180 then bn (mst m8 237 x9.toNat s0) fun m11 => if 1 < s0 then (bo_Model_readsLine_150 s0 x9 m11) else (bd (fn_Model_needsWalker 0 m11) fun r12 m13 => if r12 = 0 then (some (0, m13)) else (if 0 ≤ x9 ∧ x9 < 180 then bn (mst m13 238 x9.toNat (m13 203 42)) fun m15 => bd (fn_Model_nextToken  m15) fun r16 m17 => bo_Model_readsLine_150 s0 x9 m17 else none)) else none))
set_option maxHeartbeats 4000000 in
theorem rb_Model_readsLine_71 {E : EE}     (s0 : Int)  (mem : Mm) : RO E mt_Model_readsLine (bo_Model_readsLine_71   s0 mem) 71 [(0, rf 203)] [vi s0] mem := by
  unfold bo_Model_readsLine_71
  refine RO_istore_n dc_Model_readsLine_71 rfl (Nat.le_of_ble_eq_true rfl) ?_
  refine RO_iload_n dc_Model_readsLine_72 rfl rfl ?_
  refine RO_if_ge (tgt := 82) dc_Model_readsLine_73 rfl ?_ ?_
  · refine RO_aload_n dc_Model_readsLine_76 rfl rfl ?_
    refine RO_iconst dc_Model_readsLine_77 ?_
    refine RO_callVi (As := [vi 1]) (rest := []) mi_Model_fails mv_Model_fails ml_Model_245 lk_203 (Nat.le_of_ble_eq_true rfl) rfl (Nat.le_of_ble_eq_true rfl) (fun _ => rfl) dc_Model_readsLine_78 (fun rq mq hq => pf_Model_fails 1  mem hq) (fun r1 m2 => ?_)
    refine RO_chk (fun hz3 => ?_)
    exact RO_zret rfl hz3 dc_Model_readsLine_81
  · refine RO_aload_n dc_Model_readsLine_82 rfl rfl ?_
    refine RO_getR (b := 236) gf_Model_108 lk_203 rfl dc_Model_readsLine_83 ?_
    refine RO_iconst dc_Model_readsLine_86 ?_
    refine RO_ia lk_236 ⟨by decide, by decide⟩ dc_Model_readsLine_87 ?_
    refine RO_bipush dc_Model_readsLine_88 ?_
    refine RO_icmp_ne (tgt := 99) dc_Model_readsLine_90 rfl ?_ ?_
    · refine RO_aload_n dc_Model_readsLine_93 rfl rfl ?_
      refine RO_iconst dc_Model_readsLine_94 ?_
      refine RO_callVi (As := [vi 5]) (rest := []) mi_Model_fails mv_Model_fails ml_Model_245 lk_203 (Nat.le_of_ble_eq_true rfl) rfl (Nat.le_of_ble_eq_true rfl) (fun _ => rfl) dc_Model_readsLine_95 (fun rq mq hq => pf_Model_fails 5  mem hq) (fun r4 m5 => ?_)
      refine RO_chk (fun hz6 => ?_)
      exact RO_zret rfl hz6 dc_Model_readsLine_98
    · refine RO_aload_n dc_Model_readsLine_99 rfl rfl ?_
      refine RO_callVv (As := []) (rest := []) mi_Model_nextToken mv_Model_nextToken ml_Model_252 lk_203 (Nat.le_of_ble_eq_true rfl) rfl (Nat.le_of_ble_eq_true rfl) dc_Model_readsLine_100 (fun rq mq hq => pf_Model_nextToken   mem hq) (fun r7 m8 => ?_)
      refine RO_sipush dc_Model_readsLine_103 ?_
      refine RO_aload_n dc_Model_readsLine_106 rfl rfl ?_
      refine RO_getR (b := 236) gf_Model_108 lk_203 rfl dc_Model_readsLine_107 ?_
      refine RO_iconst dc_Model_readsLine_110 ?_
      refine RO_ia lk_236 ⟨by decide, by decide⟩ dc_Model_readsLine_111 ?_
      refine RO_iadd dc_Model_readsLine_112 ?_
      refine RO_bnT (fun x9 => ?_)
      refine RO_istore_n dc_Model_readsLine_113 rfl (Nat.le_of_ble_eq_true rfl) ?_
      refine RO_aload_n dc_Model_readsLine_114 rfl rfl ?_
      refine RO_getR (b := 237) gf_Model_111 lk_203 rfl dc_Model_readsLine_115 ?_
      refine RO_iload_n dc_Model_readsLine_118 rfl rfl ?_
      refine RO_iload_n dc_Model_readsLine_119 rfl rfl ?_
      refine RO_chk (fun hi10 => ?_)
      refine RO_is lk_237 hi10 dc_Model_readsLine_120 ?_
      refine RO_bnM (fun m11 => ?_)
      refine RO_iload_n dc_Model_readsLine_121 rfl rfl ?_
      refine RO_iconst dc_Model_readsLine_122 ?_
      refine RO_icmp_gt (tgt := 150) dc_Model_readsLine_123 rfl ?_ ?_
      · refine RO_sub ?_ (rb_Model_readsLine_150 s0 x9 m11)
        exact ⟨rfl, rfl, rfl, trivial⟩
      · refine RO_aload_n dc_Model_readsLine_126 rfl rfl ?_
        refine RO_iconst dc_Model_readsLine_127 ?_
        refine RO_callVi (As := [vi 0]) (rest := []) mi_Model_needsWalker mv_Model_needsWalker ml_Model_364 lk_203 (Nat.le_of_ble_eq_true rfl) rfl (Nat.le_of_ble_eq_true rfl) (fun _ => rfl) dc_Model_readsLine_128 (fun rq mq hq => pf_Model_needsWalker 0  m11 hq) (fun r12 m13 => ?_)
        refine RO_if_ne (tgt := 136) dc_Model_readsLine_131 rfl ?_ ?_
        · refine RO_iconst dc_Model_readsLine_134 ?_
          exact RO_zret rfl (Or.inl rfl) dc_Model_readsLine_135
        · refine RO_aload_n dc_Model_readsLine_136 rfl rfl ?_
          refine RO_getR (b := 238) gf_Model_114 lk_203 rfl dc_Model_readsLine_137 ?_
          refine RO_iload_n dc_Model_readsLine_140 rfl rfl ?_
          refine RO_aload_n dc_Model_readsLine_141 rfl rfl ?_
          refine RO_getI gf_Model_322 lk_203 dc_Model_readsLine_142 ?_
          refine RO_chk (fun hi14 => ?_)
          refine RO_is lk_238 hi14 dc_Model_readsLine_145 ?_
          refine RO_bnM (fun m15 => ?_)
          refine RO_aload_n dc_Model_readsLine_146 rfl rfl ?_
          refine RO_callVv (As := []) (rest := []) mi_Model_nextToken mv_Model_nextToken ml_Model_252 lk_203 (Nat.le_of_ble_eq_true rfl) rfl (Nat.le_of_ble_eq_true rfl) dc_Model_readsLine_147 (fun rq mq hq => pf_Model_nextToken   m15 hq) (fun r16 m17 => ?_)
          refine RO_sub ?_ (rb_Model_readsLine_150 s0 x9 m17)
          exact ⟨rfl, rfl, rfl, trivial⟩
def fn_Model_readsLine  (mem : Mm) : Res := bd (fn_Model_isWord 237470 mem) fun r1 m2 => if r1 = 0 then (bd (fn_Model_isWord 85447 m2) fun r3 m4 => if r3 = 0 then (bd (fn_Model_isWord 60383635 m4) fun r5 m6 => if r5 = 0 then (bd (fn_Model_isWord 384611 m6) fun r7 m8 => if r7 = 0 then (bd (fn_Model_isWord 2968 m8) fun r9 m10 => if r9 = 0 then (bo_Model_readsLine_71 (-1) m10) else (bo_Model_readsLine_71 4 m10)) else (bo_Model_readsLine_71 3 m8)) else (bo_Model_readsLine_71 2 m6)) else (bo_Model_readsLine_71 1 m4)) else (bo_Model_readsLine_71 0 m2)
set_option maxHeartbeats 4000000 in
theorem pf_Model_readsLine {E : EE}   (mem : Mm) {r : Int} {mem9 : Mm} (h : fn_Model_readsLine  mem = some (r, mem9)) : MetX E 4 yn_Model_readsLine cd_Model_readsLine 3 (some .boolean) [rf 203] mem r mem9 := by
  refine RO_met (y := yn_Model_readsLine) (by decide +kernel) (Nat.le_of_ble_eq_true rfl) ?_ h
  show RO E mt_Model_readsLine (fn_Model_readsLine  mem) 0 [(0, rf 203)] [] mem
  unfold fn_Model_readsLine
  refine RO_aload_n dc_Model_readsLine_0 rfl rfl ?_
  refine RO_ldc2 (x := 237470) c2_Model_296 ⟨by decide, ⟨by decide, by decide⟩⟩ dc_Model_readsLine_1 ?_
  refine RO_callVi (As := [vl 237470]) (rest := []) mi_Model_isWord mv_Model_isWord ml_Model_237 lk_203 (Nat.le_of_ble_eq_true rfl) rfl (Nat.le_of_ble_eq_true rfl) (fun _ => rfl) dc_Model_readsLine_4 (fun rq mq hq => pf_Model_isWord 237470  mem hq) (fun r1 m2 => ?_)
  refine RO_if_eq (tgt := 14) dc_Model_readsLine_7 rfl ?_ ?_
  · refine RO_aload_n dc_Model_readsLine_14 rfl rfl ?_
    refine RO_ldc2 (x := 85447) c2_Model_298 ⟨by decide, ⟨by decide, by decide⟩⟩ dc_Model_readsLine_15 ?_
    refine RO_callVi (As := [vl 85447]) (rest := []) mi_Model_isWord mv_Model_isWord ml_Model_237 lk_203 (Nat.le_of_ble_eq_true rfl) rfl (Nat.le_of_ble_eq_true rfl) (fun _ => rfl) dc_Model_readsLine_18 (fun rq mq hq => pf_Model_isWord 85447  m2 hq) (fun r3 m4 => ?_)
    refine RO_if_eq (tgt := 28) dc_Model_readsLine_21 rfl ?_ ?_
    · refine RO_aload_n dc_Model_readsLine_28 rfl rfl ?_
      refine RO_ldc2 (x := 60383635) c2_Model_300 ⟨by decide, ⟨by decide, by decide⟩⟩ dc_Model_readsLine_29 ?_
      refine RO_callVi (As := [vl 60383635]) (rest := []) mi_Model_isWord mv_Model_isWord ml_Model_237 lk_203 (Nat.le_of_ble_eq_true rfl) rfl (Nat.le_of_ble_eq_true rfl) (fun _ => rfl) dc_Model_readsLine_32 (fun rq mq hq => pf_Model_isWord 60383635  m4 hq) (fun r5 m6 => ?_)
      refine RO_if_eq (tgt := 42) dc_Model_readsLine_35 rfl ?_ ?_
      · refine RO_aload_n dc_Model_readsLine_42 rfl rfl ?_
        refine RO_ldc2 (x := 384611) c2_Model_302 ⟨by decide, ⟨by decide, by decide⟩⟩ dc_Model_readsLine_43 ?_
        refine RO_callVi (As := [vl 384611]) (rest := []) mi_Model_isWord mv_Model_isWord ml_Model_237 lk_203 (Nat.le_of_ble_eq_true rfl) rfl (Nat.le_of_ble_eq_true rfl) (fun _ => rfl) dc_Model_readsLine_46 (fun rq mq hq => pf_Model_isWord 384611  m6 hq) (fun r7 m8 => ?_)
        refine RO_if_eq (tgt := 56) dc_Model_readsLine_49 rfl ?_ ?_
        · refine RO_aload_n dc_Model_readsLine_56 rfl rfl ?_
          refine RO_ldc2 (x := 2968) c2_Model_304 ⟨by decide, ⟨by decide, by decide⟩⟩ dc_Model_readsLine_57 ?_
          refine RO_callVi (As := [vl 2968]) (rest := []) mi_Model_isWord mv_Model_isWord ml_Model_237 lk_203 (Nat.le_of_ble_eq_true rfl) rfl (Nat.le_of_ble_eq_true rfl) (fun _ => rfl) dc_Model_readsLine_60 (fun rq mq hq => pf_Model_isWord 2968  m8 hq) (fun r9 m10 => ?_)
          refine RO_if_eq (tgt := 70) dc_Model_readsLine_63 rfl ?_ ?_
          · refine RO_iconst dc_Model_readsLine_70 ?_
            refine RO_sub ?_ (rb_Model_readsLine_71 (-1) m10)
            exact ⟨rfl, trivial⟩
          · refine RO_iconst dc_Model_readsLine_66 ?_
            refine RO_goto (tgt := 71) dc_Model_readsLine_67 rfl ?_
            refine RO_sub ?_ (rb_Model_readsLine_71 4 m10)
            exact ⟨rfl, trivial⟩
        · refine RO_iconst dc_Model_readsLine_52 ?_
          refine RO_goto (tgt := 71) dc_Model_readsLine_53 rfl ?_
          refine RO_sub ?_ (rb_Model_readsLine_71 3 m8)
          exact ⟨rfl, trivial⟩
      · refine RO_iconst dc_Model_readsLine_38 ?_
        refine RO_goto (tgt := 71) dc_Model_readsLine_39 rfl ?_
        refine RO_sub ?_ (rb_Model_readsLine_71 2 m6)
        exact ⟨rfl, trivial⟩
    · refine RO_iconst dc_Model_readsLine_24 ?_
      refine RO_goto (tgt := 71) dc_Model_readsLine_25 rfl ?_
      refine RO_sub ?_ (rb_Model_readsLine_71 1 m4)
      exact ⟨rfl, trivial⟩
  · refine RO_iconst dc_Model_readsLine_10 ?_
    refine RO_goto (tgt := 71) dc_Model_readsLine_11 rfl ?_
    refine RO_sub ?_ (rb_Model_readsLine_71 0 m2)
    exact ⟨rfl, trivial⟩
def bo_Model_laysDay_279  (k75 : Int → Mm → Res) (v1 : Int) (mem : Mm) : Res := k75 (w32 (v1 + 1)) mem
set_option maxHeartbeats 4000000 in
theorem rb_Model_laysDay_279 {E : EE}   (k75 : Int → Mm → Res) (H75 : ∀ (v1 : Int)  (mem : Mm), RO E mt_Model_laysDay (k75 v1 mem) 75 [(0, rf 203), (1, vi v1)] [] mem) (v1 : Int)  (mem : Mm) : RO E mt_Model_laysDay (bo_Model_laysDay_279  k75 v1 mem) 279 [(0, rf 203), (1, vi v1)] [] mem := by
  unfold bo_Model_laysDay_279
  refine RO_iinc dc_Model_laysDay_279 rfl (Nat.le_of_ble_eq_true rfl) ?_
  refine RO_goto (tgt := 75) dc_Model_laysDay_282 rfl ?_
  refine RO_sub ?_ (H75 (w32 (v1 + 1)) mem)
  exact ⟨rfl, rfl, trivial⟩
def bo_Model_laysDay_273  (k75 : Int → Mm → Res) (k233 : Int → Int → Mm → Res) (v1 : Int) (v2 : Int) (mem : Mm) : Res := k233 v1 (w32 (v2 + 1)) mem
set_option maxHeartbeats 4000000 in
theorem rb_Model_laysDay_273 {E : EE}   (k75 : Int → Mm → Res) (k233 : Int → Int → Mm → Res) (H75 : ∀ (v1 : Int)  (mem : Mm), RO E mt_Model_laysDay (k75 v1 mem) 75 [(0, rf 203), (1, vi v1)] [] mem) (H233 : ∀ (v1 : Int) (v2 : Int)  (mem : Mm), RO E mt_Model_laysDay (k233 v1 v2 mem) 233 [(0, rf 203), (1, vi v1), (2, vi v2)] [] mem) (v1 : Int) (v2 : Int)  (mem : Mm) : RO E mt_Model_laysDay (bo_Model_laysDay_273  k75 k233 v1 v2 mem) 273 [(0, rf 203), (1, vi v1), (2, vi v2)] [] mem := by
  unfold bo_Model_laysDay_273
  refine RO_iinc dc_Model_laysDay_273 rfl (Nat.le_of_ble_eq_true rfl) ?_
  refine RO_goto (tgt := 233) dc_Model_laysDay_276 rfl ?_
  refine RO_sub ?_ (H233 v1 (w32 (v2 + 1)) mem)
  exact ⟨rfl, rfl, rfl, trivial⟩
def bo_Model_laysDay_233  (k75 : Int → Mm → Res) (k233 : Int → Int → Mm → Res) (v1 : Int) (v2 : Int) (mem : Mm) : Res := if v2 < (mem 205 (1 : Int).toNat) then (if 0 ≤ w32 ((w32 (240 * v2)) + v1) ∧ w32 ((w32 (240 * v2)) + v1) < 1440 then if (mem 251 (w32 ((w32 (240 * v2)) + v1)).toNat) < 0 then (bo_Model_laysDay_273 k75 k233 v1 v2 mem) else (bd (fn_Model_isFree v2 v1 mem) fun r2 m3 => if r2 = 0 then (bo_Model_laysDay_273 k75 k233 v1 v2 m3) else (bd (fn_Model_goesOn v2 v1 m3) fun r4 m5 => bo_Model_laysDay_273 k75 k233 v1 v2 m5)) else none) else (bo_Model_laysDay_279 k75 v1 mem)
set_option maxHeartbeats 4000000 in
theorem rb_Model_laysDay_233 {E : EE}   (k75 : Int → Mm → Res) (k233 : Int → Int → Mm → Res) (H75 : ∀ (v1 : Int)  (mem : Mm), RO E mt_Model_laysDay (k75 v1 mem) 75 [(0, rf 203), (1, vi v1)] [] mem) (H233 : ∀ (v1 : Int) (v2 : Int)  (mem : Mm), RO E mt_Model_laysDay (k233 v1 v2 mem) 233 [(0, rf 203), (1, vi v1), (2, vi v2)] [] mem) (v1 : Int) (v2 : Int)  (mem : Mm) : RO E mt_Model_laysDay (bo_Model_laysDay_233  k75 k233 v1 v2 mem) 233 [(0, rf 203), (1, vi v1), (2, vi v2)] [] mem := by
  unfold bo_Model_laysDay_233
  refine RO_iload_n dc_Model_laysDay_233 rfl rfl ?_
  refine RO_aload_n dc_Model_laysDay_234 rfl rfl ?_
  refine RO_getR (b := 205) gf_Model_13 lk_203 rfl dc_Model_laysDay_235 ?_
  refine RO_iconst dc_Model_laysDay_238 ?_
  refine RO_ia lk_205 ⟨by decide, by decide⟩ dc_Model_laysDay_239 ?_
  refine RO_icmp_ge (tgt := 279) dc_Model_laysDay_240 rfl ?_ ?_
  · refine RO_aload_n dc_Model_laysDay_243 rfl rfl ?_
    refine RO_getR (b := 251) gf_Model_153 lk_203 rfl dc_Model_laysDay_244 ?_
    refine RO_sipush dc_Model_laysDay_247 ?_
    refine RO_iload_n dc_Model_laysDay_250 rfl rfl ?_
    refine RO_imul dc_Model_laysDay_251 ?_
    refine RO_iload_n dc_Model_laysDay_252 rfl rfl ?_
    refine RO_iadd dc_Model_laysDay_253 ?_
    refine RO_chk (fun hi1 => ?_)
    refine RO_ia lk_251 hi1 dc_Model_laysDay_254 ?_
    refine RO_if_lt (tgt := 273) dc_Model_laysDay_255 rfl ?_ ?_
    · refine RO_sub ?_ (rb_Model_laysDay_273 k75 k233 H75 H233 v1 v2 mem)
      exact ⟨rfl, rfl, rfl, trivial⟩
    · refine RO_aload_n dc_Model_laysDay_258 rfl rfl ?_
      refine RO_iload_n dc_Model_laysDay_259 rfl rfl ?_
      refine RO_iload_n dc_Model_laysDay_260 rfl rfl ?_
      refine RO_callVi (As := [vi v2, vi v1]) (rest := []) mi_Model_isFree mv_Model_isFree ml_Model_442 lk_203 (Nat.le_of_ble_eq_true rfl) rfl (Nat.le_of_ble_eq_true rfl) (fun _ => rfl) dc_Model_laysDay_261 (fun rq mq hq => pf_Model_isFree v2 v1  mem hq) (fun r2 m3 => ?_)
      refine RO_if_eq (tgt := 273) dc_Model_laysDay_264 rfl ?_ ?_
      · refine RO_sub ?_ (rb_Model_laysDay_273 k75 k233 H75 H233 v1 v2 m3)
        exact ⟨rfl, rfl, rfl, trivial⟩
      · refine RO_aload_n dc_Model_laysDay_267 rfl rfl ?_
        refine RO_iload_n dc_Model_laysDay_268 rfl rfl ?_
        refine RO_iload_n dc_Model_laysDay_269 rfl rfl ?_
        refine RO_callVv (As := [vi v2, vi v1]) (rest := []) mi_Model_goesOn mv_Model_goesOn ml_Model_445 lk_203 (Nat.le_of_ble_eq_true rfl) rfl (Nat.le_of_ble_eq_true rfl) dc_Model_laysDay_270 (fun rq mq hq => pf_Model_goesOn v2 v1  m3 hq) (fun r4 m5 => ?_)
        refine RO_sub ?_ (rb_Model_laysDay_273 k75 k233 H75 H233 v1 v2 m5)
        exact ⟨rfl, rfl, rfl, trivial⟩
  · refine RO_sub ?_ (rb_Model_laysDay_279 k75 H75 v1 mem)
    exact ⟨rfl, rfl, trivial⟩
def lp_Model_laysDay_233  (k75 : Int → Mm → Res) : Nat → Int → Int → Mm → Res
  | 0 => fun _ _ _ => none
  | n + 1 => bo_Model_laysDay_233  k75 (lp_Model_laysDay_233  k75 n)
theorem rp_Model_laysDay_233 {E : EE}   (k75 : Int → Mm → Res) (H75 : ∀ (v1 : Int)  (mem : Mm), RO E mt_Model_laysDay (k75 v1 mem) 75 [(0, rf 203), (1, vi v1)] [] mem) : ∀ (n : Nat) (v1 : Int) (v2 : Int)  (mem : Mm), RO E mt_Model_laysDay (lp_Model_laysDay_233  k75 n v1 v2 mem) 233 [(0, rf 203), (1, vi v1), (2, vi v2)] [] mem := by
  intro n
  induction n with
  | zero => intro v1 v2  mem; exact RO_none
  | succ n ih => intro v1 v2  mem; exact rb_Model_laysDay_233   k75 (lp_Model_laysDay_233  k75 n) H75 ih v1 v2  mem
def bo_Model_laysDay_231  (k75 : Int → Mm → Res) (v1 : Int) (mem : Mm) : Res := lp_Model_laysDay_233 k75 FU v1 0 mem
set_option maxHeartbeats 4000000 in
theorem rb_Model_laysDay_231 {E : EE}   (k75 : Int → Mm → Res) (H75 : ∀ (v1 : Int)  (mem : Mm), RO E mt_Model_laysDay (k75 v1 mem) 75 [(0, rf 203), (1, vi v1)] [] mem) (v1 : Int)  (mem : Mm) : RO E mt_Model_laysDay (bo_Model_laysDay_231  k75 v1 mem) 231 [(0, rf 203), (1, vi v1)] [] mem := by
  unfold bo_Model_laysDay_231
  refine RO_iconst dc_Model_laysDay_231 ?_
  refine RO_istore_n dc_Model_laysDay_232 rfl (Nat.le_of_ble_eq_true rfl) ?_
  refine RO_sub ?_ (rp_Model_laysDay_233 k75 H75 FU v1 0 mem)
  exact ⟨rfl, rfl, rfl, trivial⟩
def bo_Model_laysDay_225  (k75 : Int → Mm → Res) (k133 : Int → Int → Mm → Res) (v1 : Int) (v2 : Int) (mem : Mm) : Res := k133 v1 (w32 (v2 + 1)) mem
set_option maxHeartbeats 4000000 in
theorem rb_Model_laysDay_225 {E : EE}   (k75 : Int → Mm → Res) (k133 : Int → Int → Mm → Res) (H75 : ∀ (v1 : Int)  (mem : Mm), RO E mt_Model_laysDay (k75 v1 mem) 75 [(0, rf 203), (1, vi v1)] [] mem) (H133 : ∀ (v1 : Int) (v2 : Int)  (mem : Mm), RO E mt_Model_laysDay (k133 v1 v2 mem) 133 [(0, rf 203), (1, vi v1), (2, vi v2)] [] mem) (v1 : Int) (v2 : Int)  (mem : Mm) : RO E mt_Model_laysDay (bo_Model_laysDay_225  k75 k133 v1 v2 mem) 225 [(0, rf 203), (1, vi v1), (2, vi v2)] [] mem := by
  unfold bo_Model_laysDay_225
  refine RO_iinc dc_Model_laysDay_225 rfl (Nat.le_of_ble_eq_true rfl) ?_
  refine RO_goto (tgt := 133) dc_Model_laysDay_228 rfl ?_
  refine RO_sub ?_ (H133 v1 (w32 (v2 + 1)) mem)
  exact ⟨rfl, rfl, rfl, trivial⟩
def bo_Model_laysDay_224  (k75 : Int → Mm → Res) (k133 : Int → Int → Mm → Res) (v1 : Int) (v2 : Int) (s1 : Int) (s2 : Int) (mem : Mm) : Res := if 0 ≤ s1 ∧ s1 < 6 then if s2 = 0 ∨ s2 = 1 then bn (mst mem 254 s1.toNat s2) fun m3 => bo_Model_laysDay_225 k75 k133 v1 v2 m3 else none else none
set_option maxHeartbeats 4000000 in
theorem rb_Model_laysDay_224 {E : EE}   (k75 : Int → Mm → Res) (k133 : Int → Int → Mm → Res) (H75 : ∀ (v1 : Int)  (mem : Mm), RO E mt_Model_laysDay (k75 v1 mem) 75 [(0, rf 203), (1, vi v1)] [] mem) (H133 : ∀ (v1 : Int) (v2 : Int)  (mem : Mm), RO E mt_Model_laysDay (k133 v1 v2 mem) 133 [(0, rf 203), (1, vi v1), (2, vi v2)] [] mem) (v1 : Int) (v2 : Int) (s1 : Int) (s2 : Int)  (mem : Mm) : RO E mt_Model_laysDay (bo_Model_laysDay_224  k75 k133 v1 v2 s1 s2 mem) 224 [(0, rf 203), (1, vi v1), (2, vi v2)] [vi s2, vi s1, rf 254] mem := by
  unfold bo_Model_laysDay_224
  refine RO_chk (fun hi1 => ?_)
  refine RO_chk (fun hz2 => ?_)
  refine RO_zs lk_254 hi1 hz2 dc_Model_laysDay_224 ?_
  refine RO_bnM (fun m3 => ?_)
  refine RO_sub ?_ (rb_Model_laysDay_225 k75 k133 H75 H133 v1 v2 m3)
  exact ⟨rfl, rfl, rfl, trivial⟩
def bo_Model_laysDay_219  (k75 : Int → Mm → Res) (k133 : Int → Int → Mm → Res) (v1 : Int) (v2 : Int) (s1 : Int) (mem : Mm) : Res := bo_Model_laysDay_224 k75 k133 v1 v2 s1 1 mem
set_option maxHeartbeats 4000000 in
theorem rb_Model_laysDay_219 {E : EE}   (k75 : Int → Mm → Res) (k133 : Int → Int → Mm → Res) (H75 : ∀ (v1 : Int)  (mem : Mm), RO E mt_Model_laysDay (k75 v1 mem) 75 [(0, rf 203), (1, vi v1)] [] mem) (H133 : ∀ (v1 : Int) (v2 : Int)  (mem : Mm), RO E mt_Model_laysDay (k133 v1 v2 mem) 133 [(0, rf 203), (1, vi v1), (2, vi v2)] [] mem) (v1 : Int) (v2 : Int) (s1 : Int)  (mem : Mm) : RO E mt_Model_laysDay (bo_Model_laysDay_219  k75 k133 v1 v2 s1 mem) 219 [(0, rf 203), (1, vi v1), (2, vi v2)] [vi s1, rf 254] mem := by
  unfold bo_Model_laysDay_219
  refine RO_iconst dc_Model_laysDay_219 ?_
  refine RO_goto (tgt := 224) dc_Model_laysDay_220 rfl ?_
  refine RO_sub ?_ (rb_Model_laysDay_224 k75 k133 H75 H133 v1 v2 s1 1 mem)
  exact ⟨rfl, rfl, rfl, trivial⟩
def bo_Model_laysDay_133  (k75 : Int → Mm → Res) (k133 : Int → Int → Mm → Res) (v1 : Int) (v2 : Int) (mem : Mm) : Res := if v2 < (mem 205 (1 : Int).toNat) then (if 0 ≤ w32 ((w32 (240 * v2)) + v1) ∧ w32 ((w32 (240 * v2)) + v1) < 1440 then bn (mem 251 (w32 ((w32 (240 * v2)) + v1)).toNat) fun x2 => if x2 < 0 then (bo_Model_laysDay_225 k75 k133 v1 v2 mem) else (if 0 ≤ w32 ((w32 (6 * v2)) + x2) ∧ w32 ((w32 (6 * v2)) + x2) < 72 then if (mem 216 (w32 ((w32 (6 * v2)) + x2)).toNat) = 0 then (bo_Model_laysDay_225 k75 k133 v1 v2 mem) else (if 0 ≤ v2 ∧ v2 < 6 then if (mem 254 v2.toNat) = 0 then (if 0 ≤ w32 ((w32 (6 * v2)) + x2) ∧ w32 ((w32 (6 * v2)) + x2) < 72 then if 0 ≤ w32 ((w32 (240 * (w32 ((mem 216 (w32 ((w32 (6 * v2)) + x2)).toNat) - 1)))) + v1) ∧ w32 ((w32 (240 * (w32 ((mem 216 (w32 ((w32 (6 * v2)) + x2)).toNat) - 1)))) + v1) < 1440 then if (mem 251 (w32 ((w32 (240 * (w32 ((mem 216 (w32 ((w32 (6 * v2)) + x2)).toNat) - 1)))) + v1)).toNat) = x2 then (bo_Model_laysDay_219 k75 k133 v1 v2 v2 mem) else (bo_Model_laysDay_224 k75 k133 v1 v2 v2 0 mem) else none else none) else (bo_Model_laysDay_219 k75 k133 v1 v2 v2 mem) else none) else none) else none) else (bo_Model_laysDay_231 k75 v1 mem)
set_option maxHeartbeats 4000000 in
theorem rb_Model_laysDay_133 {E : EE}   (k75 : Int → Mm → Res) (k133 : Int → Int → Mm → Res) (H75 : ∀ (v1 : Int)  (mem : Mm), RO E mt_Model_laysDay (k75 v1 mem) 75 [(0, rf 203), (1, vi v1)] [] mem) (H133 : ∀ (v1 : Int) (v2 : Int)  (mem : Mm), RO E mt_Model_laysDay (k133 v1 v2 mem) 133 [(0, rf 203), (1, vi v1), (2, vi v2)] [] mem) (v1 : Int) (v2 : Int)  (mem : Mm) : RO E mt_Model_laysDay (bo_Model_laysDay_133  k75 k133 v1 v2 mem) 133 [(0, rf 203), (1, vi v1), (2, vi v2)] [] mem := by
  unfold bo_Model_laysDay_133
  refine RO_iload_n dc_Model_laysDay_133 rfl rfl ?_
  refine RO_aload_n dc_Model_laysDay_134 rfl rfl ?_
  refine RO_getR (b := 205) gf_Model_13 lk_203 rfl dc_Model_laysDay_135 ?_
  refine RO_iconst dc_Model_laysDay_138 ?_
  refine RO_ia lk_205 ⟨by decide, by decide⟩ dc_Model_laysDay_139 ?_
  refine RO_icmp_ge (tgt := 231) dc_Model_laysDay_140 rfl ?_ ?_
  · refine RO_aload_n dc_Model_laysDay_143 rfl rfl ?_
    refine RO_getR (b := 251) gf_Model_153 lk_203 rfl dc_Model_laysDay_144 ?_
    refine RO_sipush dc_Model_laysDay_147 ?_
    refine RO_iload_n dc_Model_laysDay_150 rfl rfl ?_
    refine RO_imul dc_Model_laysDay_151 ?_
    refine RO_iload_n dc_Model_laysDay_152 rfl rfl ?_
    refine RO_iadd dc_Model_laysDay_153 ?_
    refine RO_chk (fun hi1 => ?_)
    refine RO_ia lk_251 hi1 dc_Model_laysDay_154 ?_
    refine RO_bnT (fun x2 => ?_)
    refine RO_istore_n dc_Model_laysDay_155 rfl (Nat.le_of_ble_eq_true rfl) ?_
    refine RO_iload_n dc_Model_laysDay_156 rfl rfl ?_
    refine RO_if_lt (tgt := 225) dc_Model_laysDay_157 rfl ?_ ?_
    · refine RO_sub ?_ (rb_Model_laysDay_225 k75 k133 H75 H133 v1 v2 mem)
      exact ⟨rfl, rfl, rfl, trivial⟩
    · refine RO_aload_n dc_Model_laysDay_160 rfl rfl ?_
      refine RO_getR (b := 216) gf_Model_47 lk_203 rfl dc_Model_laysDay_161 ?_
      refine RO_bipush dc_Model_laysDay_164 ?_
      refine RO_iload_n dc_Model_laysDay_166 rfl rfl ?_
      refine RO_imul dc_Model_laysDay_167 ?_
      refine RO_iload_n dc_Model_laysDay_168 rfl rfl ?_
      refine RO_iadd dc_Model_laysDay_169 ?_
      refine RO_chk (fun hi3 => ?_)
      refine RO_ia lk_216 hi3 dc_Model_laysDay_170 ?_
      refine RO_if_ne (tgt := 177) dc_Model_laysDay_171 rfl ?_ ?_
      · refine RO_goto (tgt := 225) dc_Model_laysDay_174 rfl ?_
        refine RO_sub ?_ (rb_Model_laysDay_225 k75 k133 H75 H133 v1 v2 mem)
        exact ⟨rfl, rfl, rfl, trivial⟩
      · refine RO_aload_n dc_Model_laysDay_177 rfl rfl ?_
        refine RO_getR (b := 254) gf_Model_162 lk_203 rfl dc_Model_laysDay_178 ?_
        refine RO_iload_n dc_Model_laysDay_181 rfl rfl ?_
        refine RO_aload_n dc_Model_laysDay_182 rfl rfl ?_
        refine RO_getR (b := 254) gf_Model_162 lk_203 rfl dc_Model_laysDay_183 ?_
        refine RO_iload_n dc_Model_laysDay_186 rfl rfl ?_
        refine RO_chk (fun hi4 => ?_)
        refine RO_za lk_254 hi4 dc_Model_laysDay_187 ?_
        refine RO_if_ne (tgt := 219) dc_Model_laysDay_188 rfl ?_ ?_
        · refine RO_aload_n dc_Model_laysDay_191 rfl rfl ?_
          refine RO_getR (b := 251) gf_Model_153 lk_203 rfl dc_Model_laysDay_192 ?_
          refine RO_sipush dc_Model_laysDay_195 ?_
          refine RO_aload_n dc_Model_laysDay_198 rfl rfl ?_
          refine RO_getR (b := 216) gf_Model_47 lk_203 rfl dc_Model_laysDay_199 ?_
          refine RO_bipush dc_Model_laysDay_202 ?_
          refine RO_iload_n dc_Model_laysDay_204 rfl rfl ?_
          refine RO_imul dc_Model_laysDay_205 ?_
          refine RO_iload_n dc_Model_laysDay_206 rfl rfl ?_
          refine RO_iadd dc_Model_laysDay_207 ?_
          refine RO_chk (fun hi5 => ?_)
          refine RO_ia lk_216 hi5 dc_Model_laysDay_208 ?_
          refine RO_iconst dc_Model_laysDay_209 ?_
          refine RO_isub dc_Model_laysDay_210 ?_
          refine RO_imul dc_Model_laysDay_211 ?_
          refine RO_iload_n dc_Model_laysDay_212 rfl rfl ?_
          refine RO_iadd dc_Model_laysDay_213 ?_
          refine RO_chk (fun hi6 => ?_)
          refine RO_ia lk_251 hi6 dc_Model_laysDay_214 ?_
          refine RO_iload_n dc_Model_laysDay_215 rfl rfl ?_
          refine RO_icmp_ne (tgt := 223) dc_Model_laysDay_216 rfl ?_ ?_
          · refine RO_sub ?_ (rb_Model_laysDay_219 k75 k133 H75 H133 v1 v2 v2 mem)
            exact ⟨rfl, rfl, rfl, trivial⟩
          · refine RO_iconst dc_Model_laysDay_223 ?_
            refine RO_sub ?_ (rb_Model_laysDay_224 k75 k133 H75 H133 v1 v2 v2 0 mem)
            exact ⟨rfl, rfl, rfl, trivial⟩
        · refine RO_sub ?_ (rb_Model_laysDay_219 k75 k133 H75 H133 v1 v2 v2 mem)
          exact ⟨rfl, rfl, rfl, trivial⟩
  · refine RO_sub ?_ (rb_Model_laysDay_231 k75 H75 v1 mem)
    exact ⟨rfl, rfl, trivial⟩
def lp_Model_laysDay_133  (k75 : Int → Mm → Res) : Nat → Int → Int → Mm → Res
  | 0 => fun _ _ _ => none
  | n + 1 => bo_Model_laysDay_133  k75 (lp_Model_laysDay_133  k75 n)
theorem rp_Model_laysDay_133 {E : EE}   (k75 : Int → Mm → Res) (H75 : ∀ (v1 : Int)  (mem : Mm), RO E mt_Model_laysDay (k75 v1 mem) 75 [(0, rf 203), (1, vi v1)] [] mem) : ∀ (n : Nat) (v1 : Int) (v2 : Int)  (mem : Mm), RO E mt_Model_laysDay (lp_Model_laysDay_133  k75 n v1 v2 mem) 133 [(0, rf 203), (1, vi v1), (2, vi v2)] [] mem := by
  intro n
  induction n with
  | zero => intro v1 v2  mem; exact RO_none
  | succ n ih => intro v1 v2  mem; exact rb_Model_laysDay_133   k75 (lp_Model_laysDay_133  k75 n) H75 ih v1 v2  mem
def bo_Model_laysDay_131  (k75 : Int → Mm → Res) (v1 : Int) (mem : Mm) : Res := lp_Model_laysDay_133 k75 FU v1 0 mem
set_option maxHeartbeats 4000000 in
theorem rb_Model_laysDay_131 {E : EE}   (k75 : Int → Mm → Res) (H75 : ∀ (v1 : Int)  (mem : Mm), RO E mt_Model_laysDay (k75 v1 mem) 75 [(0, rf 203), (1, vi v1)] [] mem) (v1 : Int)  (mem : Mm) : RO E mt_Model_laysDay (bo_Model_laysDay_131  k75 v1 mem) 131 [(0, rf 203), (1, vi v1)] [] mem := by
  unfold bo_Model_laysDay_131
  refine RO_iconst dc_Model_laysDay_131 ?_
  refine RO_istore_n dc_Model_laysDay_132 rfl (Nat.le_of_ble_eq_true rfl) ?_
  refine RO_sub ?_ (rp_Model_laysDay_133 k75 H75 FU v1 0 mem)
  exact ⟨rfl, rfl, rfl, trivial⟩
def bo_Model_laysDay_124  (k75 : Int → Mm → Res) (k84 : Int → Int → Mm → Res) (v1 : Int) (v2 : Int) (s1 : Int) (s2 : Int) (mem : Mm) : Res := if 0 ≤ s1 ∧ s1 < 1440 then bn (mst mem 251 s1.toNat s2) fun m2 => k84 v1 (w32 (v2 + 1)) m2 else none
set_option maxHeartbeats 4000000 in
theorem rb_Model_laysDay_124 {E : EE}   (k75 : Int → Mm → Res) (k84 : Int → Int → Mm → Res) (H75 : ∀ (v1 : Int)  (mem : Mm), RO E mt_Model_laysDay (k75 v1 mem) 75 [(0, rf 203), (1, vi v1)] [] mem) (H84 : ∀ (v1 : Int) (v2 : Int)  (mem : Mm), RO E mt_Model_laysDay (k84 v1 v2 mem) 84 [(0, rf 203), (1, vi v1), (2, vi v2)] [] mem) (v1 : Int) (v2 : Int) (s1 : Int) (s2 : Int)  (mem : Mm) : RO E mt_Model_laysDay (bo_Model_laysDay_124  k75 k84 v1 v2 s1 s2 mem) 124 [(0, rf 203), (1, vi v1), (2, vi v2)] [vi s2, vi s1, rf 251] mem := by
  unfold bo_Model_laysDay_124
  refine RO_chk (fun hi1 => ?_)
  refine RO_is lk_251 hi1 dc_Model_laysDay_124 ?_
  refine RO_bnM (fun m2 => ?_)
  refine RO_iinc dc_Model_laysDay_125 rfl (Nat.le_of_ble_eq_true rfl) ?_
  refine RO_goto (tgt := 84) dc_Model_laysDay_128 rfl ?_
  refine RO_sub ?_ (H84 v1 (w32 (v2 + 1)) m2)
  exact ⟨rfl, rfl, rfl, trivial⟩
def bo_Model_laysDay_84  (k75 : Int → Mm → Res) (k84 : Int → Int → Mm → Res) (v1 : Int) (v2 : Int) (mem : Mm) : Res := if v2 < (mem 205 (1 : Int).toNat) then (if 0 ≤ v2 ∧ v2 < 6 then if v1 < (mem 253 v2.toNat) then (bo_Model_laysDay_124 k75 k84 v1 v2 (w32 ((w32 (240 * v2)) + v1)) (-1) mem) else (bd (fn_Model_placeIn v2 mem) fun r2 m3 => bo_Model_laysDay_124 k75 k84 v1 v2 (w32 ((w32 (240 * v2)) + v1)) r2 m3) else none) else (bo_Model_laysDay_131 k75 v1 mem)
set_option maxHeartbeats 4000000 in
theorem rb_Model_laysDay_84 {E : EE}   (k75 : Int → Mm → Res) (k84 : Int → Int → Mm → Res) (H75 : ∀ (v1 : Int)  (mem : Mm), RO E mt_Model_laysDay (k75 v1 mem) 75 [(0, rf 203), (1, vi v1)] [] mem) (H84 : ∀ (v1 : Int) (v2 : Int)  (mem : Mm), RO E mt_Model_laysDay (k84 v1 v2 mem) 84 [(0, rf 203), (1, vi v1), (2, vi v2)] [] mem) (v1 : Int) (v2 : Int)  (mem : Mm) : RO E mt_Model_laysDay (bo_Model_laysDay_84  k75 k84 v1 v2 mem) 84 [(0, rf 203), (1, vi v1), (2, vi v2)] [] mem := by
  unfold bo_Model_laysDay_84
  refine RO_iload_n dc_Model_laysDay_84 rfl rfl ?_
  refine RO_aload_n dc_Model_laysDay_85 rfl rfl ?_
  refine RO_getR (b := 205) gf_Model_13 lk_203 rfl dc_Model_laysDay_86 ?_
  refine RO_iconst dc_Model_laysDay_89 ?_
  refine RO_ia lk_205 ⟨by decide, by decide⟩ dc_Model_laysDay_90 ?_
  refine RO_icmp_ge (tgt := 131) dc_Model_laysDay_91 rfl ?_ ?_
  · refine RO_aload_n dc_Model_laysDay_94 rfl rfl ?_
    refine RO_getR (b := 251) gf_Model_153 lk_203 rfl dc_Model_laysDay_95 ?_
    refine RO_sipush dc_Model_laysDay_98 ?_
    refine RO_iload_n dc_Model_laysDay_101 rfl rfl ?_
    refine RO_imul dc_Model_laysDay_102 ?_
    refine RO_iload_n dc_Model_laysDay_103 rfl rfl ?_
    refine RO_iadd dc_Model_laysDay_104 ?_
    refine RO_aload_n dc_Model_laysDay_105 rfl rfl ?_
    refine RO_getR (b := 253) gf_Model_159 lk_203 rfl dc_Model_laysDay_106 ?_
    refine RO_iload_n dc_Model_laysDay_109 rfl rfl ?_
    refine RO_chk (fun hi1 => ?_)
    refine RO_ia lk_253 hi1 dc_Model_laysDay_110 ?_
    refine RO_iload_n dc_Model_laysDay_111 rfl rfl ?_
    refine RO_icmp_gt (tgt := 123) dc_Model_laysDay_112 rfl ?_ ?_
    · refine RO_iconst dc_Model_laysDay_123 ?_
      refine RO_sub ?_ (rb_Model_laysDay_124 k75 k84 H75 H84 v1 v2 (w32 ((w32 (240 * v2)) + v1)) (-1) mem)
      exact ⟨rfl, rfl, rfl, trivial⟩
    · refine RO_aload_n dc_Model_laysDay_115 rfl rfl ?_
      refine RO_iload_n dc_Model_laysDay_116 rfl rfl ?_
      refine RO_callVi (As := [vi v2]) (rest := [vi (w32 ((w32 (240 * v2)) + v1)), rf 251]) mi_Model_placeIn mv_Model_placeIn ml_Model_436 lk_203 (Nat.le_of_ble_eq_true rfl) rfl (Nat.le_of_ble_eq_true rfl) (fun _ => rfl) dc_Model_laysDay_117 (fun rq mq hq => pf_Model_placeIn v2  mem hq) (fun r2 m3 => ?_)
      refine RO_goto (tgt := 124) dc_Model_laysDay_120 rfl ?_
      refine RO_sub ?_ (rb_Model_laysDay_124 k75 k84 H75 H84 v1 v2 (w32 ((w32 (240 * v2)) + v1)) r2 m3)
      exact ⟨rfl, rfl, rfl, trivial⟩
  · refine RO_sub ?_ (rb_Model_laysDay_131 k75 H75 v1 mem)
    exact ⟨rfl, rfl, trivial⟩
def lp_Model_laysDay_84  (k75 : Int → Mm → Res) : Nat → Int → Int → Mm → Res
  | 0 => fun _ _ _ => none
  | n + 1 => bo_Model_laysDay_84  k75 (lp_Model_laysDay_84  k75 n)
theorem rp_Model_laysDay_84 {E : EE}   (k75 : Int → Mm → Res) (H75 : ∀ (v1 : Int)  (mem : Mm), RO E mt_Model_laysDay (k75 v1 mem) 75 [(0, rf 203), (1, vi v1)] [] mem) : ∀ (n : Nat) (v1 : Int) (v2 : Int)  (mem : Mm), RO E mt_Model_laysDay (lp_Model_laysDay_84  k75 n v1 v2 mem) 84 [(0, rf 203), (1, vi v1), (2, vi v2)] [] mem := by
  intro n
  induction n with
  | zero => intro v1 v2  mem; exact RO_none
  | succ n ih => intro v1 v2  mem; exact rb_Model_laysDay_84   k75 (lp_Model_laysDay_84  k75 n) H75 ih v1 v2  mem
def bo_Model_laysDay_75  (k75 : Int → Mm → Res) (v1 : Int) (mem : Mm) : Res := if v1 < 240 then (lp_Model_laysDay_84 k75 FU v1 0 mem) else (some (0, mem))
set_option maxHeartbeats 4000000 in
theorem rb_Model_laysDay_75 {E : EE}   (k75 : Int → Mm → Res) (H75 : ∀ (v1 : Int)  (mem : Mm), RO E mt_Model_laysDay (k75 v1 mem) 75 [(0, rf 203), (1, vi v1)] [] mem) (v1 : Int)  (mem : Mm) : RO E mt_Model_laysDay (bo_Model_laysDay_75  k75 v1 mem) 75 [(0, rf 203), (1, vi v1)] [] mem := by
  unfold bo_Model_laysDay_75
  refine RO_iload_n dc_Model_laysDay_75 rfl rfl ?_
  refine RO_sipush dc_Model_laysDay_76 ?_
  refine RO_icmp_ge (tgt := 285) dc_Model_laysDay_79 rfl ?_ ?_
  · refine RO_iconst dc_Model_laysDay_82 ?_
    refine RO_istore_n dc_Model_laysDay_83 rfl (Nat.le_of_ble_eq_true rfl) ?_
    refine RO_sub ?_ (rp_Model_laysDay_84 k75 H75 FU v1 0 mem)
    exact ⟨rfl, rfl, rfl, trivial⟩
  · exact RO_vret rfl dc_Model_laysDay_285
def lp_Model_laysDay_75   : Nat → Int → Mm → Res
  | 0 => fun _ _ => none
  | n + 1 => bo_Model_laysDay_75   (lp_Model_laysDay_75   n)
theorem rp_Model_laysDay_75 {E : EE}     : ∀ (n : Nat) (v1 : Int)  (mem : Mm), RO E mt_Model_laysDay (lp_Model_laysDay_75   n v1 mem) 75 [(0, rf 203), (1, vi v1)] [] mem := by
  intro n
  induction n with
  | zero => intro v1  mem; exact RO_none
  | succ n ih => intro v1  mem; exact rb_Model_laysDay_75    (lp_Model_laysDay_75   n)  ih v1  mem
def bo_Model_laysDay_73    (mem : Mm) : Res := lp_Model_laysDay_75 FU 0 mem
set_option maxHeartbeats 4000000 in
theorem rb_Model_laysDay_73 {E : EE}       (mem : Mm) : RO E mt_Model_laysDay (bo_Model_laysDay_73    mem) 73 [(0, rf 203)] [] mem := by
  unfold bo_Model_laysDay_73
  refine RO_iconst dc_Model_laysDay_73 ?_
  refine RO_istore_n dc_Model_laysDay_74 rfl (Nat.le_of_ble_eq_true rfl) ?_
  refine RO_sub ?_ (rp_Model_laysDay_75 FU 0 mem)
  exact ⟨rfl, rfl, trivial⟩
def bo_Model_laysDay_59  (k2 : Int → Mm → Res) (v1 : Int) (s1 : Int) (s2 : Int) (mem : Mm) : Res := if 0 ≤ s1 ∧ s1 < 6 then bn (mst mem 253 s1.toNat s2) fun m2 => if 0 ≤ v1 ∧ v1 < 6 then bn (mst m2 254 v1.toNat 0) fun m4 => k2 (w32 (v1 + 1)) m4 else none else none
set_option maxHeartbeats 4000000 in
theorem rb_Model_laysDay_59 {E : EE}   (k2 : Int → Mm → Res) (H2 : ∀ (v1 : Int)  (mem : Mm), RO E mt_Model_laysDay (k2 v1 mem) 2 [(0, rf 203), (1, vi v1)] [] mem) (v1 : Int) (s1 : Int) (s2 : Int)  (mem : Mm) : RO E mt_Model_laysDay (bo_Model_laysDay_59  k2 v1 s1 s2 mem) 59 [(0, rf 203), (1, vi v1)] [vi s2, vi s1, rf 253] mem := by
  unfold bo_Model_laysDay_59
  refine RO_chk (fun hi1 => ?_)
  refine RO_is lk_253 hi1 dc_Model_laysDay_59 ?_
  refine RO_bnM (fun m2 => ?_)
  refine RO_aload_n dc_Model_laysDay_60 rfl rfl ?_
  refine RO_getR (b := 254) gf_Model_162 lk_203 rfl dc_Model_laysDay_61 ?_
  refine RO_iload_n dc_Model_laysDay_64 rfl rfl ?_
  refine RO_iconst dc_Model_laysDay_65 ?_
  refine RO_chk (fun hi3 => ?_)
  refine RO_zs lk_254 hi3 (Or.inl rfl) dc_Model_laysDay_66 ?_
  refine RO_bnM (fun m4 => ?_)
  refine RO_iinc dc_Model_laysDay_67 rfl (Nat.le_of_ble_eq_true rfl) ?_
  refine RO_goto (tgt := 2) dc_Model_laysDay_70 rfl ?_
  refine RO_sub ?_ (H2 (w32 (v1 + 1)) m4)
  exact ⟨rfl, rfl, trivial⟩
def bo_Model_laysDay_2  (k2 : Int → Mm → Res) (v1 : Int) (mem : Mm) : Res := if v1 < (mem 205 (1 : Int).toNat) then (if 0 ≤ v1 ∧ v1 < 6 then bn (mst mem 252 v1.toNat 0) fun m2 => if (iand (ishr (m2 245 (2 : Int).toNat) v1) 1) = 1 then (if 0 ≤ v1 ∧ v1 < 12 then if 0 ≤ w32 (4 + v1) ∧ w32 (4 + v1) < 16 then bo_Model_laysDay_59 k2 v1 v1 (w32 ((m2 211 v1.toNat) + (m2 245 (w32 (4 + v1)).toNat))) m2 else none else none) else (bo_Model_laysDay_59 k2 v1 v1 100000 m2) else none) else (bo_Model_laysDay_73 mem)
set_option maxHeartbeats 4000000 in
theorem rb_Model_laysDay_2 {E : EE}   (k2 : Int → Mm → Res) (H2 : ∀ (v1 : Int)  (mem : Mm), RO E mt_Model_laysDay (k2 v1 mem) 2 [(0, rf 203), (1, vi v1)] [] mem) (v1 : Int)  (mem : Mm) : RO E mt_Model_laysDay (bo_Model_laysDay_2  k2 v1 mem) 2 [(0, rf 203), (1, vi v1)] [] mem := by
  unfold bo_Model_laysDay_2
  refine RO_iload_n dc_Model_laysDay_2 rfl rfl ?_
  refine RO_aload_n dc_Model_laysDay_3 rfl rfl ?_
  refine RO_getR (b := 205) gf_Model_13 lk_203 rfl dc_Model_laysDay_4 ?_
  refine RO_iconst dc_Model_laysDay_7 ?_
  refine RO_ia lk_205 ⟨by decide, by decide⟩ dc_Model_laysDay_8 ?_
  refine RO_icmp_ge (tgt := 73) dc_Model_laysDay_9 rfl ?_ ?_
  · refine RO_aload_n dc_Model_laysDay_12 rfl rfl ?_
    refine RO_getR (b := 252) gf_Model_156 lk_203 rfl dc_Model_laysDay_13 ?_
    refine RO_iload_n dc_Model_laysDay_16 rfl rfl ?_
    refine RO_iconst dc_Model_laysDay_17 ?_
    refine RO_chk (fun hi1 => ?_)
    refine RO_is lk_252 hi1 dc_Model_laysDay_18 ?_
    refine RO_bnM (fun m2 => ?_)
    refine RO_aload_n dc_Model_laysDay_19 rfl rfl ?_
    refine RO_getR (b := 253) gf_Model_159 lk_203 rfl dc_Model_laysDay_20 ?_
    refine RO_iload_n dc_Model_laysDay_23 rfl rfl ?_
    refine RO_aload_n dc_Model_laysDay_24 rfl rfl ?_
    refine RO_getR (b := 245) gf_Model_135 lk_203 rfl dc_Model_laysDay_25 ?_
    refine RO_iconst dc_Model_laysDay_28 ?_
    refine RO_ia lk_245 ⟨by decide, by decide⟩ dc_Model_laysDay_29 ?_
    refine RO_iload_n dc_Model_laysDay_30 rfl rfl ?_
    refine RO_ishr dc_Model_laysDay_31 ?_
    refine RO_iconst dc_Model_laysDay_32 ?_
    refine RO_iand dc_Model_laysDay_33 ?_
    refine RO_iconst dc_Model_laysDay_34 ?_
    refine RO_icmp_ne (tgt := 56) dc_Model_laysDay_35 rfl ?_ ?_
    · refine RO_aload_n dc_Model_laysDay_38 rfl rfl ?_
      refine RO_getR (b := 211) gf_Model_32 lk_203 rfl dc_Model_laysDay_39 ?_
      refine RO_iload_n dc_Model_laysDay_42 rfl rfl ?_
      refine RO_chk (fun hi3 => ?_)
      refine RO_ia lk_211 hi3 dc_Model_laysDay_43 ?_
      refine RO_aload_n dc_Model_laysDay_44 rfl rfl ?_
      refine RO_getR (b := 245) gf_Model_135 lk_203 rfl dc_Model_laysDay_45 ?_
      refine RO_iconst dc_Model_laysDay_48 ?_
      refine RO_iload_n dc_Model_laysDay_49 rfl rfl ?_
      refine RO_iadd dc_Model_laysDay_50 ?_
      refine RO_chk (fun hi4 => ?_)
      refine RO_ia lk_245 hi4 dc_Model_laysDay_51 ?_
      refine RO_iadd dc_Model_laysDay_52 ?_
      refine RO_goto (tgt := 59) dc_Model_laysDay_53 rfl ?_
      refine RO_sub ?_ (rb_Model_laysDay_59 k2 H2 v1 v1 (w32 ((m2 211 v1.toNat) + (m2 245 (w32 (4 + v1)).toNat))) m2)
      exact ⟨rfl, rfl, trivial⟩
    · refine RO_ldcw (x := 100000) c1_Model_426 ⟨by decide, ⟨by decide, by decide⟩⟩ dc_Model_laysDay_56 ?_
      refine RO_sub ?_ (rb_Model_laysDay_59 k2 H2 v1 v1 100000 m2)
      exact ⟨rfl, rfl, trivial⟩
  · refine RO_sub ?_ (rb_Model_laysDay_73 mem)
    exact ⟨rfl, trivial⟩
def lp_Model_laysDay_2   : Nat → Int → Mm → Res
  | 0 => fun _ _ => none
  | n + 1 => bo_Model_laysDay_2   (lp_Model_laysDay_2   n)
theorem rp_Model_laysDay_2 {E : EE}     : ∀ (n : Nat) (v1 : Int)  (mem : Mm), RO E mt_Model_laysDay (lp_Model_laysDay_2   n v1 mem) 2 [(0, rf 203), (1, vi v1)] [] mem := by
  intro n
  induction n with
  | zero => intro v1  mem; exact RO_none
  | succ n ih => intro v1  mem; exact rb_Model_laysDay_2    (lp_Model_laysDay_2   n)  ih v1  mem
def fn_Model_laysDay  (mem : Mm) : Res := lp_Model_laysDay_2 FU 0 mem
set_option maxHeartbeats 4000000 in
theorem pf_Model_laysDay {E : EE}   (mem : Mm) {r : Int} {mem9 : Mm} (h : fn_Model_laysDay  mem = some (r, mem9)) : MetX E 4 yn_Model_laysDay cd_Model_laysDay 4 none [rf 203] mem r mem9 := by
  refine RO_met (y := yn_Model_laysDay) (by decide +kernel) (Nat.le_of_ble_eq_true rfl) ?_ h
  show RO E mt_Model_laysDay (fn_Model_laysDay  mem) 0 [(0, rf 203)] [] mem
  unfold fn_Model_laysDay
  refine RO_iconst dc_Model_laysDay_0 ?_
  refine RO_istore_n dc_Model_laysDay_1 rfl (Nat.le_of_ble_eq_true rfl) ?_
  refine RO_sub ?_ (rp_Model_laysDay_2 FU 0 mem)
  exact ⟨rfl, rfl, trivial⟩
def bo_Model_costOf_72 (p1 : Int)  (v4 : Int) (mem : Mm) : Res := bd (fn_Model_between v4 0 999 mem) fun r1 m2 => some (r1, m2)
set_option maxHeartbeats 4000000 in
theorem rb_Model_costOf_72 {E : EE} (p1 : Int)    (v4 : Int)  (mem : Mm) : RO E mt_Model_costOf (bo_Model_costOf_72 p1  v4 mem) 72 [(4, vi v4)] [] mem := by
  unfold bo_Model_costOf_72
  refine RO_iload dc_Model_costOf_72 rfl ?_
  refine RO_iconst dc_Model_costOf_74 ?_
  refine RO_sipush dc_Model_costOf_75 ?_
  refine RO_callSi (As := [vi v4, vi 0, vi 999]) (rest := []) mi_Model_between ms_Model_between ml_Model_463 (Nat.le_of_ble_eq_true rfl) rfl (Nat.le_of_ble_eq_true rfl) (fun _ => rfl) dc_Model_costOf_78 (fun rq mq hq => pf_Model_between v4 0 999  mem hq) (fun r1 m2 => ?_)
  exact RO_iret rfl dc_Model_costOf_81
def bo_Model_costOf_52 (p1 : Int)  (s1 : Int) (s2 : Int) (mem : Mm) : Res := if 0 ≤ s1 ∧ s1 < 20 then bn (mst mem 235 s1.toNat s2) fun m2 => bn (mst m2 235 (3 : Int).toNat (m2 245 (0 : Int).toNat)) fun m3 => bd (fn_Model_worked 0 m3) fun r4 m5 => bo_Model_costOf_72 p1 r4 m5 else none
set_option maxHeartbeats 4000000 in
theorem rb_Model_costOf_52 {E : EE} (p1 : Int)    (s1 : Int) (s2 : Int)  (mem : Mm) : RO E mt_Model_costOf (bo_Model_costOf_52 p1  s1 s2 mem) 52 [(0, rf 203)] [vi s2, vi s1, rf 235] mem := by
  unfold bo_Model_costOf_52
  refine RO_chk (fun hi1 => ?_)
  refine RO_is lk_235 hi1 dc_Model_costOf_52 ?_
  refine RO_bnM (fun m2 => ?_)
  refine RO_aload_n dc_Model_costOf_53 rfl rfl ?_
  refine RO_getR (b := 235) gf_Model_105 lk_203 rfl dc_Model_costOf_54 ?_
  refine RO_iconst dc_Model_costOf_57 ?_
  refine RO_aload_n dc_Model_costOf_58 rfl rfl ?_
  refine RO_getR (b := 245) gf_Model_135 lk_203 rfl dc_Model_costOf_59 ?_
  refine RO_iconst dc_Model_costOf_62 ?_
  refine RO_ia lk_245 ⟨by decide, by decide⟩ dc_Model_costOf_63 ?_
  refine RO_is lk_235 ⟨by decide, by decide⟩ dc_Model_costOf_64 ?_
  refine RO_bnM (fun m3 => ?_)
  refine RO_aload_n dc_Model_costOf_65 rfl rfl ?_
  refine RO_iconst dc_Model_costOf_66 ?_
  refine RO_callVi (As := [vi 0]) (rest := []) mi_Model_worked mv_Model_worked ml_Model_460 lk_203 (Nat.le_of_ble_eq_true rfl) rfl (Nat.le_of_ble_eq_true rfl) (fun _ => rfl) dc_Model_costOf_67 (fun rq mq hq => pf_Model_worked 0  m3 hq) (fun r4 m5 => ?_)
  refine RO_istore dc_Model_costOf_70 (Nat.le_of_ble_eq_true rfl) ?_
  refine RO_sub ?_ (rb_Model_costOf_72 p1 r4 m5)
  exact ⟨rfl, trivial⟩
def fn_Model_costOf (p1 : Int) (mem : Mm) : Res := bd (fn_Model_isWhen p1 mem) fun r1 m2 => bd (fn_Model_offBy p1 r1 m2) fun r3 m4 => if (m4 221 (0 : Int).toNat) < (m4 222 (0 : Int).toNat) then (bn (mst m4 235 (1 : Int).toNat r3) fun m5 => if r1 < 0 then (bo_Model_costOf_52 p1 2 1 m5) else (bo_Model_costOf_52 p1 2 0 m5)) else (bo_Model_costOf_72 p1 r3 m4)
set_option maxHeartbeats 4000000 in
theorem pf_Model_costOf {E : EE} (p1 : Int)  (mem : Mm) {r : Int} {mem9 : Mm} (h : fn_Model_costOf p1 mem = some (r, mem9)) : MetX E 4 yn_Model_costOf cd_Model_costOf 5 (some .int) [rf 203, vi p1] mem r mem9 := by
  refine RO_met (y := yn_Model_costOf) (by decide +kernel) (Nat.le_of_ble_eq_true rfl) ?_ h
  show RO E mt_Model_costOf (fn_Model_costOf p1 mem) 0 [(0, rf 203), (1, vi p1)] [] mem
  unfold fn_Model_costOf
  refine RO_aload_n dc_Model_costOf_0 rfl rfl ?_
  refine RO_iload_n dc_Model_costOf_1 rfl rfl ?_
  refine RO_callVi (As := [vi p1]) (rest := []) mi_Model_isWhen mv_Model_isWhen ml_Model_454 lk_203 (Nat.le_of_ble_eq_true rfl) rfl (Nat.le_of_ble_eq_true rfl) (fun _ => rfl) dc_Model_costOf_2 (fun rq mq hq => pf_Model_isWhen p1  mem hq) (fun r1 m2 => ?_)
  refine RO_istore_n dc_Model_costOf_5 rfl (Nat.le_of_ble_eq_true rfl) ?_
  refine RO_aload_n dc_Model_costOf_6 rfl rfl ?_
  refine RO_iload_n dc_Model_costOf_7 rfl rfl ?_
  refine RO_iload_n dc_Model_costOf_8 rfl rfl ?_
  refine RO_callVi (As := [vi p1, vi r1]) (rest := []) mi_Model_offBy mv_Model_offBy ml_Model_457 lk_203 (Nat.le_of_ble_eq_true rfl) rfl (Nat.le_of_ble_eq_true rfl) (fun _ => rfl) dc_Model_costOf_9 (fun rq mq hq => pf_Model_offBy p1 r1  m2 hq) (fun r3 m4 => ?_)
  refine RO_istore_n dc_Model_costOf_12 rfl (Nat.le_of_ble_eq_true rfl) ?_
  refine RO_iload_n dc_Model_costOf_13 rfl rfl ?_
  refine RO_istore dc_Model_costOf_14 (Nat.le_of_ble_eq_true rfl) ?_
  refine RO_aload_n dc_Model_costOf_16 rfl rfl ?_
  refine RO_getR (b := 222) gf_Model_65 lk_203 rfl dc_Model_costOf_17 ?_
  refine RO_iconst dc_Model_costOf_20 ?_
  refine RO_ia lk_222 ⟨by decide, by decide⟩ dc_Model_costOf_21 ?_
  refine RO_aload_n dc_Model_costOf_22 rfl rfl ?_
  refine RO_getR (b := 221) gf_Model_62 lk_203 rfl dc_Model_costOf_23 ?_
  refine RO_iconst dc_Model_costOf_26 ?_
  refine RO_ia lk_221 ⟨by decide, by decide⟩ dc_Model_costOf_27 ?_
  refine RO_icmp_le (tgt := 72) dc_Model_costOf_28 rfl ?_ ?_
  · refine RO_aload_n dc_Model_costOf_31 rfl rfl ?_
    refine RO_getR (b := 235) gf_Model_105 lk_203 rfl dc_Model_costOf_32 ?_
    refine RO_iconst dc_Model_costOf_35 ?_
    refine RO_iload_n dc_Model_costOf_36 rfl rfl ?_
    refine RO_is lk_235 ⟨by decide, by decide⟩ dc_Model_costOf_37 ?_
    refine RO_bnM (fun m5 => ?_)
    refine RO_aload_n dc_Model_costOf_38 rfl rfl ?_
    refine RO_getR (b := 235) gf_Model_105 lk_203 rfl dc_Model_costOf_39 ?_
    refine RO_iconst dc_Model_costOf_42 ?_
    refine RO_iload_n dc_Model_costOf_43 rfl rfl ?_
    refine RO_if_ge (tgt := 51) dc_Model_costOf_44 rfl ?_ ?_
    · refine RO_iconst dc_Model_costOf_47 ?_
      refine RO_goto (tgt := 52) dc_Model_costOf_48 rfl ?_
      refine RO_sub ?_ (rb_Model_costOf_52 p1 2 1 m5)
      exact ⟨rfl, trivial⟩
    · refine RO_iconst dc_Model_costOf_51 ?_
      refine RO_sub ?_ (rb_Model_costOf_52 p1 2 0 m5)
      exact ⟨rfl, trivial⟩
  · refine RO_sub ?_ (rb_Model_costOf_72 p1 r3 m4)
    exact ⟨rfl, trivial⟩
def fn_Model_late (p1 : Int) (p2 : Int) (mem : Mm) : Res := bn (mst mem 203 0 0) fun m1 => bd (fn_Model_isWalker p1 m1) fun r2 m3 => if r2 = 0 then (some (0, m3)) else (bd (fn_Model_within p2 0 60 m3) fun r4 m5 => if r4 = 0 then (some (0, m5)) else (bd (fn_Model_lies (w32 (4 + p1)) p2 m5) fun r6 m7 => if r6 = 0 then (some (0, m7)) else (some (1, m7))))
set_option maxHeartbeats 4000000 in
theorem pf_Model_late {E : EE} (p1 : Int) (p2 : Int)  (mem : Mm) {r : Int} {mem9 : Mm} (h : fn_Model_late p1 p2 mem = some (r, mem9)) : MetX E 4 yn_Model_late cd_Model_late 3 (some .boolean) [rf 203, vi p1, vi p2] mem r mem9 := by
  refine RO_met (y := yn_Model_late) (by decide +kernel) (Nat.le_of_ble_eq_true rfl) ?_ h
  show RO E mt_Model_late (fn_Model_late p1 p2 mem) 0 [(0, rf 203), (1, vi p1), (2, vi p2)] [] mem
  unfold fn_Model_late
  refine RO_aload_n dc_Model_late_0 rfl rfl ?_
  refine RO_iconst dc_Model_late_1 ?_
  refine RO_putI gp_Model_183 lk_203 dc_Model_late_2 ?_
  refine RO_bnM (fun m1 => ?_)
  refine RO_aload_n dc_Model_late_5 rfl rfl ?_
  refine RO_iload_n dc_Model_late_6 rfl rfl ?_
  refine RO_callVi (As := [vi p1]) (rest := []) mi_Model_isWalker mv_Model_isWalker ml_Model_467 lk_203 (Nat.le_of_ble_eq_true rfl) rfl (Nat.le_of_ble_eq_true rfl) (fun _ => rfl) dc_Model_late_7 (fun rq mq hq => pf_Model_isWalker p1  m1 hq) (fun r2 m3 => ?_)
  refine RO_if_eq (tgt := 38) dc_Model_late_10 rfl ?_ ?_
  · refine RO_iconst dc_Model_late_38 ?_
    exact RO_zret rfl (Or.inl rfl) dc_Model_late_39
  · refine RO_iload_n dc_Model_late_13 rfl rfl ?_
    refine RO_iconst dc_Model_late_14 ?_
    refine RO_bipush dc_Model_late_15 ?_
    refine RO_callSi (As := [vi p2, vi 0, vi 60]) (rest := []) mi_Model_within ms_Model_within ml_Model_318 (Nat.le_of_ble_eq_true rfl) rfl (Nat.le_of_ble_eq_true rfl) (fun _ => rfl) dc_Model_late_17 (fun rq mq hq => pf_Model_within p2 0 60  m3 hq) (fun r4 m5 => ?_)
    refine RO_if_eq (tgt := 38) dc_Model_late_20 rfl ?_ ?_
    · refine RO_iconst dc_Model_late_38 ?_
      exact RO_zret rfl (Or.inl rfl) dc_Model_late_39
    · refine RO_aload_n dc_Model_late_23 rfl rfl ?_
      refine RO_iconst dc_Model_late_24 ?_
      refine RO_iload_n dc_Model_late_25 rfl rfl ?_
      refine RO_iadd dc_Model_late_26 ?_
      refine RO_iload_n dc_Model_late_27 rfl rfl ?_
      refine RO_callVi (As := [vi (w32 (4 + p1)), vi p2]) (rest := []) mi_Model_lies mv_Model_lies ml_Model_492 lk_203 (Nat.le_of_ble_eq_true rfl) rfl (Nat.le_of_ble_eq_true rfl) (fun _ => rfl) dc_Model_late_28 (fun rq mq hq => pf_Model_lies (w32 (4 + p1)) p2  m5 hq) (fun r6 m7 => ?_)
      refine RO_if_eq (tgt := 38) dc_Model_late_31 rfl ?_ ?_
      · refine RO_iconst dc_Model_late_38 ?_
        exact RO_zret rfl (Or.inl rfl) dc_Model_late_39
      · refine RO_iconst dc_Model_late_34 ?_
        refine RO_goto (tgt := 39) dc_Model_late_35 rfl ?_
        exact RO_zret rfl (Or.inr rfl) dc_Model_late_39
def fn_Model_dies (p1 : Int) (mem : Mm) : Res := bn (mst mem 203 0 0) fun m1 => bd (fn_Model_isWalker p1 m1) fun r2 m3 => if r2 = 0 then (some (0, m3)) else (bd (fn_Model_isAlive p1 m3) fun r4 m5 => if r4 = 0 then (some (0, m5)) else (bd (fn_Model_lies 2 (iand (m5 245 (2 : Int).toNat) (ixor (ishl 1 p1) (-1))) m5) fun r6 m7 => if r6 = 0 then (some (0, m7)) else (some (1, m7))))
set_option maxHeartbeats 4000000 in
theorem pf_Model_dies {E : EE} (p1 : Int)  (mem : Mm) {r : Int} {mem9 : Mm} (h : fn_Model_dies p1 mem = some (r, mem9)) : MetX E 4 yn_Model_dies cd_Model_dies 2 (some .boolean) [rf 203, vi p1] mem r mem9 := by
  refine RO_met (y := yn_Model_dies) (by decide +kernel) (Nat.le_of_ble_eq_true rfl) ?_ h
  show RO E mt_Model_dies (fn_Model_dies p1 mem) 0 [(0, rf 203), (1, vi p1)] [] mem
  unfold fn_Model_dies
  refine RO_aload_n dc_Model_dies_0 rfl rfl ?_
  refine RO_iconst dc_Model_dies_1 ?_
  refine RO_putI gp_Model_183 lk_203 dc_Model_dies_2 ?_
  refine RO_bnM (fun m1 => ?_)
  refine RO_aload_n dc_Model_dies_5 rfl rfl ?_
  refine RO_iload_n dc_Model_dies_6 rfl rfl ?_
  refine RO_callVi (As := [vi p1]) (rest := []) mi_Model_isWalker mv_Model_isWalker ml_Model_467 lk_203 (Nat.le_of_ble_eq_true rfl) rfl (Nat.le_of_ble_eq_true rfl) (fun _ => rfl) dc_Model_dies_7 (fun rq mq hq => pf_Model_isWalker p1  m1 hq) (fun r2 m3 => ?_)
  refine RO_if_eq (tgt := 45) dc_Model_dies_10 rfl ?_ ?_
  · refine RO_iconst dc_Model_dies_45 ?_
    exact RO_zret rfl (Or.inl rfl) dc_Model_dies_46
  · refine RO_aload_n dc_Model_dies_13 rfl rfl ?_
    refine RO_iload_n dc_Model_dies_14 rfl rfl ?_
    refine RO_callVi (As := [vi p1]) (rest := []) mi_Model_isAlive mv_Model_isAlive ml_Model_489 lk_203 (Nat.le_of_ble_eq_true rfl) rfl (Nat.le_of_ble_eq_true rfl) (fun _ => rfl) dc_Model_dies_15 (fun rq mq hq => pf_Model_isAlive p1  m3 hq) (fun r4 m5 => ?_)
    refine RO_if_eq (tgt := 45) dc_Model_dies_18 rfl ?_ ?_
    · refine RO_iconst dc_Model_dies_45 ?_
      exact RO_zret rfl (Or.inl rfl) dc_Model_dies_46
    · refine RO_aload_n dc_Model_dies_21 rfl rfl ?_
      refine RO_iconst dc_Model_dies_22 ?_
      refine RO_aload_n dc_Model_dies_23 rfl rfl ?_
      refine RO_getR (b := 245) gf_Model_135 lk_203 rfl dc_Model_dies_24 ?_
      refine RO_iconst dc_Model_dies_27 ?_
      refine RO_ia lk_245 ⟨by decide, by decide⟩ dc_Model_dies_28 ?_
      refine RO_iconst dc_Model_dies_29 ?_
      refine RO_iload_n dc_Model_dies_30 rfl rfl ?_
      refine RO_ishl dc_Model_dies_31 ?_
      refine RO_iconst dc_Model_dies_32 ?_
      refine RO_ixor dc_Model_dies_33 ?_
      refine RO_iand dc_Model_dies_34 ?_
      refine RO_callVi (As := [vi 2, vi (iand (m5 245 (2 : Int).toNat) (ixor (ishl 1 p1) (-1)))]) (rest := []) mi_Model_lies mv_Model_lies ml_Model_492 lk_203 (Nat.le_of_ble_eq_true rfl) rfl (Nat.le_of_ble_eq_true rfl) (fun _ => rfl) dc_Model_dies_35 (fun rq mq hq => pf_Model_lies 2 (iand (m5 245 (2 : Int).toNat) (ixor (ishl 1 p1) (-1)))  m5 hq) (fun r6 m7 => ?_)
      refine RO_if_eq (tgt := 45) dc_Model_dies_38 rfl ?_ ?_
      · refine RO_iconst dc_Model_dies_45 ?_
        exact RO_zret rfl (Or.inl rfl) dc_Model_dies_46
      · refine RO_iconst dc_Model_dies_41 ?_
        refine RO_goto (tgt := 46) dc_Model_dies_42 rfl ?_
        exact RO_zret rfl (Or.inr rfl) dc_Model_dies_46
def fn_Model_deputy (p1 : Int) (p2 : Int) (mem : Mm) : Res := bn (mst mem 203 0 0) fun m1 => bd (fn_Model_isHour p1 m1) fun r2 m3 => if r2 = 0 then (some (0, m3)) else (bd (fn_Model_isWalker p2 m3) fun r4 m5 => if r4 = 0 then (some (0, m5)) else (if 0 ≤ w32 (10 + p1) ∧ w32 (10 + p1) < 16 then if (m5 245 (w32 (10 + p1)).toNat) = p2 then (some (0, m5)) else (bd (fn_Model_canStand p1 p2 m5) fun r7 m8 => if r7 = 0 then (some (0, m8)) else (bd (fn_Model_lies (w32 (10 + p1)) p2 m8) fun r9 m10 => if r9 = 0 then (some (0, m10)) else (some (1, m10)))) else none))
set_option maxHeartbeats 4000000 in
theorem pf_Model_deputy {E : EE} (p1 : Int) (p2 : Int)  (mem : Mm) {r : Int} {mem9 : Mm} (h : fn_Model_deputy p1 p2 mem = some (r, mem9)) : MetX E 4 yn_Model_deputy cd_Model_deputy 3 (some .boolean) [rf 203, vi p1, vi p2] mem r mem9 := by
  refine RO_met (y := yn_Model_deputy) (by decide +kernel) (Nat.le_of_ble_eq_true rfl) ?_ h
  show RO E mt_Model_deputy (fn_Model_deputy p1 p2 mem) 0 [(0, rf 203), (1, vi p1), (2, vi p2)] [] mem
  unfold fn_Model_deputy
  refine RO_aload_n dc_Model_deputy_0 rfl rfl ?_
  refine RO_iconst dc_Model_deputy_1 ?_
  refine RO_putI gp_Model_183 lk_203 dc_Model_deputy_2 ?_
  refine RO_bnM (fun m1 => ?_)
  refine RO_aload_n dc_Model_deputy_5 rfl rfl ?_
  refine RO_iload_n dc_Model_deputy_6 rfl rfl ?_
  refine RO_callVi (As := [vi p1]) (rest := []) mi_Model_isHour mv_Model_isHour ml_Model_473 lk_203 (Nat.le_of_ble_eq_true rfl) rfl (Nat.le_of_ble_eq_true rfl) (fun _ => rfl) dc_Model_deputy_7 (fun rq mq hq => pf_Model_isHour p1  m1 hq) (fun r2 m3 => ?_)
  refine RO_if_eq (tgt := 59) dc_Model_deputy_10 rfl ?_ ?_
  · refine RO_iconst dc_Model_deputy_59 ?_
    exact RO_zret rfl (Or.inl rfl) dc_Model_deputy_60
  · refine RO_aload_n dc_Model_deputy_13 rfl rfl ?_
    refine RO_iload_n dc_Model_deputy_14 rfl rfl ?_
    refine RO_callVi (As := [vi p2]) (rest := []) mi_Model_isWalker mv_Model_isWalker ml_Model_467 lk_203 (Nat.le_of_ble_eq_true rfl) rfl (Nat.le_of_ble_eq_true rfl) (fun _ => rfl) dc_Model_deputy_15 (fun rq mq hq => pf_Model_isWalker p2  m3 hq) (fun r4 m5 => ?_)
    refine RO_if_eq (tgt := 59) dc_Model_deputy_18 rfl ?_ ?_
    · refine RO_iconst dc_Model_deputy_59 ?_
      exact RO_zret rfl (Or.inl rfl) dc_Model_deputy_60
    · refine RO_aload_n dc_Model_deputy_21 rfl rfl ?_
      refine RO_getR (b := 245) gf_Model_135 lk_203 rfl dc_Model_deputy_22 ?_
      refine RO_bipush dc_Model_deputy_25 ?_
      refine RO_iload_n dc_Model_deputy_27 rfl rfl ?_
      refine RO_iadd dc_Model_deputy_28 ?_
      refine RO_chk (fun hi6 => ?_)
      refine RO_ia lk_245 hi6 dc_Model_deputy_29 ?_
      refine RO_iload_n dc_Model_deputy_30 rfl rfl ?_
      refine RO_icmp_eq (tgt := 59) dc_Model_deputy_31 rfl ?_ ?_
      · refine RO_iconst dc_Model_deputy_59 ?_
        exact RO_zret rfl (Or.inl rfl) dc_Model_deputy_60
      · refine RO_aload_n dc_Model_deputy_34 rfl rfl ?_
        refine RO_iload_n dc_Model_deputy_35 rfl rfl ?_
        refine RO_iload_n dc_Model_deputy_36 rfl rfl ?_
        refine RO_callVi (As := [vi p1, vi p2]) (rest := []) mi_Model_canStand mv_Model_canStand ml_Model_495 lk_203 (Nat.le_of_ble_eq_true rfl) rfl (Nat.le_of_ble_eq_true rfl) (fun _ => rfl) dc_Model_deputy_37 (fun rq mq hq => pf_Model_canStand p1 p2  m5 hq) (fun r7 m8 => ?_)
        refine RO_if_eq (tgt := 59) dc_Model_deputy_40 rfl ?_ ?_
        · refine RO_iconst dc_Model_deputy_59 ?_
          exact RO_zret rfl (Or.inl rfl) dc_Model_deputy_60
        · refine RO_aload_n dc_Model_deputy_43 rfl rfl ?_
          refine RO_bipush dc_Model_deputy_44 ?_
          refine RO_iload_n dc_Model_deputy_46 rfl rfl ?_
          refine RO_iadd dc_Model_deputy_47 ?_
          refine RO_iload_n dc_Model_deputy_48 rfl rfl ?_
          refine RO_callVi (As := [vi (w32 (10 + p1)), vi p2]) (rest := []) mi_Model_lies mv_Model_lies ml_Model_492 lk_203 (Nat.le_of_ble_eq_true rfl) rfl (Nat.le_of_ble_eq_true rfl) (fun _ => rfl) dc_Model_deputy_49 (fun rq mq hq => pf_Model_lies (w32 (10 + p1)) p2  m8 hq) (fun r9 m10 => ?_)
          refine RO_if_eq (tgt := 59) dc_Model_deputy_52 rfl ?_ ?_
          · refine RO_iconst dc_Model_deputy_59 ?_
            exact RO_zret rfl (Or.inl rfl) dc_Model_deputy_60
          · refine RO_iconst dc_Model_deputy_55 ?_
            refine RO_goto (tgt := 60) dc_Model_deputy_56 rfl ?_
            exact RO_zret rfl (Or.inr rfl) dc_Model_deputy_60
def fn_Model_snow  (mem : Mm) : Res := bn (mst mem 203 0 0) fun m1 => if (m1 245 (3 : Int).toNat) = 0 then (bd (fn_Model_lies 3 1 m1) fun r2 m3 => if r2 = 0 then (some (0, m3)) else (some (1, m3))) else (some (0, m1))
set_option maxHeartbeats 4000000 in
theorem pf_Model_snow {E : EE}   (mem : Mm) {r : Int} {mem9 : Mm} (h : fn_Model_snow  mem = some (r, mem9)) : MetX E 4 yn_Model_snow cd_Model_snow 1 (some .boolean) [rf 203] mem r mem9 := by
  refine RO_met (y := yn_Model_snow) (by decide +kernel) (Nat.le_of_ble_eq_true rfl) ?_ h
  show RO E mt_Model_snow (fn_Model_snow  mem) 0 [(0, rf 203)] [] mem
  unfold fn_Model_snow
  refine RO_aload_n dc_Model_snow_0 rfl rfl ?_
  refine RO_iconst dc_Model_snow_1 ?_
  refine RO_putI gp_Model_183 lk_203 dc_Model_snow_2 ?_
  refine RO_bnM (fun m1 => ?_)
  refine RO_aload_n dc_Model_snow_5 rfl rfl ?_
  refine RO_getR (b := 245) gf_Model_135 lk_203 rfl dc_Model_snow_6 ?_
  refine RO_iconst dc_Model_snow_9 ?_
  refine RO_ia lk_245 ⟨by decide, by decide⟩ dc_Model_snow_10 ?_
  refine RO_if_ne (tgt := 27) dc_Model_snow_11 rfl ?_ ?_
  · refine RO_aload_n dc_Model_snow_14 rfl rfl ?_
    refine RO_iconst dc_Model_snow_15 ?_
    refine RO_iconst dc_Model_snow_16 ?_
    refine RO_callVi (As := [vi 3, vi 1]) (rest := []) mi_Model_lies mv_Model_lies ml_Model_492 lk_203 (Nat.le_of_ble_eq_true rfl) rfl (Nat.le_of_ble_eq_true rfl) (fun _ => rfl) dc_Model_snow_17 (fun rq mq hq => pf_Model_lies 3 1  m1 hq) (fun r2 m3 => ?_)
    refine RO_if_eq (tgt := 27) dc_Model_snow_20 rfl ?_ ?_
    · refine RO_iconst dc_Model_snow_27 ?_
      exact RO_zret rfl (Or.inl rfl) dc_Model_snow_28
    · refine RO_iconst dc_Model_snow_23 ?_
      refine RO_goto (tgt := 28) dc_Model_snow_24 rfl ?_
      exact RO_zret rfl (Or.inr rfl) dc_Model_snow_28
  · refine RO_iconst dc_Model_snow_27 ?_
    exact RO_zret rfl (Or.inl rfl) dc_Model_snow_28
def bo_Model_readsWalker_247   (v1 : Int) (v2 : Int) (mem : Mm) : Res := if 0 ≤ v1 ∧ v1 < 12 then bn (mst mem 207 v1.toNat v2) fun m2 => bn (mst m2 205 (6 : Int).toNat (w32 ((m2 205 (6 : Int).toNat) + 1))) fun m3 => bd (fn_Model_closes  m3) fun r4 m5 => if r4 = 0 ∨ r4 = 1 then some (r4, m5) else none else none
set_option maxHeartbeats 4000000 in
theorem rb_Model_readsWalker_247 {E : EE}     (v1 : Int) (v2 : Int)  (mem : Mm) : RO E mt_Model_readsWalker (bo_Model_readsWalker_247   v1 v2 mem) 247 [(0, rf 203), (1, vi v1), (2, vl v2)] [] mem := by
  unfold bo_Model_readsWalker_247
  refine RO_aload_n dc_Model_readsWalker_247 rfl rfl ?_
  refine RO_getR (b := 207) gf_Model_20 lk_203 rfl dc_Model_readsWalker_248 ?_
  refine RO_iload_n dc_Model_readsWalker_251 rfl rfl ?_
  refine RO_lload_n dc_Model_readsWalker_252 rfl rfl ?_
  refine RO_chk (fun hi1 => ?_)
  refine RO_lst lk_207 hi1 dc_Model_readsWalker_253 ?_
  refine RO_bnM (fun m2 => ?_)
  refine RO_aload_n dc_Model_readsWalker_254 rfl rfl ?_
  refine RO_getR (b := 205) gf_Model_13 lk_203 rfl dc_Model_readsWalker_255 ?_
  refine RO_bipush dc_Model_readsWalker_258 ?_
  refine RO_dup2 dc_Model_readsWalker_260 (nt0 _) (nt2 _) ?_
  refine RO_ia lk_205 ⟨by decide, by decide⟩ dc_Model_readsWalker_261 ?_
  refine RO_iconst dc_Model_readsWalker_262 ?_
  refine RO_iadd dc_Model_readsWalker_263 ?_
  refine RO_is lk_205 ⟨by decide, by decide⟩ dc_Model_readsWalker_264 ?_
  refine RO_bnM (fun m3 => ?_)
  refine RO_aload_n dc_Model_readsWalker_265 rfl rfl ?_
  refine RO_callVi (As := []) (rest := []) mi_Model_closes mv_Model_closes ml_Model_351 lk_203 (Nat.le_of_ble_eq_true rfl) rfl (Nat.le_of_ble_eq_true rfl) (fun _ => rfl) dc_Model_readsWalker_266 (fun rq mq hq => pf_Model_closes   m3 hq) (fun r4 m5 => ?_)
  refine RO_chk (fun hz6 => ?_)
  exact RO_zret rfl hz6 dc_Model_readsWalker_269
def bo_Model_readsWalker_221  (k221 : Int → Int → Int → Mm → Res) (v1 : Int) (v2 : Int) (v4 : Int) (mem : Mm) : Res := if v4 < 6 then (if 0 ≤ w32 ((w32 (6 * v1)) + v4) ∧ w32 ((w32 (6 * v1)) + v4) < 72 then bn (mst mem 216 (w32 ((w32 (6 * v1)) + v4)).toNat 0) fun m2 => k221 v1 v2 (w32 (v4 + 1)) m2 else none) else (bo_Model_readsWalker_247 v1 v2 mem)
set_option maxHeartbeats 4000000 in
theorem rb_Model_readsWalker_221 {E : EE}   (k221 : Int → Int → Int → Mm → Res) (H221 : ∀ (v1 : Int) (v2 : Int) (v4 : Int)  (mem : Mm), RO E mt_Model_readsWalker (k221 v1 v2 v4 mem) 221 [(0, rf 203), (1, vi v1), (2, vl v2), (4, vi v4)] [] mem) (v1 : Int) (v2 : Int) (v4 : Int)  (mem : Mm) : RO E mt_Model_readsWalker (bo_Model_readsWalker_221  k221 v1 v2 v4 mem) 221 [(0, rf 203), (1, vi v1), (2, vl v2), (4, vi v4)] [] mem := by
  unfold bo_Model_readsWalker_221
  refine RO_iload dc_Model_readsWalker_221 rfl ?_
  refine RO_bipush dc_Model_readsWalker_223 ?_
  refine RO_icmp_ge (tgt := 247) dc_Model_readsWalker_225 rfl ?_ ?_
  · refine RO_aload_n dc_Model_readsWalker_228 rfl rfl ?_
    refine RO_getR (b := 216) gf_Model_47 lk_203 rfl dc_Model_readsWalker_229 ?_
    refine RO_bipush dc_Model_readsWalker_232 ?_
    refine RO_iload_n dc_Model_readsWalker_234 rfl rfl ?_
    refine RO_imul dc_Model_readsWalker_235 ?_
    refine RO_iload dc_Model_readsWalker_236 rfl ?_
    refine RO_iadd dc_Model_readsWalker_238 ?_
    refine RO_iconst dc_Model_readsWalker_239 ?_
    refine RO_chk (fun hi1 => ?_)
    refine RO_is lk_216 hi1 dc_Model_readsWalker_240 ?_
    refine RO_bnM (fun m2 => ?_)
    refine RO_iinc dc_Model_readsWalker_241 rfl (Nat.le_of_ble_eq_true rfl) ?_
    refine RO_goto (tgt := 221) dc_Model_readsWalker_244 rfl ?_
    refine RO_sub ?_ (H221 v1 v2 (w32 (v4 + 1)) m2)
    exact ⟨rfl, rfl, rfl, rfl, trivial⟩
  · refine RO_sub ?_ (rb_Model_readsWalker_247 v1 v2 mem)
    exact ⟨rfl, rfl, rfl, trivial⟩
def lp_Model_readsWalker_221   : Nat → Int → Int → Int → Mm → Res
  | 0 => fun _ _ _ _ => none
  | n + 1 => bo_Model_readsWalker_221   (lp_Model_readsWalker_221   n)
theorem rp_Model_readsWalker_221 {E : EE}     : ∀ (n : Nat) (v1 : Int) (v2 : Int) (v4 : Int)  (mem : Mm), RO E mt_Model_readsWalker (lp_Model_readsWalker_221   n v1 v2 v4 mem) 221 [(0, rf 203), (1, vi v1), (2, vl v2), (4, vi v4)] [] mem := by
  intro n
  induction n with
  | zero => intro v1 v2 v4  mem; exact RO_none
  | succ n ih => intro v1 v2 v4  mem; exact rb_Model_readsWalker_221    (lp_Model_readsWalker_221   n)  ih v1 v2 v4  mem
def bo_Model_readsWalker_103   (v1 : Int) (v2 : Int) (s1 : Int) (s2 : Int) (mem : Mm) : Res := if 0 ≤ s1 ∧ s1 < 12 then bn (mst mem 210 s1.toNat s2) fun m2 => if 0 ≤ v1 ∧ v1 < 12 then if (m2 210 v1.toNat) < 0 then (bd (fn_Model_fails 1 m2) fun r4 m5 => if r4 = 0 ∨ r4 = 1 then some (r4, m5) else none) else (bd (fn_Model_nextToken  m2) fun r7 m8 => bd (fn_Model_needsBoth 10492274 0 239 m8) fun r9 m10 => if r9 = 0 then (some (0, m10)) else (if 0 ≤ v1 ∧ v1 < 12 then bn (mst m10 211 v1.toNat (m10 203 42)) fun m12 => bd (fn_Model_needsBoth 315743 1 5 m12) fun r13 m14 => if r13 = 0 then (some (0, m14)) else (if 0 ≤ v1 ∧ v1 < 12 then bn (mst m14 212 v1.toNat (m14 203 42)) fun m16 => bd (fn_Model_needsBoth 158537 0 30 m16) fun r17 m18 => if r17 = 0 then (some (0, m18)) else (if 0 ≤ v1 ∧ v1 < 12 then bn (mst m18 213 v1.toNat (m18 203 42)) fun m20 => bd (fn_Model_needsWord 9876874 m20) fun r21 m22 => if r21 = 0 then (some (0, m22)) else (bd (fn_Model_readsRound v1 m22) fun r23 m24 => if r23 = 0 then (some (0, m24)) else (lp_Model_readsWalker_221 FU v1 v2 0 m24)) else none) else none) else none)) else none else none
set_option maxHeartbeats 4000000 in
theorem rb_Model_readsWalker_103 {E : EE}     (v1 : Int) (v2 : Int) (s1 : Int) (s2 : Int)  (mem : Mm) : RO E mt_Model_readsWalker (bo_Model_readsWalker_103   v1 v2 s1 s2 mem) 103 [(0, rf 203), (1, vi v1), (2, vl v2)] [vi s2, vi s1, rf 210] mem := by
  unfold bo_Model_readsWalker_103
  refine RO_chk (fun hi1 => ?_)
  refine RO_is lk_210 hi1 dc_Model_readsWalker_103 ?_
  refine RO_bnM (fun m2 => ?_)
  refine RO_aload_n dc_Model_readsWalker_104 rfl rfl ?_
  refine RO_getR (b := 210) gf_Model_29 lk_203 rfl dc_Model_readsWalker_105 ?_
  refine RO_iload_n dc_Model_readsWalker_108 rfl rfl ?_
  refine RO_chk (fun hi3 => ?_)
  refine RO_ia lk_210 hi3 dc_Model_readsWalker_109 ?_
  refine RO_if_ge (tgt := 119) dc_Model_readsWalker_110 rfl ?_ ?_
  · refine RO_aload_n dc_Model_readsWalker_113 rfl rfl ?_
    refine RO_iconst dc_Model_readsWalker_114 ?_
    refine RO_callVi (As := [vi 1]) (rest := []) mi_Model_fails mv_Model_fails ml_Model_245 lk_203 (Nat.le_of_ble_eq_true rfl) rfl (Nat.le_of_ble_eq_true rfl) (fun _ => rfl) dc_Model_readsWalker_115 (fun rq mq hq => pf_Model_fails 1  m2 hq) (fun r4 m5 => ?_)
    refine RO_chk (fun hz6 => ?_)
    exact RO_zret rfl hz6 dc_Model_readsWalker_118
  · refine RO_aload_n dc_Model_readsWalker_119 rfl rfl ?_
    refine RO_callVv (As := []) (rest := []) mi_Model_nextToken mv_Model_nextToken ml_Model_252 lk_203 (Nat.le_of_ble_eq_true rfl) rfl (Nat.le_of_ble_eq_true rfl) dc_Model_readsWalker_120 (fun rq mq hq => pf_Model_nextToken   m2 hq) (fun r7 m8 => ?_)
    refine RO_aload_n dc_Model_readsWalker_123 rfl rfl ?_
    refine RO_ldc2 (x := 10492274) c2_Model_274 ⟨by decide, ⟨by decide, by decide⟩⟩ dc_Model_readsWalker_124 ?_
    refine RO_iconst dc_Model_readsWalker_127 ?_
    refine RO_sipush dc_Model_readsWalker_128 ?_
    refine RO_callVi (As := [vl 10492274, vi 0, vi 239]) (rest := []) mi_Model_needsBoth mv_Model_needsBoth ml_Model_357 lk_203 (Nat.le_of_ble_eq_true rfl) rfl (Nat.le_of_ble_eq_true rfl) (fun _ => rfl) dc_Model_readsWalker_131 (fun rq mq hq => pf_Model_needsBoth 10492274 0 239  m8 hq) (fun r9 m10 => ?_)
    refine RO_if_ne (tgt := 139) dc_Model_readsWalker_134 rfl ?_ ?_
    · refine RO_iconst dc_Model_readsWalker_137 ?_
      exact RO_zret rfl (Or.inl rfl) dc_Model_readsWalker_138
    · refine RO_aload_n dc_Model_readsWalker_139 rfl rfl ?_
      refine RO_getR (b := 211) gf_Model_32 lk_203 rfl dc_Model_readsWalker_140 ?_
      refine RO_iload_n dc_Model_readsWalker_143 rfl rfl ?_
      refine RO_aload_n dc_Model_readsWalker_144 rfl rfl ?_
      refine RO_getI gf_Model_322 lk_203 dc_Model_readsWalker_145 ?_
      refine RO_chk (fun hi11 => ?_)
      refine RO_is lk_211 hi11 dc_Model_readsWalker_148 ?_
      refine RO_bnM (fun m12 => ?_)
      refine RO_aload_n dc_Model_readsWalker_149 rfl rfl ?_
      refine RO_ldc2 (x := 315743) c2_Model_276 ⟨by decide, ⟨by decide, by decide⟩⟩ dc_Model_readsWalker_150 ?_
      refine RO_iconst dc_Model_readsWalker_153 ?_
      refine RO_iconst dc_Model_readsWalker_154 ?_
      refine RO_callVi (As := [vl 315743, vi 1, vi 5]) (rest := []) mi_Model_needsBoth mv_Model_needsBoth ml_Model_357 lk_203 (Nat.le_of_ble_eq_true rfl) rfl (Nat.le_of_ble_eq_true rfl) (fun _ => rfl) dc_Model_readsWalker_155 (fun rq mq hq => pf_Model_needsBoth 315743 1 5  m12 hq) (fun r13 m14 => ?_)
      refine RO_if_ne (tgt := 163) dc_Model_readsWalker_158 rfl ?_ ?_
      · refine RO_iconst dc_Model_readsWalker_161 ?_
        exact RO_zret rfl (Or.inl rfl) dc_Model_readsWalker_162
      · refine RO_aload_n dc_Model_readsWalker_163 rfl rfl ?_
        refine RO_getR (b := 212) gf_Model_35 lk_203 rfl dc_Model_readsWalker_164 ?_
        refine RO_iload_n dc_Model_readsWalker_167 rfl rfl ?_
        refine RO_aload_n dc_Model_readsWalker_168 rfl rfl ?_
        refine RO_getI gf_Model_322 lk_203 dc_Model_readsWalker_169 ?_
        refine RO_chk (fun hi15 => ?_)
        refine RO_is lk_212 hi15 dc_Model_readsWalker_172 ?_
        refine RO_bnM (fun m16 => ?_)
        refine RO_aload_n dc_Model_readsWalker_173 rfl rfl ?_
        refine RO_ldc2 (x := 158537) c2_Model_278 ⟨by decide, ⟨by decide, by decide⟩⟩ dc_Model_readsWalker_174 ?_
        refine RO_iconst dc_Model_readsWalker_177 ?_
        refine RO_bipush dc_Model_readsWalker_178 ?_
        refine RO_callVi (As := [vl 158537, vi 0, vi 30]) (rest := []) mi_Model_needsBoth mv_Model_needsBoth ml_Model_357 lk_203 (Nat.le_of_ble_eq_true rfl) rfl (Nat.le_of_ble_eq_true rfl) (fun _ => rfl) dc_Model_readsWalker_180 (fun rq mq hq => pf_Model_needsBoth 158537 0 30  m16 hq) (fun r17 m18 => ?_)
        refine RO_if_ne (tgt := 188) dc_Model_readsWalker_183 rfl ?_ ?_
        · refine RO_iconst dc_Model_readsWalker_186 ?_
          exact RO_zret rfl (Or.inl rfl) dc_Model_readsWalker_187
        · refine RO_aload_n dc_Model_readsWalker_188 rfl rfl ?_
          refine RO_getR (b := 213) gf_Model_38 lk_203 rfl dc_Model_readsWalker_189 ?_
          refine RO_iload_n dc_Model_readsWalker_192 rfl rfl ?_
          refine RO_aload_n dc_Model_readsWalker_193 rfl rfl ?_
          refine RO_getI gf_Model_322 lk_203 dc_Model_readsWalker_194 ?_
          refine RO_chk (fun hi19 => ?_)
          refine RO_is lk_213 hi19 dc_Model_readsWalker_197 ?_
          refine RO_bnM (fun m20 => ?_)
          refine RO_aload_n dc_Model_readsWalker_198 rfl rfl ?_
          refine RO_ldc2 (x := 9876874) c2_Model_280 ⟨by decide, ⟨by decide, by decide⟩⟩ dc_Model_readsWalker_199 ?_
          refine RO_callVi (As := [vl 9876874]) (rest := []) mi_Model_needsWord mv_Model_needsWord ml_Model_325 lk_203 (Nat.le_of_ble_eq_true rfl) rfl (Nat.le_of_ble_eq_true rfl) (fun _ => rfl) dc_Model_readsWalker_202 (fun rq mq hq => pf_Model_needsWord 9876874  m20 hq) (fun r21 m22 => ?_)
          refine RO_if_eq (tgt := 216) dc_Model_readsWalker_205 rfl ?_ ?_
          · refine RO_iconst dc_Model_readsWalker_216 ?_
            exact RO_zret rfl (Or.inl rfl) dc_Model_readsWalker_217
          · refine RO_aload_n dc_Model_readsWalker_208 rfl rfl ?_
            refine RO_iload_n dc_Model_readsWalker_209 rfl rfl ?_
            refine RO_callVi (As := [vi v1]) (rest := []) mi_Model_readsRound mv_Model_readsRound ml_Model_361 lk_203 (Nat.le_of_ble_eq_true rfl) rfl (Nat.le_of_ble_eq_true rfl) (fun _ => rfl) dc_Model_readsWalker_210 (fun rq mq hq => pf_Model_readsRound v1  m22 hq) (fun r23 m24 => ?_)
            refine RO_if_ne (tgt := 218) dc_Model_readsWalker_213 rfl ?_ ?_
            · refine RO_iconst dc_Model_readsWalker_216 ?_
              exact RO_zret rfl (Or.inl rfl) dc_Model_readsWalker_217
            · refine RO_iconst dc_Model_readsWalker_218 ?_
              refine RO_istore dc_Model_readsWalker_219 (Nat.le_of_ble_eq_true rfl) ?_
              refine RO_sub ?_ (rp_Model_readsWalker_221 FU v1 v2 0 m24)
              exact ⟨rfl, rfl, rfl, rfl, trivial⟩
def fn_Model_readsWalker  (mem : Mm) : Res := bn (w32 (6 + (mem 205 (6 : Int).toNat))) fun x1 => if x1 = 12 then (bd (fn_Model_fails 5 mem) fun r2 m3 => if r2 = 0 ∨ r2 = 1 then some (r2, m3) else none) else (bd (fn_Model_nextToken  mem) fun r5 m6 => bd (fn_Model_needsNew  m6) fun r7 m8 => if r7 = 0 then (some (0, m8)) else (bn (m8 203 43) fun x9 => bd (fn_Model_isWord 8740238 m8) fun r10 m11 => if r10 = 0 then (bd (fn_Model_isWord 383153 m11) fun r12 m13 => if r12 = 0 then (bd (fn_Model_isWord 180392 m13) fun r14 m15 => if r14 = 0 then (bd (fn_Model_isWord 1424261 m15) fun r16 m17 => if r16 = 0 then (bo_Model_readsWalker_103 x1 x9 x1 (-1) m17) else (bo_Model_readsWalker_103 x1 x9 x1 3 m17)) else (bo_Model_readsWalker_103 x1 x9 x1 2 m15)) else (bo_Model_readsWalker_103 x1 x9 x1 1 m13)) else (bo_Model_readsWalker_103 x1 x9 x1 0 m11)))
set_option maxHeartbeats 4000000 in
theorem pf_Model_readsWalker {E : EE}   (mem : Mm) {r : Int} {mem9 : Mm} (h : fn_Model_readsWalker  mem = some (r, mem9)) : MetX E 5 yn_Model_readsWalker cd_Model_readsWalker 5 (some .boolean) [rf 203] mem r mem9 := by
  refine RO_met (y := yn_Model_readsWalker) (by decide +kernel) (Nat.le_of_ble_eq_true rfl) ?_ h
  show RO E mt_Model_readsWalker (fn_Model_readsWalker  mem) 0 [(0, rf 203)] [] mem
  unfold fn_Model_readsWalker
  refine RO_bipush dc_Model_readsWalker_0 ?_
  refine RO_aload_n dc_Model_readsWalker_2 rfl rfl ?_
  refine RO_getR (b := 205) gf_Model_13 lk_203 rfl dc_Model_readsWalker_3 ?_
  refine RO_bipush dc_Model_readsWalker_6 ?_
  refine RO_ia lk_205 ⟨by decide, by decide⟩ dc_Model_readsWalker_8 ?_
  refine RO_iadd dc_Model_readsWalker_9 ?_
  refine RO_bnT (fun x1 => ?_)
  refine RO_istore_n dc_Model_readsWalker_10 rfl (Nat.le_of_ble_eq_true rfl) ?_
  refine RO_iload_n dc_Model_readsWalker_11 rfl rfl ?_
  refine RO_bipush dc_Model_readsWalker_12 ?_
  refine RO_icmp_ne (tgt := 23) dc_Model_readsWalker_14 rfl ?_ ?_
  · refine RO_aload_n dc_Model_readsWalker_17 rfl rfl ?_
    refine RO_iconst dc_Model_readsWalker_18 ?_
    refine RO_callVi (As := [vi 5]) (rest := []) mi_Model_fails mv_Model_fails ml_Model_245 lk_203 (Nat.le_of_ble_eq_true rfl) rfl (Nat.le_of_ble_eq_true rfl) (fun _ => rfl) dc_Model_readsWalker_19 (fun rq mq hq => pf_Model_fails 5  mem hq) (fun r2 m3 => ?_)
    refine RO_chk (fun hz4 => ?_)
    exact RO_zret rfl hz4 dc_Model_readsWalker_22
  · refine RO_aload_n dc_Model_readsWalker_23 rfl rfl ?_
    refine RO_callVv (As := []) (rest := []) mi_Model_nextToken mv_Model_nextToken ml_Model_252 lk_203 (Nat.le_of_ble_eq_true rfl) rfl (Nat.le_of_ble_eq_true rfl) dc_Model_readsWalker_24 (fun rq mq hq => pf_Model_nextToken   mem hq) (fun r5 m6 => ?_)
    refine RO_aload_n dc_Model_readsWalker_27 rfl rfl ?_
    refine RO_callVi (As := []) (rest := []) mi_Model_needsNew mv_Model_needsNew ml_Model_348 lk_203 (Nat.le_of_ble_eq_true rfl) rfl (Nat.le_of_ble_eq_true rfl) (fun _ => rfl) dc_Model_readsWalker_28 (fun rq mq hq => pf_Model_needsNew   m6 hq) (fun r7 m8 => ?_)
    refine RO_if_ne (tgt := 36) dc_Model_readsWalker_31 rfl ?_ ?_
    · refine RO_iconst dc_Model_readsWalker_34 ?_
      exact RO_zret rfl (Or.inl rfl) dc_Model_readsWalker_35
    · refine RO_aload_n dc_Model_readsWalker_36 rfl rfl ?_
      refine RO_getL gf_Model_345 lk_203 dc_Model_readsWalker_37 ?_
      refine RO_bnT (fun x9 => ?_)
      refine RO_lstore_n dc_Model_readsWalker_40 rfl (Nat.le_of_ble_eq_true rfl) ?_
      refine RO_aload_n dc_Model_readsWalker_41 rfl rfl ?_
      refine RO_getR (b := 210) gf_Model_29 lk_203 rfl dc_Model_readsWalker_42 ?_
      refine RO_iload_n dc_Model_readsWalker_45 rfl rfl ?_
      refine RO_aload_n dc_Model_readsWalker_46 rfl rfl ?_
      refine RO_ldc2 (x := 8740238) c2_Model_306 ⟨by decide, ⟨by decide, by decide⟩⟩ dc_Model_readsWalker_47 ?_
      refine RO_callVi (As := [vl 8740238]) (rest := [vi x1, rf 210]) mi_Model_isWord mv_Model_isWord ml_Model_237 lk_203 (Nat.le_of_ble_eq_true rfl) rfl (Nat.le_of_ble_eq_true rfl) (fun _ => rfl) dc_Model_readsWalker_50 (fun rq mq hq => pf_Model_isWord 8740238  m8 hq) (fun r10 m11 => ?_)
      refine RO_if_eq (tgt := 60) dc_Model_readsWalker_53 rfl ?_ ?_
      · refine RO_aload_n dc_Model_readsWalker_60 rfl rfl ?_
        refine RO_ldc2 (x := 383153) c2_Model_308 ⟨by decide, ⟨by decide, by decide⟩⟩ dc_Model_readsWalker_61 ?_
        refine RO_callVi (As := [vl 383153]) (rest := [vi x1, rf 210]) mi_Model_isWord mv_Model_isWord ml_Model_237 lk_203 (Nat.le_of_ble_eq_true rfl) rfl (Nat.le_of_ble_eq_true rfl) (fun _ => rfl) dc_Model_readsWalker_64 (fun rq mq hq => pf_Model_isWord 383153  m11 hq) (fun r12 m13 => ?_)
        refine RO_if_eq (tgt := 74) dc_Model_readsWalker_67 rfl ?_ ?_
        · refine RO_aload_n dc_Model_readsWalker_74 rfl rfl ?_
          refine RO_ldc2 (x := 180392) c2_Model_310 ⟨by decide, ⟨by decide, by decide⟩⟩ dc_Model_readsWalker_75 ?_
          refine RO_callVi (As := [vl 180392]) (rest := [vi x1, rf 210]) mi_Model_isWord mv_Model_isWord ml_Model_237 lk_203 (Nat.le_of_ble_eq_true rfl) rfl (Nat.le_of_ble_eq_true rfl) (fun _ => rfl) dc_Model_readsWalker_78 (fun rq mq hq => pf_Model_isWord 180392  m13 hq) (fun r14 m15 => ?_)
          refine RO_if_eq (tgt := 88) dc_Model_readsWalker_81 rfl ?_ ?_
          · refine RO_aload_n dc_Model_readsWalker_88 rfl rfl ?_
            refine RO_ldc2 (x := 1424261) c2_Model_312 ⟨by decide, ⟨by decide, by decide⟩⟩ dc_Model_readsWalker_89 ?_
            refine RO_callVi (As := [vl 1424261]) (rest := [vi x1, rf 210]) mi_Model_isWord mv_Model_isWord ml_Model_237 lk_203 (Nat.le_of_ble_eq_true rfl) rfl (Nat.le_of_ble_eq_true rfl) (fun _ => rfl) dc_Model_readsWalker_92 (fun rq mq hq => pf_Model_isWord 1424261  m15 hq) (fun r16 m17 => ?_)
            refine RO_if_eq (tgt := 102) dc_Model_readsWalker_95 rfl ?_ ?_
            · refine RO_iconst dc_Model_readsWalker_102 ?_
              refine RO_sub ?_ (rb_Model_readsWalker_103 x1 x9 x1 (-1) m17)
              exact ⟨rfl, rfl, rfl, trivial⟩
            · refine RO_iconst dc_Model_readsWalker_98 ?_
              refine RO_goto (tgt := 103) dc_Model_readsWalker_99 rfl ?_
              refine RO_sub ?_ (rb_Model_readsWalker_103 x1 x9 x1 3 m17)
              exact ⟨rfl, rfl, rfl, trivial⟩
          · refine RO_iconst dc_Model_readsWalker_84 ?_
            refine RO_goto (tgt := 103) dc_Model_readsWalker_85 rfl ?_
            refine RO_sub ?_ (rb_Model_readsWalker_103 x1 x9 x1 2 m15)
            exact ⟨rfl, rfl, rfl, trivial⟩
        · refine RO_iconst dc_Model_readsWalker_70 ?_
          refine RO_goto (tgt := 103) dc_Model_readsWalker_71 rfl ?_
          refine RO_sub ?_ (rb_Model_readsWalker_103 x1 x9 x1 1 m13)
          exact ⟨rfl, rfl, rfl, trivial⟩
      · refine RO_iconst dc_Model_readsWalker_56 ?_
        refine RO_goto (tgt := 103) dc_Model_readsWalker_57 rfl ?_
        refine RO_sub ?_ (rb_Model_readsWalker_103 x1 x9 x1 0 m11)
        exact ⟨rfl, rfl, rfl, trivial⟩
