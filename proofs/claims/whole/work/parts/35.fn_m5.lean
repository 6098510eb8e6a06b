def fn_Model_needsNumber (p1 : Int) (p2 : Int) (mem : Mm) : Res := if (mem 203 6) = 2 then (bd (fn_Model_within (mem 203 8) p1 p2 mem) fun r1 m2 => if r1 = 0 then (bd (fn_Model_fails 4 m2) fun r3 m4 => if r3 = 0 ∨ r3 = 1 then some (r3, m4) else none) else (bn (mst m2 203 42 (m2 203 8)) fun m6 => bd (fn_Model_nextToken  m6) fun r7 m8 => some (1, m8))) else (bd (fn_Model_fails 1 mem) fun r9 m10 => if r9 = 0 ∨ r9 = 1 then some (r9, m10) else none)
set_option maxHeartbeats 4000000 in
theorem pf_Model_needsNumber {E : EE} (p1 : Int) (p2 : Int)  (mem : Mm) {r : Int} {mem9 : Mm} (h : fn_Model_needsNumber p1 p2 mem = some (r, mem9)) : MetX E 3 yn_Model_needsNumber cd_Model_needsNumber 3 (some .boolean) [rf 203, vi p1, vi p2] mem r mem9 := by
  refine RO_met (y := yn_Model_needsNumber) (by decide +kernel) (Nat.le_of_ble_eq_true rfl) ?_ h
  show RO E mt_Model_needsNumber (fn_Model_needsNumber p1 p2 mem) 0 [(0, rf 203), (1, vi p1), (2, vi p2)] [] mem
  unfold fn_Model_needsNumber
  refine RO_aload_n dc_Model_needsNumber_0 rfl rfl ?_
  refine RO_getI gf_Model_208 lk_203 dc_Model_needsNumber_1 ?_
  refine RO_iconst dc_Model_needsNumber_4 ?_
  refine RO_icmp_eq (tgt := 14) dc_Model_needsNumber_5 rfl ?_ ?_
  · refine RO_aload_n dc_Model_needsNumber_14 rfl rfl ?_
    refine RO_getI gf_Model_205 lk_203 dc_Model_needsNumber_15 ?_
    refine RO_iload_n dc_Model_needsNumber_18 rfl rfl ?_
    refine RO_iload_n dc_Model_needsNumber_19 rfl rfl ?_
    refine RO_callSi (As := [vi (mem 203 8), vi p1, vi p2]) (rest := []) mi_Model_within ms_Model_within ml_Model_318 (Nat.le_of_ble_eq_true rfl) rfl (Nat.le_of_ble_eq_true rfl) (fun _ => rfl) dc_Model_needsNumber_20 (fun rq mq hq => pf_Model_within (mem 203 8) p1 p2  mem hq) (fun r1 m2 => ?_)
    refine RO_if_ne (tgt := 32) dc_Model_needsNumber_23 rfl ?_ ?_
    · refine RO_aload_n dc_Model_needsNumber_26 rfl rfl ?_
      refine RO_iconst dc_Model_needsNumber_27 ?_
      refine RO_callVi (As := [vi 4]) (rest := []) mi_Model_fails mv_Model_fails ml_Model_245 lk_203 (Nat.le_of_ble_eq_true rfl) rfl (Nat.le_of_ble_eq_true rfl) (fun _ => rfl) dc_Model_needsNumber_28 (fun rq mq hq => pf_Model_fails 4  m2 hq) (fun r3 m4 => ?_)
      refine RO_chk (fun hz5 => ?_)
      exact RO_zret rfl hz5 dc_Model_needsNumber_31
    · refine RO_aload_n dc_Model_needsNumber_32 rfl rfl ?_
      refine RO_aload_n dc_Model_needsNumber_33 rfl rfl ?_
      refine RO_getI gf_Model_205 lk_203 dc_Model_needsNumber_34 ?_
      refine RO_putI gp_Model_322 lk_203 dc_Model_needsNumber_37 ?_
      refine RO_bnM (fun m6 => ?_)
      refine RO_aload_n dc_Model_needsNumber_40 rfl rfl ?_
      refine RO_callVv (As := []) (rest := []) mi_Model_nextToken mv_Model_nextToken ml_Model_252 lk_203 (Nat.le_of_ble_eq_true rfl) rfl (Nat.le_of_ble_eq_true rfl) dc_Model_needsNumber_41 (fun rq mq hq => pf_Model_nextToken   m6 hq) (fun r7 m8 => ?_)
      refine RO_iconst dc_Model_needsNumber_44 ?_
      exact RO_zret rfl (Or.inr rfl) dc_Model_needsNumber_45
  · refine RO_aload_n dc_Model_needsNumber_8 rfl rfl ?_
    refine RO_iconst dc_Model_needsNumber_9 ?_
    refine RO_callVi (As := [vi 1]) (rest := []) mi_Model_fails mv_Model_fails ml_Model_245 lk_203 (Nat.le_of_ble_eq_true rfl) rfl (Nat.le_of_ble_eq_true rfl) (fun _ => rfl) dc_Model_needsNumber_10 (fun rq mq hq => pf_Model_fails 1  mem hq) (fun r9 m10 => ?_)
    refine RO_chk (fun hz11 => ?_)
    exact RO_zret rfl hz11 dc_Model_needsNumber_13
def fn_Model_needsWord (p1 : Int) (mem : Mm) : Res := bd (fn_Model_isWord p1 mem) fun r1 m2 => if r1 = 0 then (bd (fn_Model_fails 1 m2) fun r3 m4 => if r3 = 0 ∨ r3 = 1 then some (r3, m4) else none) else (bd (fn_Model_nextToken  m2) fun r6 m7 => some (1, m7))
set_option maxHeartbeats 4000000 in
theorem pf_Model_needsWord {E : EE} (p1 : Int)  (mem : Mm) {r : Int} {mem9 : Mm} (h : fn_Model_needsWord p1 mem = some (r, mem9)) : MetX E 3 yn_Model_needsWord cd_Model_needsWord 3 (some .boolean) [rf 203, vl p1] mem r mem9 := by
  refine RO_met (y := yn_Model_needsWord) (by decide +kernel) (Nat.le_of_ble_eq_true rfl) ?_ h
  show RO E mt_Model_needsWord (fn_Model_needsWord p1 mem) 0 [(0, rf 203), (1, vl p1)] [] mem
  unfold fn_Model_needsWord
  refine RO_aload_n dc_Model_needsWord_0 rfl rfl ?_
  refine RO_lload_n dc_Model_needsWord_1 rfl rfl ?_
  refine RO_callVi (As := [vl p1]) (rest := []) mi_Model_isWord mv_Model_isWord ml_Model_237 lk_203 (Nat.le_of_ble_eq_true rfl) rfl (Nat.le_of_ble_eq_true rfl) (fun _ => rfl) dc_Model_needsWord_2 (fun rq mq hq => pf_Model_isWord p1  mem hq) (fun r1 m2 => ?_)
  refine RO_if_ne (tgt := 14) dc_Model_needsWord_5 rfl ?_ ?_
  · refine RO_aload_n dc_Model_needsWord_8 rfl rfl ?_
    refine RO_iconst dc_Model_needsWord_9 ?_
    refine RO_callVi (As := [vi 1]) (rest := []) mi_Model_fails mv_Model_fails ml_Model_245 lk_203 (Nat.le_of_ble_eq_true rfl) rfl (Nat.le_of_ble_eq_true rfl) (fun _ => rfl) dc_Model_needsWord_10 (fun rq mq hq => pf_Model_fails 1  m2 hq) (fun r3 m4 => ?_)
    refine RO_chk (fun hz5 => ?_)
    exact RO_zret rfl hz5 dc_Model_needsWord_13
  · refine RO_aload_n dc_Model_needsWord_14 rfl rfl ?_
    refine RO_callVv (As := []) (rest := []) mi_Model_nextToken mv_Model_nextToken ml_Model_252 lk_203 (Nat.le_of_ble_eq_true rfl) rfl (Nat.le_of_ble_eq_true rfl) dc_Model_needsWord_15 (fun rq mq hq => pf_Model_nextToken   m2 hq) (fun r6 m7 => ?_)
    refine RO_iconst dc_Model_needsWord_18 ?_
    exact RO_zret rfl (Or.inr rfl) dc_Model_needsWord_19
def fn_Model_closes  (mem : Mm) : Res := bd (fn_Model_isSign 59 mem) fun r1 m2 => if r1 = 0 then (bd (fn_Model_fails 1 m2) fun r3 m4 => if r3 = 0 ∨ r3 = 1 then some (r3, m4) else none) else (bd (fn_Model_nextToken  m2) fun r6 m7 => some (1, m7))
set_option maxHeartbeats 4000000 in
theorem pf_Model_closes {E : EE}   (mem : Mm) {r : Int} {mem9 : Mm} (h : fn_Model_closes  mem = some (r, mem9)) : MetX E 3 yn_Model_closes cd_Model_closes 1 (some .boolean) [rf 203] mem r mem9 := by
  refine RO_met (y := yn_Model_closes) (by decide +kernel) (Nat.le_of_ble_eq_true rfl) ?_ h
  show RO E mt_Model_closes (fn_Model_closes  mem) 0 [(0, rf 203)] [] mem
  unfold fn_Model_closes
  refine RO_aload_n dc_Model_closes_0 rfl rfl ?_
  refine RO_bipush dc_Model_closes_1 ?_
  refine RO_callVi (As := [vi 59]) (rest := []) mi_Model_isSign mv_Model_isSign ml_Model_241 lk_203 (Nat.le_of_ble_eq_true rfl) rfl (Nat.le_of_ble_eq_true rfl) (fun _ => rfl) dc_Model_closes_3 (fun rq mq hq => pf_Model_isSign 59  mem hq) (fun r1 m2 => ?_)
  refine RO_if_ne (tgt := 15) dc_Model_closes_6 rfl ?_ ?_
  · refine RO_aload_n dc_Model_closes_9 rfl rfl ?_
    refine RO_iconst dc_Model_closes_10 ?_
    refine RO_callVi (As := [vi 1]) (rest := []) mi_Model_fails mv_Model_fails ml_Model_245 lk_203 (Nat.le_of_ble_eq_true rfl) rfl (Nat.le_of_ble_eq_true rfl) (fun _ => rfl) dc_Model_closes_11 (fun rq mq hq => pf_Model_fails 1  m2 hq) (fun r3 m4 => ?_)
    refine RO_chk (fun hz5 => ?_)
    exact RO_zret rfl hz5 dc_Model_closes_14
  · refine RO_aload_n dc_Model_closes_15 rfl rfl ?_
    refine RO_callVv (As := []) (rest := []) mi_Model_nextToken mv_Model_nextToken ml_Model_252 lk_203 (Nat.le_of_ble_eq_true rfl) rfl (Nat.le_of_ble_eq_true rfl) dc_Model_closes_16 (fun rq mq hq => pf_Model_nextToken   m2 hq) (fun r6 m7 => ?_)
    refine RO_iconst dc_Model_closes_19 ?_
    exact RO_zret rfl (Or.inr rfl) dc_Model_closes_20
def bo_Model_needsNew_37    (mem : Mm) : Res := bd (fn_Model_fails 3 mem) fun r1 m2 => if r1 = 0 ∨ r1 = 1 then some (r1, m2) else none
set_option maxHeartbeats 4000000 in
theorem rb_Model_needsNew_37 {E : EE}       (mem : Mm) : RO E mt_Model_needsNew (bo_Model_needsNew_37    mem) 37 [(0, rf 203)] [] mem := by
  unfold bo_Model_needsNew_37
  refine RO_aload_n dc_Model_needsNew_37 rfl rfl ?_
  refine RO_iconst dc_Model_needsNew_38 ?_
  refine RO_callVi (As := [vi 3]) (rest := []) mi_Model_fails mv_Model_fails ml_Model_245 lk_203 (Nat.le_of_ble_eq_true rfl) rfl (Nat.le_of_ble_eq_true rfl) (fun _ => rfl) dc_Model_needsNew_39 (fun rq mq hq => pf_Model_fails 3  mem hq) (fun r1 m2 => ?_)
  refine RO_chk (fun hz3 => ?_)
  exact RO_zret rfl hz3 dc_Model_needsNew_42
def fn_Model_needsNew  (mem : Mm) : Res := bd (fn_Model_isKept  mem) fun r1 m2 => if r1 = 0 then (bd (fn_Model_placeNamed 1 m2) fun r3 m4 => if r3 < 0 then (bd (fn_Model_walkerNamed 1 m4) fun r5 m6 => if r5 < 0 then (bd (fn_Model_hourNamed 1 m6) fun r7 m8 => if r7 < 0 then (bn (mst m8 203 43 (m8 203 7)) fun m9 => bd (fn_Model_nextToken  m9) fun r10 m11 => some (1, m11)) else (bo_Model_needsNew_37 m8)) else (bo_Model_needsNew_37 m6)) else (bo_Model_needsNew_37 m4)) else (bd (fn_Model_fails 1 m2) fun r12 m13 => if r12 = 0 ∨ r12 = 1 then some (r12, m13) else none)
set_option maxHeartbeats 4000000 in
theorem pf_Model_needsNew {E : EE}   (mem : Mm) {r : Int} {mem9 : Mm} (h : fn_Model_needsNew  mem = some (r, mem9)) : MetX E 3 yn_Model_needsNew cd_Model_needsNew 1 (some .boolean) [rf 203] mem r mem9 := by
  refine RO_met (y := yn_Model_needsNew) (by decide +kernel) (Nat.le_of_ble_eq_true rfl) ?_ h
  show RO E mt_Model_needsNew (fn_Model_needsNew  mem) 0 [(0, rf 203)] [] mem
  unfold fn_Model_needsNew
  refine RO_aload_n dc_Model_needsNew_0 rfl rfl ?_
  refine RO_callVi (As := []) (rest := []) mi_Model_isKept mv_Model_isKept ml_Model_332 lk_203 (Nat.le_of_ble_eq_true rfl) rfl (Nat.le_of_ble_eq_true rfl) (fun _ => rfl) dc_Model_needsNew_1 (fun rq mq hq => pf_Model_isKept   mem hq) (fun r1 m2 => ?_)
  refine RO_if_eq (tgt := 13) dc_Model_needsNew_4 rfl ?_ ?_
  · refine RO_aload_n dc_Model_needsNew_13 rfl rfl ?_
    refine RO_iconst dc_Model_needsNew_14 ?_
    refine RO_callVi (As := [vi 1]) (rest := []) mi_Model_placeNamed mv_Model_placeNamed ml_Model_336 lk_203 (Nat.le_of_ble_eq_true rfl) rfl (Nat.le_of_ble_eq_true rfl) (fun _ => rfl) dc_Model_needsNew_15 (fun rq mq hq => pf_Model_placeNamed 1  m2 hq) (fun r3 m4 => ?_)
    refine RO_if_ge (tgt := 37) dc_Model_needsNew_18 rfl ?_ ?_
    · refine RO_aload_n dc_Model_needsNew_21 rfl rfl ?_
      refine RO_iconst dc_Model_needsNew_22 ?_
      refine RO_callVi (As := [vi 1]) (rest := []) mi_Model_walkerNamed mv_Model_walkerNamed ml_Model_339 lk_203 (Nat.le_of_ble_eq_true rfl) rfl (Nat.le_of_ble_eq_true rfl) (fun _ => rfl) dc_Model_needsNew_23 (fun rq mq hq => pf_Model_walkerNamed 1  m4 hq) (fun r5 m6 => ?_)
      refine RO_if_ge (tgt := 37) dc_Model_needsNew_26 rfl ?_ ?_
      · refine RO_aload_n dc_Model_needsNew_29 rfl rfl ?_
        refine RO_iconst dc_Model_needsNew_30 ?_
        refine RO_callVi (As := [vi 1]) (rest := []) mi_Model_hourNamed mv_Model_hourNamed ml_Model_342 lk_203 (Nat.le_of_ble_eq_true rfl) rfl (Nat.le_of_ble_eq_true rfl) (fun _ => rfl) dc_Model_needsNew_31 (fun rq mq hq => pf_Model_hourNamed 1  m6 hq) (fun r7 m8 => ?_)
        refine RO_if_lt (tgt := 43) dc_Model_needsNew_34 rfl ?_ ?_
        · refine RO_aload_n dc_Model_needsNew_43 rfl rfl ?_
          refine RO_aload_n dc_Model_needsNew_44 rfl rfl ?_
          refine RO_getL gf_Model_201 lk_203 dc_Model_needsNew_45 ?_
          refine RO_putL gp_Model_345 lk_203 dc_Model_needsNew_48 ?_
          refine RO_bnM (fun m9 => ?_)
          refine RO_aload_n dc_Model_needsNew_51 rfl rfl ?_
          refine RO_callVv (As := []) (rest := []) mi_Model_nextToken mv_Model_nextToken ml_Model_252 lk_203 (Nat.le_of_ble_eq_true rfl) rfl (Nat.le_of_ble_eq_true rfl) dc_Model_needsNew_52 (fun rq mq hq => pf_Model_nextToken   m9 hq) (fun r10 m11 => ?_)
          refine RO_iconst dc_Model_needsNew_55 ?_
          exact RO_zret rfl (Or.inr rfl) dc_Model_needsNew_56
        · refine RO_sub ?_ (rb_Model_needsNew_37 m8)
          exact ⟨rfl, trivial⟩
      · refine RO_sub ?_ (rb_Model_needsNew_37 m6)
        exact ⟨rfl, trivial⟩
    · refine RO_sub ?_ (rb_Model_needsNew_37 m4)
      exact ⟨rfl, trivial⟩
  · refine RO_aload_n dc_Model_needsNew_7 rfl rfl ?_
    refine RO_iconst dc_Model_needsNew_8 ?_
    refine RO_callVi (As := [vi 1]) (rest := []) mi_Model_fails mv_Model_fails ml_Model_245 lk_203 (Nat.le_of_ble_eq_true rfl) rfl (Nat.le_of_ble_eq_true rfl) (fun _ => rfl) dc_Model_needsNew_9 (fun rq mq hq => pf_Model_fails 1  m2 hq) (fun r12 m13 => ?_)
    refine RO_chk (fun hz14 => ?_)
    exact RO_zret rfl hz14 dc_Model_needsNew_12
def fn_Model_needsPlace (p1 : Int) (mem : Mm) : Res := bd (fn_Model_isKept  mem) fun r1 m2 => if r1 = 0 then (bd (fn_Model_placeNamed p1 m2) fun r3 m4 => bn (mst m4 203 42 r3) fun m5 => if (m5 203 42) < 0 then (bd (fn_Model_fails 2 m5) fun r6 m7 => if r6 = 0 then (some (0, m7)) else (some (1, m7))) else (some (1, m5))) else (bd (fn_Model_fails 1 m2) fun r8 m9 => if r8 = 0 ∨ r8 = 1 then some (r8, m9) else none)
set_option maxHeartbeats 4000000 in
theorem pf_Model_needsPlace {E : EE} (p1 : Int)  (mem : Mm) {r : Int} {mem9 : Mm} (h : fn_Model_needsPlace p1 mem = some (r, mem9)) : MetX E 3 yn_Model_needsPlace cd_Model_needsPlace 2 (some .boolean) [rf 203, vi p1] mem r mem9 := by
  refine RO_met (y := yn_Model_needsPlace) (by decide +kernel) (Nat.le_of_ble_eq_true rfl) ?_ h
  show RO E mt_Model_needsPlace (fn_Model_needsPlace p1 mem) 0 [(0, rf 203), (1, vi p1)] [] mem
  unfold fn_Model_needsPlace
  refine RO_aload_n dc_Model_needsPlace_0 rfl rfl ?_
  refine RO_callVi (As := []) (rest := []) mi_Model_isKept mv_Model_isKept ml_Model_332 lk_203 (Nat.le_of_ble_eq_true rfl) rfl (Nat.le_of_ble_eq_true rfl) (fun _ => rfl) dc_Model_needsPlace_1 (fun rq mq hq => pf_Model_isKept   mem hq) (fun r1 m2 => ?_)
  refine RO_if_eq (tgt := 13) dc_Model_needsPlace_4 rfl ?_ ?_
  · refine RO_aload_n dc_Model_needsPlace_13 rfl rfl ?_
    refine RO_aload_n dc_Model_needsPlace_14 rfl rfl ?_
    refine RO_iload_n dc_Model_needsPlace_15 rfl rfl ?_
    refine RO_callVi (As := [vi p1]) (rest := [rf 203]) mi_Model_placeNamed mv_Model_placeNamed ml_Model_336 lk_203 (Nat.le_of_ble_eq_true rfl) rfl (Nat.le_of_ble_eq_true rfl) (fun _ => rfl) dc_Model_needsPlace_16 (fun rq mq hq => pf_Model_placeNamed p1  m2 hq) (fun r3 m4 => ?_)
    refine RO_putI gp_Model_322 lk_203 dc_Model_needsPlace_19 ?_
    refine RO_bnM (fun m5 => ?_)
    refine RO_aload_n dc_Model_needsPlace_22 rfl rfl ?_
    refine RO_getI gf_Model_322 lk_203 dc_Model_needsPlace_23 ?_
    refine RO_if_ge (tgt := 37) dc_Model_needsPlace_26 rfl ?_ ?_
    · refine RO_aload_n dc_Model_needsPlace_29 rfl rfl ?_
      refine RO_iconst dc_Model_needsPlace_30 ?_
      refine RO_callVi (As := [vi 2]) (rest := []) mi_Model_fails mv_Model_fails ml_Model_245 lk_203 (Nat.le_of_ble_eq_true rfl) rfl (Nat.le_of_ble_eq_true rfl) (fun _ => rfl) dc_Model_needsPlace_31 (fun rq mq hq => pf_Model_fails 2  m5 hq) (fun r6 m7 => ?_)
      refine RO_if_eq (tgt := 41) dc_Model_needsPlace_34 rfl ?_ ?_
      · refine RO_iconst dc_Model_needsPlace_41 ?_
        exact RO_zret rfl (Or.inl rfl) dc_Model_needsPlace_42
      · refine RO_iconst dc_Model_needsPlace_37 ?_
        refine RO_goto (tgt := 42) dc_Model_needsPlace_38 rfl ?_
        exact RO_zret rfl (Or.inr rfl) dc_Model_needsPlace_42
    · refine RO_iconst dc_Model_needsPlace_37 ?_
      refine RO_goto (tgt := 42) dc_Model_needsPlace_38 rfl ?_
      exact RO_zret rfl (Or.inr rfl) dc_Model_needsPlace_42
  · refine RO_aload_n dc_Model_needsPlace_7 rfl rfl ?_
    refine RO_iconst dc_Model_needsPlace_8 ?_
    refine RO_callVi (As := [vi 1]) (rest := []) mi_Model_fails mv_Model_fails ml_Model_245 lk_203 (Nat.le_of_ble_eq_true rfl) rfl (Nat.le_of_ble_eq_true rfl) (fun _ => rfl) dc_Model_needsPlace_9 (fun rq mq hq => pf_Model_fails 1  m2 hq) (fun r8 m9 => ?_)
    refine RO_chk (fun hz10 => ?_)
    exact RO_zret rfl hz10 dc_Model_needsPlace_12
def fn_Model_needsWalker (p1 : Int) (mem : Mm) : Res := bd (fn_Model_isKept  mem) fun r1 m2 => if r1 = 0 then (bd (fn_Model_walkerNamed p1 m2) fun r3 m4 => bn (mst m4 203 42 r3) fun m5 => if (m5 203 42) < 0 then (bd (fn_Model_fails 2 m5) fun r6 m7 => if r6 = 0 then (some (0, m7)) else (some (1, m7))) else (some (1, m5))) else (bd (fn_Model_fails 1 m2) fun r8 m9 => if r8 = 0 ∨ r8 = 1 then some (r8, m9) else none)
set_option maxHeartbeats 4000000 in
theorem pf_Model_needsWalker {E : EE} (p1 : Int)  (mem : Mm) {r : Int} {mem9 : Mm} (h : fn_Model_needsWalker p1 mem = some (r, mem9)) : MetX E 3 yn_Model_needsWalker cd_Model_needsWalker 2 (some .boolean) [rf 203, vi p1] mem r mem9 := by
  refine RO_met (y := yn_Model_needsWalker) (by decide +kernel) (Nat.le_of_ble_eq_true rfl) ?_ h
  show RO E mt_Model_needsWalker (fn_Model_needsWalker p1 mem) 0 [(0, rf 203), (1, vi p1)] [] mem
  unfold fn_Model_needsWalker
  refine RO_aload_n dc_Model_needsWalker_0 rfl rfl ?_
  refine RO_callVi (As := []) (rest := []) mi_Model_isKept mv_Model_isKept ml_Model_332 lk_203 (Nat.le_of_ble_eq_true rfl) rfl (Nat.le_of_ble_eq_true rfl) (fun _ => rfl) dc_Model_needsWalker_1 (fun rq mq hq => pf_Model_isKept   mem hq) (fun r1 m2 => ?_)
  refine RO_if_eq (tgt := 13) dc_Model_needsWalker_4 rfl ?_ ?_
  · refine RO_aload_n dc_Model_needsWalker_13 rfl rfl ?_
    refine RO_aload_n dc_Model_needsWalker_14 rfl rfl ?_
    refine RO_iload_n dc_Model_needsWalker_15 rfl rfl ?_
    refine RO_callVi (As := [vi p1]) (rest := [rf 203]) mi_Model_walkerNamed mv_Model_walkerNamed ml_Model_339 lk_203 (Nat.le_of_ble_eq_true rfl) rfl (Nat.le_of_ble_eq_true rfl) (fun _ => rfl) dc_Model_needsWalker_16 (fun rq mq hq => pf_Model_walkerNamed p1  m2 hq) (fun r3 m4 => ?_)
    refine RO_putI gp_Model_322 lk_203 dc_Model_needsWalker_19 ?_
    refine RO_bnM (fun m5 => ?_)
    refine RO_aload_n dc_Model_needsWalker_22 rfl rfl ?_
    refine RO_getI gf_Model_322 lk_203 dc_Model_needsWalker_23 ?_
    refine RO_if_ge (tgt := 37) dc_Model_needsWalker_26 rfl ?_ ?_
    · refine RO_aload_n dc_Model_needsWalker_29 rfl rfl ?_
      refine RO_iconst dc_Model_needsWalker_30 ?_
      refine RO_callVi (As := [vi 2]) (rest := []) mi_Model_fails mv_Model_fails ml_Model_245 lk_203 (Nat.le_of_ble_eq_true rfl) rfl (Nat.le_of_ble_eq_true rfl) (fun _ => rfl) dc_Model_needsWalker_31 (fun rq mq hq => pf_Model_fails 2  m5 hq) (fun r6 m7 => ?_)
      refine RO_if_eq (tgt := 41) dc_Model_needsWalker_34 rfl ?_ ?_
      · refine RO_iconst dc_Model_needsWalker_41 ?_
        exact RO_zret rfl (Or.inl rfl) dc_Model_needsWalker_42
      · refine RO_iconst dc_Model_needsWalker_37 ?_
        refine RO_goto (tgt := 42) dc_Model_needsWalker_38 rfl ?_
        exact RO_zret rfl (Or.inr rfl) dc_Model_needsWalker_42
    · refine RO_iconst dc_Model_needsWalker_37 ?_
      refine RO_goto (tgt := 42) dc_Model_needsWalker_38 rfl ?_
      exact RO_zret rfl (Or.inr rfl) dc_Model_needsWalker_42
  · refine RO_aload_n dc_Model_needsWalker_7 rfl rfl ?_
    refine RO_iconst dc_Model_needsWalker_8 ?_
    refine RO_callVi (As := [vi 1]) (rest := []) mi_Model_fails mv_Model_fails ml_Model_245 lk_203 (Nat.le_of_ble_eq_true rfl) rfl (Nat.le_of_ble_eq_true rfl) (fun _ => rfl) dc_Model_needsWalker_9 (fun rq mq hq => pf_Model_fails 1  m2 hq) (fun r8 m9 => ?_)
    refine RO_chk (fun hz10 => ?_)
    exact RO_zret rfl hz10 dc_Model_needsWalker_12
def fn_Model_begins  (mem : Mm) : Res := bn (mst mem 203 3 (mem 203 1)) fun m1 => bn (mst m1 203 1 0) fun m2 => bn (mst m2 203 4 0) fun m3 => bd (fn_Model_nextToken  m3) fun r4 m5 => some (0, m5)
set_option maxHeartbeats 4000000 in
theorem pf_Model_begins {E : EE}   (mem : Mm) {r : Int} {mem9 : Mm} (h : fn_Model_begins  mem = some (r, mem9)) : MetX E 3 yn_Model_begins cd_Model_begins 1 none [rf 203] mem r mem9 := by
  refine RO_met (y := yn_Model_begins) (by decide +kernel) (Nat.le_of_ble_eq_true rfl) ?_ h
  show RO E mt_Model_begins (fn_Model_begins  mem) 0 [(0, rf 203)] [] mem
  unfold fn_Model_begins
  refine RO_aload_n dc_Model_begins_0 rfl rfl ?_
  refine RO_aload_n dc_Model_begins_1 rfl rfl ?_
  refine RO_getI gf_Model_189 lk_203 dc_Model_begins_2 ?_
  refine RO_putI gp_Model_192 lk_203 dc_Model_begins_5 ?_
  refine RO_bnM (fun m1 => ?_)
  refine RO_aload_n dc_Model_begins_8 rfl rfl ?_
  refine RO_iconst dc_Model_begins_9 ?_
  refine RO_putI gp_Model_189 lk_203 dc_Model_begins_10 ?_
  refine RO_bnM (fun m2 => ?_)
  refine RO_aload_n dc_Model_begins_13 rfl rfl ?_
  refine RO_iconst dc_Model_begins_14 ?_
  refine RO_putI gp_Model_195 lk_203 dc_Model_begins_15 ?_
  refine RO_bnM (fun m3 => ?_)
  refine RO_aload_n dc_Model_begins_18 rfl rfl ?_
  refine RO_callVv (As := []) (rest := []) mi_Model_nextToken mv_Model_nextToken ml_Model_252 lk_203 (Nat.le_of_ble_eq_true rfl) rfl (Nat.le_of_ble_eq_true rfl) dc_Model_begins_19 (fun rq mq hq => pf_Model_nextToken   m3 hq) (fun r4 m5 => ?_)
  exact RO_vret rfl dc_Model_begins_22
def fn_Model_goesOn (p1 : Int) (p2 : Int) (mem : Mm) : Res := if 0 ≤ p1 ∧ p1 < 6 then if 0 ≤ p1 ∧ p1 < 12 then if (w32 ((mem 252 p1.toNat) + 1)) = (mem 215 p1.toNat) then (some (0, mem)) else (if 0 ≤ p1 ∧ p1 < 6 then if 0 ≤ w32 ((w32 ((w32 (4 * p1)) + (mem 252 p1.toNat))) + 1) ∧ w32 ((w32 ((w32 (4 * p1)) + (mem 252 p1.toNat))) + 1) < 48 then bn (mem 214 (w32 ((w32 ((w32 (4 * p1)) + (mem 252 p1.toNat))) + 1)).toNat) fun x5 => bd (fn_Model_placeIn p1 mem) fun r6 m7 => if 0 ≤ w32 ((w32 (6 * r6)) + x5) ∧ w32 ((w32 (6 * r6)) + x5) < 36 then if (m7 250 (w32 ((w32 (6 * r6)) + x5)).toNat) < 100000 then (bd (fn_Model_minutesTo p1 x5 m7) fun r9 m10 => if 0 ≤ p1 ∧ p1 < 6 then bn (mst m10 253 p1.toNat (w32 (p2 + r9))) fun m12 => if 0 ≤ p1 ∧ p1 < 6 then if 0 ≤ p1 ∧ p1 < 6 then bn (mst m12 252 p1.toNat (w32 ((m12 252 p1.toNat) + 1))) fun m15 => if 0 ≤ p1 ∧ p1 < 6 then bn (mst m15 254 p1.toNat 0) fun m17 => some (0, m17) else none else none else none else none) else (some (0, m7)) else none else none else none) else none else none
set_option maxHeartbeats 4000000 in
theorem pf_Model_goesOn {E : EE} (p1 : Int) (p2 : Int)  (mem : Mm) {r : Int} {mem9 : Mm} (h : fn_Model_goesOn p1 p2 mem = some (r, mem9)) : MetX E 3 yn_Model_goesOn cd_Model_goesOn 4 none [rf 203, vi p1, vi p2] mem r mem9 := by
  refine RO_met (y := yn_Model_goesOn) (by decide +kernel) (Nat.le_of_ble_eq_true rfl) ?_ h
  show RO E mt_Model_goesOn (fn_Model_goesOn p1 p2 mem) 0 [(0, rf 203), (1, vi p1), (2, vi p2)] [] mem
  unfold fn_Model_goesOn
  refine RO_aload_n dc_Model_goesOn_0 rfl rfl ?_
  refine RO_getR (b := 252) gf_Model_156 lk_203 rfl dc_Model_goesOn_1 ?_
  refine RO_iload_n dc_Model_goesOn_4 rfl rfl ?_
  refine RO_chk (fun hi1 => ?_)
  refine RO_ia lk_252 hi1 dc_Model_goesOn_5 ?_
  refine RO_iconst dc_Model_goesOn_6 ?_
  refine RO_iadd dc_Model_goesOn_7 ?_
  refine RO_aload_n dc_Model_goesOn_8 rfl rfl ?_
  refine RO_getR (b := 215) gf_Model_44 lk_203 rfl dc_Model_goesOn_9 ?_
  refine RO_iload_n dc_Model_goesOn_12 rfl rfl ?_
  refine RO_chk (fun hi2 => ?_)
  refine RO_ia lk_215 hi2 dc_Model_goesOn_13 ?_
  refine RO_icmp_ne (tgt := 18) dc_Model_goesOn_14 rfl ?_ ?_
  · exact RO_vret rfl dc_Model_goesOn_17
  · refine RO_aload_n dc_Model_goesOn_18 rfl rfl ?_
    refine RO_getR (b := 214) gf_Model_41 lk_203 rfl dc_Model_goesOn_19 ?_
    refine RO_iconst dc_Model_goesOn_22 ?_
    refine RO_iload_n dc_Model_goesOn_23 rfl rfl ?_
    refine RO_imul dc_Model_goesOn_24 ?_
    refine RO_aload_n dc_Model_goesOn_25 rfl rfl ?_
    refine RO_getR (b := 252) gf_Model_156 lk_203 rfl dc_Model_goesOn_26 ?_
    refine RO_iload_n dc_Model_goesOn_29 rfl rfl ?_
    refine RO_chk (fun hi3 => ?_)
    refine RO_ia lk_252 hi3 dc_Model_goesOn_30 ?_
    refine RO_iadd dc_Model_goesOn_31 ?_
    refine RO_iconst dc_Model_goesOn_32 ?_
    refine RO_iadd dc_Model_goesOn_33 ?_
    refine RO_chk (fun hi4 => ?_)
    refine RO_ia lk_214 hi4 dc_Model_goesOn_34 ?_
    refine RO_bnT (fun x5 => ?_)
    refine RO_istore_n dc_Model_goesOn_35 rfl (Nat.le_of_ble_eq_true rfl) ?_
    refine RO_aload_n dc_Model_goesOn_36 rfl rfl ?_
    refine RO_getR (b := 250) gf_Model_150 lk_203 rfl dc_Model_goesOn_37 ?_
    refine RO_bipush dc_Model_goesOn_40 ?_
    refine RO_aload_n dc_Model_goesOn_42 rfl rfl ?_
    refine RO_iload_n dc_Model_goesOn_43 rfl rfl ?_
    refine RO_callVi (As := [vi p1]) (rest := [vi 6, rf 250]) mi_Model_placeIn mv_Model_placeIn ml_Model_436 lk_203 (Nat.le_of_ble_eq_true rfl) rfl (Nat.le_of_ble_eq_true rfl) (fun _ => rfl) dc_Model_goesOn_44 (fun rq mq hq => pf_Model_placeIn p1  mem hq) (fun r6 m7 => ?_)
    refine RO_imul dc_Model_goesOn_47 ?_
    refine RO_iload_n dc_Model_goesOn_48 rfl rfl ?_
    refine RO_iadd dc_Model_goesOn_49 ?_
    refine RO_chk (fun hi8 => ?_)
    refine RO_ia lk_250 hi8 dc_Model_goesOn_50 ?_
    refine RO_ldcw (x := 100000) c1_Model_426 ⟨by decide, ⟨by decide, by decide⟩⟩ dc_Model_goesOn_51 ?_
    refine RO_icmp_lt (tgt := 58) dc_Model_goesOn_54 rfl ?_ ?_
    · refine RO_aload_n dc_Model_goesOn_58 rfl rfl ?_
      refine RO_getR (b := 253) gf_Model_159 lk_203 rfl dc_Model_goesOn_59 ?_
      refine RO_iload_n dc_Model_goesOn_62 rfl rfl ?_
      refine RO_iload_n dc_Model_goesOn_63 rfl rfl ?_
      refine RO_aload_n dc_Model_goesOn_64 rfl rfl ?_
      refine RO_iload_n dc_Model_goesOn_65 rfl rfl ?_
      refine RO_iload_n dc_Model_goesOn_66 rfl rfl ?_
      refine RO_callVi (As := [vi p1, vi x5]) (rest := [vi p2, vi p1, rf 253]) mi_Model_minutesTo mv_Model_minutesTo ml_Model_439 lk_203 (Nat.le_of_ble_eq_true rfl) rfl (Nat.le_of_ble_eq_true rfl) (fun _ => rfl) dc_Model_goesOn_67 (fun rq mq hq => pf_Model_minutesTo p1 x5  m7 hq) (fun r9 m10 => ?_)
      refine RO_iadd dc_Model_goesOn_70 ?_
      refine RO_chk (fun hi11 => ?_)
      refine RO_is lk_253 hi11 dc_Model_goesOn_71 ?_
      refine RO_bnM (fun m12 => ?_)
      refine RO_aload_n dc_Model_goesOn_72 rfl rfl ?_
      refine RO_getR (b := 252) gf_Model_156 lk_203 rfl dc_Model_goesOn_73 ?_
      refine RO_iload_n dc_Model_goesOn_76 rfl rfl ?_
      refine RO_dup2 dc_Model_goesOn_77 (nt0 _) (nt2 _) ?_
      refine RO_chk (fun hi13 => ?_)
      refine RO_ia lk_252 hi13 dc_Model_goesOn_78 ?_
      refine RO_iconst dc_Model_goesOn_79 ?_
      refine RO_iadd dc_Model_goesOn_80 ?_
      refine RO_chk (fun hi14 => ?_)
      refine RO_is lk_252 hi14 dc_Model_goesOn_81 ?_
      refine RO_bnM (fun m15 => ?_)
      refine RO_aload_n dc_Model_goesOn_82 rfl rfl ?_
      refine RO_getR (b := 254) gf_Model_162 lk_203 rfl dc_Model_goesOn_83 ?_
      refine RO_iload_n dc_Model_goesOn_86 rfl rfl ?_
      refine RO_iconst dc_Model_goesOn_87 ?_
      refine RO_chk (fun hi16 => ?_)
      refine RO_zs lk_254 hi16 (Or.inl rfl) dc_Model_goesOn_88 ?_
      refine RO_bnM (fun m17 => ?_)
      exact RO_vret rfl dc_Model_goesOn_89
    · exact RO_vret rfl dc_Model_goesOn_57
def fn_Model_lies (p1 : Int) (p2 : Int) (mem : Mm) : Res := bd (fn_Model_keeps  mem) fun r1 m2 => if 0 ≤ p1 ∧ p1 < 16 then bn (mst m2 245 p1.toNat p2) fun m4 => some (1, m4) else none
set_option maxHeartbeats 4000000 in
theorem pf_Model_lies {E : EE} (p1 : Int) (p2 : Int)  (mem : Mm) {r : Int} {mem9 : Mm} (h : fn_Model_lies p1 p2 mem = some (r, mem9)) : MetX E 3 yn_Model_lies cd_Model_lies 3 (some .boolean) [rf 203, vi p1, vi p2] mem r mem9 := by
  refine RO_met (y := yn_Model_lies) (by decide +kernel) (Nat.le_of_ble_eq_true rfl) ?_ h
  show RO E mt_Model_lies (fn_Model_lies p1 p2 mem) 0 [(0, rf 203), (1, vi p1), (2, vi p2)] [] mem
  unfold fn_Model_lies
  refine RO_aload_n dc_Model_lies_0 rfl rfl ?_
  refine RO_callVv (As := []) (rest := []) mi_Model_keeps mv_Model_keeps ml_Model_486 lk_203 (Nat.le_of_ble_eq_true rfl) rfl (Nat.le_of_ble_eq_true rfl) dc_Model_lies_1 (fun rq mq hq => pf_Model_keeps   mem hq) (fun r1 m2 => ?_)
  refine RO_aload_n dc_Model_lies_4 rfl rfl ?_
  refine RO_getR (b := 245) gf_Model_135 lk_203 rfl dc_Model_lies_5 ?_
  refine RO_iload_n dc_Model_lies_8 rfl rfl ?_
  refine RO_iload_n dc_Model_lies_9 rfl rfl ?_
  refine RO_chk (fun hi3 => ?_)
  refine RO_is lk_245 hi3 dc_Model_lies_10 ?_
  refine RO_bnM (fun m4 => ?_)
  refine RO_iconst dc_Model_lies_11 ?_
  exact RO_zret rfl (Or.inr rfl) dc_Model_lies_12
def bo_Model_rests_121 (p1 : Int) (p2 : Int) (p3 : Int) (p4 : Int)  (v5 : Int) (s1 : Int) (mem : Mm) : Res := bn (mst mem 203 0 s1) fun m1 => if p4 = (-1) then (some (v5, m1)) else (some (0, m1))
set_option maxHeartbeats 4000000 in
theorem rb_Model_rests_121 {E : EE} (p1 : Int) (p2 : Int) (p3 : Int) (p4 : Int)    (v5 : Int) (s1 : Int)  (mem : Mm) : RO E mt_Model_rests (bo_Model_rests_121 p1 p2 p3 p4  v5 s1 mem) 121 [(4, vi p4), (5, vi v5)] [vi s1, rf 203] mem := by
  unfold bo_Model_rests_121
  refine RO_putI gp_Model_183 lk_203 dc_Model_rests_121 ?_
  refine RO_bnM (fun m1 => ?_)
  refine RO_iload dc_Model_rests_124 rfl ?_
  refine RO_iconst dc_Model_rests_126 ?_
  refine RO_icmp_ne (tgt := 135) dc_Model_rests_127 rfl ?_ ?_
  · refine RO_iload dc_Model_rests_130 rfl ?_
    refine RO_goto (tgt := 136) dc_Model_rests_132 rfl ?_
    exact RO_iret rfl dc_Model_rests_136
  · refine RO_iconst dc_Model_rests_135 ?_
    exact RO_iret rfl dc_Model_rests_136
def bo_Model_rests_109 (p1 : Int) (p2 : Int) (p3 : Int) (p4 : Int)  (v5 : Int) (mem : Mm) : Res := if p4 = (-1) then (bo_Model_rests_121 p1 p2 p3 p4 v5 0 mem) else (bo_Model_rests_121 p1 p2 p3 p4 v5 1 mem)
set_option maxHeartbeats 4000000 in
theorem rb_Model_rests_109 {E : EE} (p1 : Int) (p2 : Int) (p3 : Int) (p4 : Int)    (v5 : Int)  (mem : Mm) : RO E mt_Model_rests (bo_Model_rests_109 p1 p2 p3 p4  v5 mem) 109 [(0, rf 203), (4, vi p4), (5, vi v5)] [] mem := by
  unfold bo_Model_rests_109
  refine RO_aload_n dc_Model_rests_109 rfl rfl ?_
  refine RO_iload dc_Model_rests_110 rfl ?_
  refine RO_iconst dc_Model_rests_112 ?_
  refine RO_icmp_ne (tgt := 120) dc_Model_rests_113 rfl ?_ ?_
  · refine RO_iconst dc_Model_rests_116 ?_
    refine RO_goto (tgt := 121) dc_Model_rests_117 rfl ?_
    refine RO_sub ?_ (rb_Model_rests_121 p1 p2 p3 p4 v5 0 mem)
    exact ⟨rfl, rfl, trivial⟩
  · refine RO_iconst dc_Model_rests_120 ?_
    refine RO_sub ?_ (rb_Model_rests_121 p1 p2 p3 p4 v5 1 mem)
    exact ⟨rfl, rfl, trivial⟩
def bo_Model_rests_103 (p1 : Int) (p2 : Int) (p3 : Int) (p4 : Int) (k61 : Int → Int → Mm → Res) (v5 : Int) (v6 : Int) (mem : Mm) : Res := k61 v5 (w32 (v6 + 1)) mem
set_option maxHeartbeats 4000000 in
theorem rb_Model_rests_103 {E : EE} (p1 : Int) (p2 : Int) (p3 : Int) (p4 : Int)  (k61 : Int → Int → Mm → Res) (H61 : ∀ (v5 : Int) (v6 : Int)  (mem : Mm), RO E mt_Model_rests (k61 v5 v6 mem) 61 [(0, rf 203), (1, vi p1), (2, vi p2), (3, vi p3), (4, vi p4), (5, vi v5), (6, vi v6)] [] mem) (v5 : Int) (v6 : Int)  (mem : Mm) : RO E mt_Model_rests (bo_Model_rests_103 p1 p2 p3 p4 k61 v5 v6 mem) 103 [(0, rf 203), (1, vi p1), (2, vi p2), (3, vi p3), (4, vi p4), (5, vi v5), (6, vi v6)] [] mem := by
  unfold bo_Model_rests_103
  refine RO_iinc dc_Model_rests_103 rfl (Nat.le_of_ble_eq_true rfl) ?_
  refine RO_goto (tgt := 61) dc_Model_rests_106 rfl ?_
  refine RO_sub ?_ (H61 v5 (w32 (v6 + 1)) mem)
  exact ⟨rfl, rfl, rfl, rfl, rfl, rfl, rfl, trivial⟩
def bo_Model_rests_61 (p1 : Int) (p2 : Int) (p3 : Int) (p4 : Int) (k61 : Int → Int → Mm → Res) (v5 : Int) (v6 : Int) (mem : Mm) : Res := if v6 < 100 then (bd (fn_Model_isRest p1 p2 p3 (idv v6 10) (irm v6 10) mem) fun r1 m2 => if r1 = 0 then (bo_Model_rests_103 p1 p2 p3 p4 k61 v5 v6 m2) else (if v5 = p4 then (some (v6, m2)) else (bo_Model_rests_103 p1 p2 p3 p4 k61 (w32 (v5 + 1)) v6 m2))) else (bo_Model_rests_109 p1 p2 p3 p4 v5 mem)
set_option maxHeartbeats 4000000 in
theorem rb_Model_rests_61 {E : EE} (p1 : Int) (p2 : Int) (p3 : Int) (p4 : Int)  (k61 : Int → Int → Mm → Res) (H61 : ∀ (v5 : Int) (v6 : Int)  (mem : Mm), RO E mt_Model_rests (k61 v5 v6 mem) 61 [(0, rf 203), (1, vi p1), (2, vi p2), (3, vi p3), (4, vi p4), (5, vi v5), (6, vi v6)] [] mem) (v5 : Int) (v6 : Int)  (mem : Mm) : RO E mt_Model_rests (bo_Model_rests_61 p1 p2 p3 p4 k61 v5 v6 mem) 61 [(0, rf 203), (1, vi p1), (2, vi p2), (3, vi p3), (4, vi p4), (5, vi v5), (6, vi v6)] [] mem := by
  unfold bo_Model_rests_61
  refine RO_iload dc_Model_rests_61 rfl ?_
  refine RO_bipush dc_Model_rests_63 ?_
  refine RO_icmp_ge (tgt := 109) dc_Model_rests_65 rfl ?_ ?_
  · refine RO_iload_n dc_Model_rests_68 rfl rfl ?_
    refine RO_iload_n dc_Model_rests_69 rfl rfl ?_
    refine RO_iload_n dc_Model_rests_70 rfl rfl ?_
    refine RO_iload dc_Model_rests_71 rfl ?_
    refine RO_bipush dc_Model_rests_73 ?_
    refine RO_idivc (by decide) dc_Model_rests_75 ?_
    refine RO_iload dc_Model_rests_76 rfl ?_
    refine RO_bipush dc_Model_rests_78 ?_
    refine RO_iremc (by decide) dc_Model_rests_80 ?_
    refine RO_callSi (As := [vi p1, vi p2, vi p3, vi (idv v6 10), vi (irm v6 10)]) (rest := []) mi_Model_isRest ms_Model_isRest ml_Model_549 (Nat.le_of_ble_eq_true rfl) rfl (Nat.le_of_ble_eq_true rfl) (fun _ => rfl) dc_Model_rests_81 (fun rq mq hq => pf_Model_isRest p1 p2 p3 (idv v6 10) (irm v6 10)  mem hq) (fun r1 m2 => ?_)
    refine RO_if_ne (tgt := 90) dc_Model_rests_84 rfl ?_ ?_
    · refine RO_goto (tgt := 103) dc_Model_rests_87 rfl ?_
      refine RO_sub ?_ (rb_Model_rests_103 p1 p2 p3 p4 k61 H61 v5 v6 m2)
      exact ⟨rfl, rfl, rfl, rfl, rfl, rfl, rfl, trivial⟩
    · refine RO_iload dc_Model_rests_90 rfl ?_
      refine RO_iload dc_Model_rests_92 rfl ?_
      refine RO_icmp_ne (tgt := 100) dc_Model_rests_94 rfl ?_ ?_
      · refine RO_iload dc_Model_rests_97 rfl ?_
        exact RO_iret rfl dc_Model_rests_99
      · refine RO_iinc dc_Model_rests_100 rfl (Nat.le_of_ble_eq_true rfl) ?_
        refine RO_sub ?_ (rb_Model_rests_103 p1 p2 p3 p4 k61 H61 (w32 (v5 + 1)) v6 m2)
        exact ⟨rfl, rfl, rfl, rfl, rfl, rfl, rfl, trivial⟩
  · refine RO_sub ?_ (rb_Model_rests_109 p1 p2 p3 p4 v5 mem)
    exact ⟨rfl, rfl, rfl, trivial⟩
def lp_Model_rests_61 (p1 : Int) (p2 : Int) (p3 : Int) (p4 : Int)  : Nat → Int → Int → Mm → Res
  | 0 => fun _ _ _ => none
  | n + 1 => bo_Model_rests_61 p1 p2 p3 p4  (lp_Model_rests_61 p1 p2 p3 p4  n)
theorem rp_Model_rests_61 {E : EE} (p1 : Int) (p2 : Int) (p3 : Int) (p4 : Int)    : ∀ (n : Nat) (v5 : Int) (v6 : Int)  (mem : Mm), RO E mt_Model_rests (lp_Model_rests_61 p1 p2 p3 p4  n v5 v6 mem) 61 [(0, rf 203), (1, vi p1), (2, vi p2), (3, vi p3), (4, vi p4), (5, vi v5), (6, vi v6)] [] mem := by
  intro n
  induction n with
  | zero => intro v5 v6  mem; exact RO_none
  | succ n ih => intro v5 v6  mem; exact rb_Model_rests_61 p1 p2 p3 p4   (lp_Model_rests_61 p1 p2 p3 p4  n)  ih v5 v6  mem
def bo_Model_rests_42 (p1 : Int) (p2 : Int) (p3 : Int) (p4 : Int)  (s1 : Int) (mem : Mm) : Res := bn (mst mem 203 0 s1) fun m1 => if (m1 203 0) = 1 then (some (0, m1)) else (lp_Model_rests_61 p1 p2 p3 p4 FU 0 0 m1)
set_option maxHeartbeats 4000000 in
theorem rb_Model_rests_42 {E : EE} (p1 : Int) (p2 : Int) (p3 : Int) (p4 : Int)    (s1 : Int)  (mem : Mm) : RO E mt_Model_rests (bo_Model_rests_42 p1 p2 p3 p4  s1 mem) 42 [(0, rf 203), (1, vi p1), (2, vi p2), (3, vi p3), (4, vi p4)] [vi s1, rf 203] mem := by
  unfold bo_Model_rests_42
  refine RO_putI gp_Model_183 lk_203 dc_Model_rests_42 ?_
  refine RO_bnM (fun m1 => ?_)
  refine RO_aload_n dc_Model_rests_45 rfl rfl ?_
  refine RO_getI gf_Model_183 lk_203 dc_Model_rests_46 ?_
  refine RO_iconst dc_Model_rests_49 ?_
  refine RO_icmp_ne (tgt := 55) dc_Model_rests_50 rfl ?_ ?_
  · refine RO_iconst dc_Model_rests_53 ?_
    exact RO_iret rfl dc_Model_rests_54
  · refine RO_iconst dc_Model_rests_55 ?_
    refine RO_istore dc_Model_rests_56 (Nat.le_of_ble_eq_true rfl) ?_
    refine RO_iconst dc_Model_rests_58 ?_
    refine RO_istore dc_Model_rests_59 (Nat.le_of_ble_eq_true rfl) ?_
    refine RO_sub ?_ (rp_Model_rests_61 p1 p2 p3 p4 FU 0 0 m1)
    exact ⟨rfl, rfl, rfl, rfl, rfl, rfl, rfl, trivial⟩
def bo_Model_rests_41 (p1 : Int) (p2 : Int) (p3 : Int) (p4 : Int)   (mem : Mm) : Res := bo_Model_rests_42 p1 p2 p3 p4 1 mem
set_option maxHeartbeats 4000000 in
theorem rb_Model_rests_41 {E : EE} (p1 : Int) (p2 : Int) (p3 : Int) (p4 : Int)      (mem : Mm) : RO E mt_Model_rests (bo_Model_rests_41 p1 p2 p3 p4   mem) 41 [(0, rf 203), (1, vi p1), (2, vi p2), (3, vi p3), (4, vi p4)] [rf 203] mem := by
  unfold bo_Model_rests_41
  refine RO_iconst dc_Model_rests_41 ?_
  refine RO_sub ?_ (rb_Model_rests_42 p1 p2 p3 p4 1 mem)
  exact ⟨rfl, rfl, rfl, rfl, rfl, trivial⟩
def fn_Model_rests (p1 : Int) (p2 : Int) (p3 : Int) (p4 : Int) (mem : Mm) : Res := bd (fn_Model_within p1 0 9 mem) fun r1 m2 => if r1 = 0 then (bo_Model_rests_41 p1 p2 p3 p4 m2) else (bd (fn_Model_within p2 0 9 m2) fun r3 m4 => if r3 = 0 then (bo_Model_rests_41 p1 p2 p3 p4 m4) else (bd (fn_Model_within p3 0 20 m4) fun r5 m6 => if r5 = 0 then (bo_Model_rests_41 p1 p2 p3 p4 m6) else (if p4 < (-1) then (bo_Model_rests_41 p1 p2 p3 p4 m6) else (bo_Model_rests_42 p1 p2 p3 p4 0 m6))))
set_option maxHeartbeats 4000000 in
theorem pf_Model_rests {E : EE} (p1 : Int) (p2 : Int) (p3 : Int) (p4 : Int)  (mem : Mm) {r : Int} {mem9 : Mm} (h : fn_Model_rests p1 p2 p3 p4 mem = some (r, mem9)) : MetX E 3 yn_Model_rests cd_Model_rests 7 (some .int) [rf 203, vi p1, vi p2, vi p3, vi p4] mem r mem9 := by
  refine RO_met (y := yn_Model_rests) (by decide +kernel) (Nat.le_of_ble_eq_true rfl) ?_ h
  show RO E mt_Model_rests (fn_Model_rests p1 p2 p3 p4 mem) 0 [(0, rf 203), (1, vi p1), (2, vi p2), (3, vi p3), (4, vi p4)] [] mem
  unfold fn_Model_rests
  refine RO_aload_n dc_Model_rests_0 rfl rfl ?_
  refine RO_iload_n dc_Model_rests_1 rfl rfl ?_
  refine RO_iconst dc_Model_rests_2 ?_
  refine RO_bipush dc_Model_rests_3 ?_
  refine RO_callSi (As := [vi p1, vi 0, vi 9]) (rest := [rf 203]) mi_Model_within ms_Model_within ml_Model_318 (Nat.le_of_ble_eq_true rfl) rfl (Nat.le_of_ble_eq_true rfl) (fun _ => rfl) dc_Model_rests_5 (fun rq mq hq => pf_Model_within p1 0 9  mem hq) (fun r1 m2 => ?_)
  refine RO_if_eq (tgt := 41) dc_Model_rests_8 rfl ?_ ?_
  · refine RO_sub ?_ (rb_Model_rests_41 p1 p2 p3 p4 m2)
    exact ⟨rfl, rfl, rfl, rfl, rfl, trivial⟩
  · refine RO_iload_n dc_Model_rests_11 rfl rfl ?_
    refine RO_iconst dc_Model_rests_12 ?_
    refine RO_bipush dc_Model_rests_13 ?_
    refine RO_callSi (As := [vi p2, vi 0, vi 9]) (rest := [rf 203]) mi_Model_within ms_Model_within ml_Model_318 (Nat.le_of_ble_eq_true rfl) rfl (Nat.le_of_ble_eq_true rfl) (fun _ => rfl) dc_Model_rests_15 (fun rq mq hq => pf_Model_within p2 0 9  m2 hq) (fun r3 m4 => ?_)
    refine RO_if_eq (tgt := 41) dc_Model_rests_18 rfl ?_ ?_
    · refine RO_sub ?_ (rb_Model_rests_41 p1 p2 p3 p4 m4)
      exact ⟨rfl, rfl, rfl, rfl, rfl, trivial⟩
    · refine RO_iload_n dc_Model_rests_21 rfl rfl ?_
      refine RO_iconst dc_Model_rests_22 ?_
      refine RO_bipush dc_Model_rests_23 ?_
      refine RO_callSi (As := [vi p3, vi 0, vi 20]) (rest := [rf 203]) mi_Model_within ms_Model_within ml_Model_318 (Nat.le_of_ble_eq_true rfl) rfl (Nat.le_of_ble_eq_true rfl) (fun _ => rfl) dc_Model_rests_25 (fun rq mq hq => pf_Model_within p3 0 20  m4 hq) (fun r5 m6 => ?_)
      refine RO_if_eq (tgt := 41) dc_Model_rests_28 rfl ?_ ?_
      · refine RO_sub ?_ (rb_Model_rests_41 p1 p2 p3 p4 m6)
        exact ⟨rfl, rfl, rfl, rfl, rfl, trivial⟩
      · refine RO_iload dc_Model_rests_31 rfl ?_
        refine RO_iconst dc_Model_rests_33 ?_
        refine RO_icmp_lt (tgt := 41) dc_Model_rests_34 rfl ?_ ?_
        · refine RO_sub ?_ (rb_Model_rests_41 p1 p2 p3 p4 m6)
          exact ⟨rfl, rfl, rfl, rfl, rfl, trivial⟩
        · refine RO_iconst dc_Model_rests_37 ?_
          refine RO_goto (tgt := 42) dc_Model_rests_38 rfl ?_
          refine RO_sub ?_ (rb_Model_rests_42 p1 p2 p3 p4 0 m6)
          exact ⟨rfl, rfl, rfl, rfl, rfl, trivial⟩
def fn_Model_needsBoth (p1 : Int) (p3 : Int) (p4 : Int) (mem : Mm) : Res := bd (fn_Model_needsWord p1 mem) fun r1 m2 => if r1 = 0 then (some (0, m2)) else (bd (fn_Model_needsNumber p3 p4 m2) fun r3 m4 => if r3 = 0 then (some (0, m4)) else (some (1, m4)))
set_option maxHeartbeats 4000000 in
theorem pf_Model_needsBoth {E : EE} (p1 : Int) (p3 : Int) (p4 : Int)  (mem : Mm) {r : Int} {mem9 : Mm} (h : fn_Model_needsBoth p1 p3 p4 mem = some (r, mem9)) : MetX E 4 yn_Model_needsBoth cd_Model_needsBoth 5 (some .boolean) [rf 203, vl p1, vi p3, vi p4] mem r mem9 := by
  refine RO_met (y := yn_Model_needsBoth) (by decide +kernel) (Nat.le_of_ble_eq_true rfl) ?_ h
  show RO E mt_Model_needsBoth (fn_Model_needsBoth p1 p3 p4 mem) 0 [(0, rf 203), (1, vl p1), (3, vi p3), (4, vi p4)] [] mem
  unfold fn_Model_needsBoth
  refine RO_aload_n dc_Model_needsBoth_0 rfl rfl ?_
  refine RO_lload_n dc_Model_needsBoth_1 rfl rfl ?_
  refine RO_callVi (As := [vl p1]) (rest := []) mi_Model_needsWord mv_Model_needsWord ml_Model_325 lk_203 (Nat.le_of_ble_eq_true rfl) rfl (Nat.le_of_ble_eq_true rfl) (fun _ => rfl) dc_Model_needsBoth_2 (fun rq mq hq => pf_Model_needsWord p1  mem hq) (fun r1 m2 => ?_)
  refine RO_if_eq (tgt := 22) dc_Model_needsBoth_5 rfl ?_ ?_
  · refine RO_iconst dc_Model_needsBoth_22 ?_
    exact RO_zret rfl (Or.inl rfl) dc_Model_needsBoth_23
  · refine RO_aload_n dc_Model_needsBoth_8 rfl rfl ?_
    refine RO_iload_n dc_Model_needsBoth_9 rfl rfl ?_
    refine RO_iload dc_Model_needsBoth_10 rfl ?_
    refine RO_callVi (As := [vi p3, vi p4]) (rest := []) mi_Model_needsNumber mv_Model_needsNumber ml_Model_328 lk_203 (Nat.le_of_ble_eq_true rfl) rfl (Nat.le_of_ble_eq_true rfl) (fun _ => rfl) dc_Model_needsBoth_12 (fun rq mq hq => pf_Model_needsNumber p3 p4  m2 hq) (fun r3 m4 => ?_)
    refine RO_if_eq (tgt := 22) dc_Model_needsBoth_15 rfl ?_ ?_
    · refine RO_iconst dc_Model_needsBoth_22 ?_
      exact RO_zret rfl (Or.inl rfl) dc_Model_needsBoth_23
    · refine RO_iconst dc_Model_needsBoth_18 ?_
      refine RO_goto (tgt := 23) dc_Model_needsBoth_19 rfl ?_
      exact RO_zret rfl (Or.inr rfl) dc_Model_needsBoth_23
def fn_Model_readsPlace  (mem : Mm) : Res := bn (w32 (6 + (mem 205 (5 : Int).toNat))) fun x1 => if x1 = 12 then (bd (fn_Model_fails 5 mem) fun r2 m3 => if r2 = 0 ∨ r2 = 1 then some (r2, m3) else none) else (bd (fn_Model_nextToken  mem) fun r5 m6 => bd (fn_Model_needsNew  m6) fun r7 m8 => if r7 = 0 then (some (0, m8)) else (if 0 ≤ x1 ∧ x1 < 12 then bn (mst m8 206 x1.toNat (m8 203 43)) fun m10 => bn (mst m10 205 (5 : Int).toNat (w32 ((m10 205 (5 : Int).toNat) + 1))) fun m11 => bd (fn_Model_closes  m11) fun r12 m13 => if r12 = 0 ∨ r12 = 1 then some (r12, m13) else none else none))
set_option maxHeartbeats 4000000 in
theorem pf_Model_readsPlace {E : EE}   (mem : Mm) {r : Int} {mem9 : Mm} (h : fn_Model_readsPlace  mem = some (r, mem9)) : MetX E 4 yn_Model_readsPlace cd_Model_readsPlace 2 (some .boolean) [rf 203] mem r mem9 := by
  refine RO_met (y := yn_Model_readsPlace) (by decide +kernel) (Nat.le_of_ble_eq_true rfl) ?_ h
  show RO E mt_Model_readsPlace (fn_Model_readsPlace  mem) 0 [(0, rf 203)] [] mem
  unfold fn_Model_readsPlace
  refine RO_bipush dc_Model_readsPlace_0 ?_
  refine RO_aload_n dc_Model_readsPlace_2 rfl rfl ?_
  refine RO_getR (b := 205) gf_Model_13 lk_203 rfl dc_Model_readsPlace_3 ?_
  refine RO_iconst dc_Model_readsPlace_6 ?_
  refine RO_ia lk_205 ⟨by decide, by decide⟩ dc_Model_readsPlace_7 ?_
  refine RO_iadd dc_Model_readsPlace_8 ?_
  refine RO_bnT (fun x1 => ?_)
  refine RO_istore_n dc_Model_readsPlace_9 rfl (Nat.le_of_ble_eq_true rfl) ?_
  refine RO_iload_n dc_Model_readsPlace_10 rfl rfl ?_
  refine RO_bipush dc_Model_readsPlace_11 ?_
  refine RO_icmp_ne (tgt := 22) dc_Model_readsPlace_13 rfl ?_ ?_
  · refine RO_aload_n dc_Model_readsPlace_16 rfl rfl ?_
    refine RO_iconst dc_Model_readsPlace_17 ?_
    refine RO_callVi (As := [vi 5]) (rest := []) mi_Model_fails mv_Model_fails ml_Model_245 lk_203 (Nat.le_of_ble_eq_true rfl) rfl (Nat.le_of_ble_eq_true rfl) (fun _ => rfl) dc_Model_readsPlace_18 (fun rq mq hq => pf_Model_fails 5  mem hq) (fun r2 m3 => ?_)
    refine RO_chk (fun hz4 => ?_)
    exact RO_zret rfl hz4 dc_Model_readsPlace_21
  · refine RO_aload_n dc_Model_readsPlace_22 rfl rfl ?_
    refine RO_callVv (As := []) (rest := []) mi_Model_nextToken mv_Model_nextToken ml_Model_252 lk_203 (Nat.le_of_ble_eq_true rfl) rfl (Nat.le_of_ble_eq_true rfl) dc_Model_readsPlace_23 (fun rq mq hq => pf_Model_nextToken   mem hq) (fun r5 m6 => ?_)
    refine RO_aload_n dc_Model_readsPlace_26 rfl rfl ?_
    refine RO_callVi (As := []) (rest := []) mi_Model_needsNew mv_Model_needsNew ml_Model_348 lk_203 (Nat.le_of_ble_eq_true rfl) rfl (Nat.le_of_ble_eq_true rfl) (fun _ => rfl) dc_Model_readsPlace_27 (fun rq mq hq => pf_Model_needsNew   m6 hq) (fun r7 m8 => ?_)
    refine RO_if_ne (tgt := 35) dc_Model_readsPlace_30 rfl ?_ ?_
    · refine RO_iconst dc_Model_readsPlace_33 ?_
      exact RO_zret rfl (Or.inl rfl) dc_Model_readsPlace_34
    · refine RO_aload_n dc_Model_readsPlace_35 rfl rfl ?_
      refine RO_getR (b := 206) gf_Model_16 lk_203 rfl dc_Model_readsPlace_36 ?_
      refine RO_iload_n dc_Model_readsPlace_39 rfl rfl ?_
      refine RO_aload_n dc_Model_readsPlace_40 rfl rfl ?_
      refine RO_getL gf_Model_345 lk_203 dc_Model_readsPlace_41 ?_
      refine RO_chk (fun hi9 => ?_)
      refine RO_lst lk_206 hi9 dc_Model_readsPlace_44 ?_
      refine RO_bnM (fun m10 => ?_)
      refine RO_aload_n dc_Model_readsPlace_45 rfl rfl ?_
      refine RO_getR (b := 205) gf_Model_13 lk_203 rfl dc_Model_readsPlace_46 ?_
      refine RO_iconst dc_Model_readsPlace_49 ?_
      refine RO_dup2 dc_Model_readsPlace_50 (nt0 _) (nt2 _) ?_
      refine RO_ia lk_205 ⟨by decide, by decide⟩ dc_Model_readsPlace_51 ?_
      refine RO_iconst dc_Model_readsPlace_52 ?_
      refine RO_iadd dc_Model_readsPlace_53 ?_
      refine RO_is lk_205 ⟨by decide, by decide⟩ dc_Model_readsPlace_54 ?_
      refine RO_bnM (fun m11 => ?_)
      refine RO_aload_n dc_Model_readsPlace_55 rfl rfl ?_
      refine RO_callVi (As := []) (rest := []) mi_Model_closes mv_Model_closes ml_Model_351 lk_203 (Nat.le_of_ble_eq_true rfl) rfl (Nat.le_of_ble_eq_true rfl) (fun _ => rfl) dc_Model_readsPlace_56 (fun rq mq hq => pf_Model_closes   m11 hq) (fun r12 m13 => ?_)
      refine RO_chk (fun hz14 => ?_)
      exact RO_zret rfl hz14 dc_Model_readsPlace_59
def bo_Model_readsPath_60    (mem : Mm) : Res := bd (fn_Model_fails 3 mem) fun r1 m2 => if r1 = 0 ∨ r1 = 1 then some (r1, m2) else none
set_option maxHeartbeats 4000000 in
theorem rb_Model_readsPath_60 {E : EE}       (mem : Mm) : RO E mt_Model_readsPath (bo_Model_readsPath_60    mem) 60 [(0, rf 203)] [] mem := by
  unfold bo_Model_readsPath_60
  refine RO_aload_n dc_Model_readsPath_60 rfl rfl ?_
  refine RO_iconst dc_Model_readsPath_61 ?_
  refine RO_callVi (As := [vi 3]) (rest := []) mi_Model_fails mv_Model_fails ml_Model_245 lk_203 (Nat.le_of_ble_eq_true rfl) rfl (Nat.le_of_ble_eq_true rfl) (fun _ => rfl) dc_Model_readsPath_62 (fun rq mq hq => pf_Model_fails 3  mem hq) (fun r1 m2 => ?_)
  refine RO_chk (fun hz3 => ?_)
  exact RO_zret rfl hz3 dc_Model_readsPath_65
def fn_Model_readsPath  (mem : Mm) : Res := bd (fn_Model_nextToken  mem) fun r1 m2 => bd (fn_Model_needsPlace 1 m2) fun r3 m4 => if r3 = 0 then (some (0, m4)) else (bn (m4 203 42) fun x5 => bd (fn_Model_nextToken  m4) fun r6 m7 => bd (fn_Model_needsPlace 1 m7) fun r8 m9 => if r8 = 0 then (some (0, m9)) else (bn (m9 203 42) fun x10 => if x5 = x10 then (bo_Model_readsPath_60 m9) else (if 0 ≤ w32 ((w32 (36 + (w32 (6 * x5)))) + x10) ∧ w32 ((w32 (36 + (w32 (6 * x5)))) + x10) < 72 then if 0 < (m9 209 (w32 ((w32 (36 + (w32 (6 * x5)))) + x10)).toNat) then (bo_Model_readsPath_60 m9) else (bd (fn_Model_nextToken  m9) fun r12 m13 => bd (fn_Model_needsNumber 1 30 m13) fun r14 m15 => if r14 = 0 then (some (0, m15)) else (if 0 ≤ w32 ((w32 (36 + (w32 (6 * x5)))) + x10) ∧ w32 ((w32 (36 + (w32 (6 * x5)))) + x10) < 72 then bn (mst m15 209 (w32 ((w32 (36 + (w32 (6 * x5)))) + x10)).toNat (m15 203 42)) fun m17 => if 0 ≤ w32 ((w32 (36 + (w32 (6 * x10)))) + x5) ∧ w32 ((w32 (36 + (w32 (6 * x10)))) + x5) < 72 then bn (mst m17 209 (w32 ((w32 (36 + (w32 (6 * x10)))) + x5)).toNat (m17 203 42)) fun m19 => bn (mst m19 205 (8 : Int).toNat (w32 ((m19 205 (8 : Int).toNat) + 1))) fun m20 => bd (fn_Model_closes  m20) fun r21 m22 => if r21 = 0 ∨ r21 = 1 then some (r21, m22) else none else none else none)) else none)))
set_option maxHeartbeats 4000000 in
theorem pf_Model_readsPath {E : EE}   (mem : Mm) {r : Int} {mem9 : Mm} (h : fn_Model_readsPath  mem = some (r, mem9)) : MetX E 4 yn_Model_readsPath cd_Model_readsPath 3 (some .boolean) [rf 203] mem r mem9 := by
  refine RO_met (y := yn_Model_readsPath) (by decide +kernel) (Nat.le_of_ble_eq_true rfl) ?_ h
  show RO E mt_Model_readsPath (fn_Model_readsPath  mem) 0 [(0, rf 203)] [] mem
  unfold fn_Model_readsPath
  refine RO_aload_n dc_Model_readsPath_0 rfl rfl ?_
  refine RO_callVv (As := []) (rest := []) mi_Model_nextToken mv_Model_nextToken ml_Model_252 lk_203 (Nat.le_of_ble_eq_true rfl) rfl (Nat.le_of_ble_eq_true rfl) dc_Model_readsPath_1 (fun rq mq hq => pf_Model_nextToken   mem hq) (fun r1 m2 => ?_)
  refine RO_aload_n dc_Model_readsPath_4 rfl rfl ?_
  refine RO_iconst dc_Model_readsPath_5 ?_
  refine RO_callVi (As := [vi 1]) (rest := []) mi_Model_needsPlace mv_Model_needsPlace ml_Model_354 lk_203 (Nat.le_of_ble_eq_true rfl) rfl (Nat.le_of_ble_eq_true rfl) (fun _ => rfl) dc_Model_readsPath_6 (fun rq mq hq => pf_Model_needsPlace 1  m2 hq) (fun r3 m4 => ?_)
  refine RO_if_ne (tgt := 14) dc_Model_readsPath_9 rfl ?_ ?_
  · refine RO_iconst dc_Model_readsPath_12 ?_
    exact RO_zret rfl (Or.inl rfl) dc_Model_readsPath_13
  · refine RO_aload_n dc_Model_readsPath_14 rfl rfl ?_
    refine RO_getI gf_Model_322 lk_203 dc_Model_readsPath_15 ?_
    refine RO_bnT (fun x5 => ?_)
    refine RO_istore_n dc_Model_readsPath_18 rfl (Nat.le_of_ble_eq_true rfl) ?_
    refine RO_aload_n dc_Model_readsPath_19 rfl rfl ?_
    refine RO_callVv (As := []) (rest := []) mi_Model_nextToken mv_Model_nextToken ml_Model_252 lk_203 (Nat.le_of_ble_eq_true rfl) rfl (Nat.le_of_ble_eq_true rfl) dc_Model_readsPath_20 (fun rq mq hq => pf_Model_nextToken   m4 hq) (fun r6 m7 => ?_)
    refine RO_aload_n dc_Model_readsPath_23 rfl rfl ?_
    refine RO_iconst dc_Model_readsPath_24 ?_
    refine RO_callVi (As := [vi 1]) (rest := []) mi_Model_needsPlace mv_Model_needsPlace ml_Model_354 lk_203 (Nat.le_of_ble_eq_true rfl) rfl (Nat.le_of_ble_eq_true rfl) (fun _ => rfl) dc_Model_readsPath_25 (fun rq mq hq => pf_Model_needsPlace 1  m7 hq) (fun r8 m9 => ?_)
    refine RO_if_ne (tgt := 33) dc_Model_readsPath_28 rfl ?_ ?_
    · refine RO_iconst dc_Model_readsPath_31 ?_
      exact RO_zret rfl (Or.inl rfl) dc_Model_readsPath_32
    · refine RO_aload_n dc_Model_readsPath_33 rfl rfl ?_
      refine RO_getI gf_Model_322 lk_203 dc_Model_readsPath_34 ?_
      refine RO_bnT (fun x10 => ?_)
      refine RO_istore_n dc_Model_readsPath_37 rfl (Nat.le_of_ble_eq_true rfl) ?_
      refine RO_iload_n dc_Model_readsPath_38 rfl rfl ?_
      refine RO_iload_n dc_Model_readsPath_39 rfl rfl ?_
      refine RO_icmp_eq (tgt := 60) dc_Model_readsPath_40 rfl ?_ ?_
      · refine RO_sub ?_ (rb_Model_readsPath_60 m9)
        exact ⟨rfl, trivial⟩
      · refine RO_aload_n dc_Model_readsPath_43 rfl rfl ?_
        refine RO_getR (b := 209) gf_Model_26 lk_203 rfl dc_Model_readsPath_44 ?_
        refine RO_bipush dc_Model_readsPath_47 ?_
        refine RO_bipush dc_Model_readsPath_49 ?_
        refine RO_iload_n dc_Model_readsPath_51 rfl rfl ?_
        refine RO_imul dc_Model_readsPath_52 ?_
        refine RO_iadd dc_Model_readsPath_53 ?_
        refine RO_iload_n dc_Model_readsPath_54 rfl rfl ?_
        refine RO_iadd dc_Model_readsPath_55 ?_
        refine RO_chk (fun hi11 => ?_)
        refine RO_ia lk_209 hi11 dc_Model_readsPath_56 ?_
        refine RO_if_le (tgt := 66) dc_Model_readsPath_57 rfl ?_ ?_
        · refine RO_sub ?_ (rb_Model_readsPath_60 m9)
          exact ⟨rfl, trivial⟩
        · refine RO_aload_n dc_Model_readsPath_66 rfl rfl ?_
          refine RO_callVv (As := []) (rest := []) mi_Model_nextToken mv_Model_nextToken ml_Model_252 lk_203 (Nat.le_of_ble_eq_true rfl) rfl (Nat.le_of_ble_eq_true rfl) dc_Model_readsPath_67 (fun rq mq hq => pf_Model_nextToken   m9 hq) (fun r12 m13 => ?_)
          refine RO_aload_n dc_Model_readsPath_70 rfl rfl ?_
          refine RO_iconst dc_Model_readsPath_71 ?_
          refine RO_bipush dc_Model_readsPath_72 ?_
          refine RO_callVi (As := [vi 1, vi 30]) (rest := []) mi_Model_needsNumber mv_Model_needsNumber ml_Model_328 lk_203 (Nat.le_of_ble_eq_true rfl) rfl (Nat.le_of_ble_eq_true rfl) (fun _ => rfl) dc_Model_readsPath_74 (fun rq mq hq => pf_Model_needsNumber 1 30  m13 hq) (fun r14 m15 => ?_)
          refine RO_if_ne (tgt := 82) dc_Model_readsPath_77 rfl ?_ ?_
          · refine RO_iconst dc_Model_readsPath_80 ?_
            exact RO_zret rfl (Or.inl rfl) dc_Model_readsPath_81
          · refine RO_aload_n dc_Model_readsPath_82 rfl rfl ?_
            refine RO_getR (b := 209) gf_Model_26 lk_203 rfl dc_Model_readsPath_83 ?_
            refine RO_bipush dc_Model_readsPath_86 ?_
            refine RO_bipush dc_Model_readsPath_88 ?_
            refine RO_iload_n dc_Model_readsPath_90 rfl rfl ?_
            refine RO_imul dc_Model_readsPath_91 ?_
            refine RO_iadd dc_Model_readsPath_92 ?_
            refine RO_iload_n dc_Model_readsPath_93 rfl rfl ?_
            refine RO_iadd dc_Model_readsPath_94 ?_
            refine RO_aload_n dc_Model_readsPath_95 rfl rfl ?_
            refine RO_getI gf_Model_322 lk_203 dc_Model_readsPath_96 ?_
            refine RO_chk (fun hi16 => ?_)
            refine RO_is lk_209 hi16 dc_Model_readsPath_99 ?_
            refine RO_bnM (fun m17 => ?_)
            refine RO_aload_n dc_Model_readsPath_100 rfl rfl ?_
            refine RO_getR (b := 209) gf_Model_26 lk_203 rfl dc_Model_readsPath_101 ?_
            refine RO_bipush dc_Model_readsPath_104 ?_
            refine RO_bipush dc_Model_readsPath_106 ?_
            refine RO_iload_n dc_Model_readsPath_108 rfl rfl ?_
            refine RO_imul dc_Model_readsPath_109 ?_
            refine RO_iadd dc_Model_readsPath_110 ?_
            refine RO_iload_n dc_Model_readsPath_111 rfl rfl ?_
            refine RO_iadd dc_Model_readsPath_112 ?_
            refine RO_aload_n dc_Model_readsPath_113 rfl rfl ?_
            refine RO_getI gf_Model_322 lk_203 dc_Model_readsPath_114 ?_
            refine RO_chk (fun hi18 => ?_)
            refine RO_is lk_209 hi18 dc_Model_readsPath_117 ?_
            refine RO_bnM (fun m19 => ?_)
            refine RO_aload_n dc_Model_readsPath_118 rfl rfl ?_
            refine RO_getR (b := 205) gf_Model_13 lk_203 rfl dc_Model_readsPath_119 ?_
            refine RO_bipush dc_Model_readsPath_122 ?_
            refine RO_dup2 dc_Model_readsPath_124 (nt0 _) (nt2 _) ?_
            refine RO_ia lk_205 ⟨by decide, by decide⟩ dc_Model_readsPath_125 ?_
            refine RO_iconst dc_Model_readsPath_126 ?_
            refine RO_iadd dc_Model_readsPath_127 ?_
            refine RO_is lk_205 ⟨by decide, by decide⟩ dc_Model_readsPath_128 ?_
            refine RO_bnM (fun m20 => ?_)
            refine RO_aload_n dc_Model_readsPath_129 rfl rfl ?_
            refine RO_callVi (As := []) (rest := []) mi_Model_closes mv_Model_closes ml_Model_351 lk_203 (Nat.le_of_ble_eq_true rfl) rfl (Nat.le_of_ble_eq_true rfl) (fun _ => rfl) dc_Model_readsPath_130 (fun rq mq hq => pf_Model_closes   m20 hq) (fun r21 m22 => ?_)
            refine RO_chk (fun hz23 => ?_)
            exact RO_zret rfl hz23 dc_Model_readsPath_133
def bo_Model_readsRound_62 (p1 : Int)   (mem : Mm) : Res := bd (fn_Model_fails 5 mem) fun r1 m2 => if r1 = 0 ∨ r1 = 1 then some (r1, m2) else none
set_option maxHeartbeats 4000000 in
theorem rb_Model_readsRound_62 {E : EE} (p1 : Int)      (mem : Mm) : RO E mt_Model_readsRound (bo_Model_readsRound_62 p1   mem) 62 [(0, rf 203)] [] mem := by
  unfold bo_Model_readsRound_62
  refine RO_aload_n dc_Model_readsRound_62 rfl rfl ?_
  refine RO_iconst dc_Model_readsRound_63 ?_
  refine RO_callVi (As := [vi 5]) (rest := []) mi_Model_fails mv_Model_fails ml_Model_245 lk_203 (Nat.le_of_ble_eq_true rfl) rfl (Nat.le_of_ble_eq_true rfl) (fun _ => rfl) dc_Model_readsRound_64 (fun rq mq hq => pf_Model_fails 5  mem hq) (fun r1 m2 => ?_)
  refine RO_chk (fun hz3 => ?_)
  exact RO_zret rfl hz3 dc_Model_readsRound_67
def bo_Model_readsRound_46 (p1 : Int)   (mem : Mm) : Res := bd (fn_Model_fails 3 mem) fun r1 m2 => if r1 = 0 ∨ r1 = 1 then some (r1, m2) else none
set_option maxHeartbeats 4000000 in
theorem rb_Model_readsRound_46 {E : EE} (p1 : Int)      (mem : Mm) : RO E mt_Model_readsRound (bo_Model_readsRound_46 p1   mem) 46 [(0, rf 203)] [] mem := by
  unfold bo_Model_readsRound_46
  refine RO_aload_n dc_Model_readsRound_46 rfl rfl ?_
  refine RO_iconst dc_Model_readsRound_47 ?_
  refine RO_callVi (As := [vi 3]) (rest := []) mi_Model_fails mv_Model_fails ml_Model_245 lk_203 (Nat.le_of_ble_eq_true rfl) rfl (Nat.le_of_ble_eq_true rfl) (fun _ => rfl) dc_Model_readsRound_48 (fun rq mq hq => pf_Model_fails 3  mem hq) (fun r1 m2 => ?_)
  refine RO_chk (fun hz3 => ?_)
  exact RO_zret rfl hz3 dc_Model_readsRound_51
def bo_Model_readsRound_28 (p1 : Int) (k9 : Int → Mm → Res) (v2 : Int) (mem : Mm) : Res := bd (fn_Model_needsPlace 1 mem) fun r1 m2 => if r1 = 0 then (some (0, m2)) else (if (m2 203 42) = v2 then (bo_Model_readsRound_46 p1 m2) else (if 0 ≤ p1 ∧ p1 < 12 then if (m2 215 p1.toNat) = 4 then (bo_Model_readsRound_62 p1 m2) else (bn (m2 203 42) fun x4 => if 0 ≤ p1 ∧ p1 < 12 then if 0 ≤ w32 ((w32 (4 * p1)) + (m2 215 p1.toNat)) ∧ w32 ((w32 (4 * p1)) + (m2 215 p1.toNat)) < 48 then bn (mst m2 214 (w32 ((w32 (4 * p1)) + (m2 215 p1.toNat))).toNat (m2 203 42)) fun m7 => if 0 ≤ p1 ∧ p1 < 12 then if 0 ≤ p1 ∧ p1 < 12 then bn (mst m7 215 p1.toNat (w32 ((m7 215 p1.toNat) + 1))) fun m10 => bd (fn_Model_nextToken  m10) fun r11 m12 => k9 x4 m12 else none else none else none else none) else none))
set_option maxHeartbeats 4000000 in
theorem rb_Model_readsRound_28 {E : EE} (p1 : Int)  (k9 : Int → Mm → Res) (H9 : ∀ (v2 : Int)  (mem : Mm), RO E mt_Model_readsRound (k9 v2 mem) 9 [(0, rf 203), (1, vi p1), (2, vi v2)] [] mem) (v2 : Int)  (mem : Mm) : RO E mt_Model_readsRound (bo_Model_readsRound_28 p1 k9 v2 mem) 28 [(0, rf 203), (1, vi p1), (2, vi v2)] [] mem := by
  unfold bo_Model_readsRound_28
  refine RO_aload_n dc_Model_readsRound_28 rfl rfl ?_
  refine RO_iconst dc_Model_readsRound_29 ?_
  refine RO_callVi (As := [vi 1]) (rest := []) mi_Model_needsPlace mv_Model_needsPlace ml_Model_354 lk_203 (Nat.le_of_ble_eq_true rfl) rfl (Nat.le_of_ble_eq_true rfl) (fun _ => rfl) dc_Model_readsRound_30 (fun rq mq hq => pf_Model_needsPlace 1  mem hq) (fun r1 m2 => ?_)
  refine RO_if_ne (tgt := 38) dc_Model_readsRound_33 rfl ?_ ?_
  · refine RO_iconst dc_Model_readsRound_36 ?_
    exact RO_zret rfl (Or.inl rfl) dc_Model_readsRound_37
  · refine RO_aload_n dc_Model_readsRound_38 rfl rfl ?_
    refine RO_getI gf_Model_322 lk_203 dc_Model_readsRound_39 ?_
    refine RO_iload_n dc_Model_readsRound_42 rfl rfl ?_
    refine RO_icmp_ne (tgt := 52) dc_Model_readsRound_43 rfl ?_ ?_
    · refine RO_sub ?_ (rb_Model_readsRound_46 p1 m2)
      exact ⟨rfl, trivial⟩
    · refine RO_aload_n dc_Model_readsRound_52 rfl rfl ?_
      refine RO_getR (b := 215) gf_Model_44 lk_203 rfl dc_Model_readsRound_53 ?_
      refine RO_iload_n dc_Model_readsRound_56 rfl rfl ?_
      refine RO_chk (fun hi3 => ?_)
      refine RO_ia lk_215 hi3 dc_Model_readsRound_57 ?_
      refine RO_iconst dc_Model_readsRound_58 ?_
      refine RO_icmp_ne (tgt := 68) dc_Model_readsRound_59 rfl ?_ ?_
      · refine RO_sub ?_ (rb_Model_readsRound_62 p1 m2)
        exact ⟨rfl, trivial⟩
      · refine RO_aload_n dc_Model_readsRound_68 rfl rfl ?_
        refine RO_getI gf_Model_322 lk_203 dc_Model_readsRound_69 ?_
        refine RO_bnT (fun x4 => ?_)
        refine RO_istore_n dc_Model_readsRound_72 rfl (Nat.le_of_ble_eq_true rfl) ?_
        refine RO_aload_n dc_Model_readsRound_73 rfl rfl ?_
        refine RO_getR (b := 214) gf_Model_41 lk_203 rfl dc_Model_readsRound_74 ?_
        refine RO_iconst dc_Model_readsRound_77 ?_
        refine RO_iload_n dc_Model_readsRound_78 rfl rfl ?_
        refine RO_imul dc_Model_readsRound_79 ?_
        refine RO_aload_n dc_Model_readsRound_80 rfl rfl ?_
        refine RO_getR (b := 215) gf_Model_44 lk_203 rfl dc_Model_readsRound_81 ?_
        refine RO_iload_n dc_Model_readsRound_84 rfl rfl ?_
        refine RO_chk (fun hi5 => ?_)
        refine RO_ia lk_215 hi5 dc_Model_readsRound_85 ?_
        refine RO_iadd dc_Model_readsRound_86 ?_
        refine RO_aload_n dc_Model_readsRound_87 rfl rfl ?_
        refine RO_getI gf_Model_322 lk_203 dc_Model_readsRound_88 ?_
        refine RO_chk (fun hi6 => ?_)
        refine RO_is lk_214 hi6 dc_Model_readsRound_91 ?_
        refine RO_bnM (fun m7 => ?_)
        refine RO_aload_n dc_Model_readsRound_92 rfl rfl ?_
        refine RO_getR (b := 215) gf_Model_44 lk_203 rfl dc_Model_readsRound_93 ?_
        refine RO_iload_n dc_Model_readsRound_96 rfl rfl ?_
        refine RO_dup2 dc_Model_readsRound_97 (nt0 _) (nt2 _) ?_
        refine RO_chk (fun hi8 => ?_)
        refine RO_ia lk_215 hi8 dc_Model_readsRound_98 ?_
        refine RO_iconst dc_Model_readsRound_99 ?_
        refine RO_iadd dc_Model_readsRound_100 ?_
        refine RO_chk (fun hi9 => ?_)
        refine RO_is lk_215 hi9 dc_Model_readsRound_101 ?_
        refine RO_bnM (fun m10 => ?_)
        refine RO_aload_n dc_Model_readsRound_102 rfl rfl ?_
        refine RO_callVv (As := []) (rest := []) mi_Model_nextToken mv_Model_nextToken ml_Model_252 lk_203 (Nat.le_of_ble_eq_true rfl) rfl (Nat.le_of_ble_eq_true rfl) dc_Model_readsRound_103 (fun rq mq hq => pf_Model_nextToken   m10 hq) (fun r11 m12 => ?_)
        refine RO_goto (tgt := 9) dc_Model_readsRound_106 rfl ?_
        refine RO_sub ?_ (H9 x4 m12)
        exact ⟨rfl, rfl, rfl, trivial⟩
def bo_Model_readsRound_9 (p1 : Int) (k9 : Int → Mm → Res) (v2 : Int) (mem : Mm) : Res := if 0 ≤ p1 ∧ p1 < 12 then if (mem 215 p1.toNat) < 2 then (bo_Model_readsRound_28 p1 k9 v2 mem) else (bd (fn_Model_isSign 59 mem) fun r2 m3 => if r2 = 0 then (bo_Model_readsRound_28 p1 k9 v2 m3) else (some (1, m3))) else none
set_option maxHeartbeats 4000000 in
theorem rb_Model_readsRound_9 {E : EE} (p1 : Int)  (k9 : Int → Mm → Res) (H9 : ∀ (v2 : Int)  (mem : Mm), RO E mt_Model_readsRound (k9 v2 mem) 9 [(0, rf 203), (1, vi p1), (2, vi v2)] [] mem) (v2 : Int)  (mem : Mm) : RO E mt_Model_readsRound (bo_Model_readsRound_9 p1 k9 v2 mem) 9 [(0, rf 203), (1, vi p1), (2, vi v2)] [] mem := by
  unfold bo_Model_readsRound_9
  refine RO_aload_n dc_Model_readsRound_9 rfl rfl ?_
  refine RO_getR (b := 215) gf_Model_44 lk_203 rfl dc_Model_readsRound_10 ?_
  refine RO_iload_n dc_Model_readsRound_13 rfl rfl ?_
  refine RO_chk (fun hi1 => ?_)
  refine RO_ia lk_215 hi1 dc_Model_readsRound_14 ?_
  refine RO_iconst dc_Model_readsRound_15 ?_
  refine RO_icmp_lt (tgt := 28) dc_Model_readsRound_16 rfl ?_ ?_
  · refine RO_sub ?_ (rb_Model_readsRound_28 p1 k9 H9 v2 mem)
    exact ⟨rfl, rfl, rfl, trivial⟩
  · refine RO_aload_n dc_Model_readsRound_19 rfl rfl ?_
    refine RO_bipush dc_Model_readsRound_20 ?_
    refine RO_callVi (As := [vi 59]) (rest := []) mi_Model_isSign mv_Model_isSign ml_Model_241 lk_203 (Nat.le_of_ble_eq_true rfl) rfl (Nat.le_of_ble_eq_true rfl) (fun _ => rfl) dc_Model_readsRound_22 (fun rq mq hq => pf_Model_isSign 59  mem hq) (fun r2 m3 => ?_)
    refine RO_if_ne (tgt := 109) dc_Model_readsRound_25 rfl ?_ ?_
    · refine RO_sub ?_ (rb_Model_readsRound_28 p1 k9 H9 v2 m3)
      exact ⟨rfl, rfl, rfl, trivial⟩
    · refine RO_iconst dc_Model_readsRound_109 ?_
      exact RO_zret rfl (Or.inr rfl) dc_Model_readsRound_110
def lp_Model_readsRound_9 (p1 : Int)  : Nat → Int → Mm → Res
  | 0 => fun _ _ => none
  | n + 1 => bo_Model_readsRound_9 p1  (lp_Model_readsRound_9 p1  n)
theorem rp_Model_readsRound_9 {E : EE} (p1 : Int)    : ∀ (n : Nat) (v2 : Int)  (mem : Mm), RO E mt_Model_readsRound (lp_Model_readsRound_9 p1  n v2 mem) 9 [(0, rf 203), (1, vi p1), (2, vi v2)] [] mem := by
  intro n
  induction n with
  | zero => intro v2  mem; exact RO_none
  | succ n ih => intro v2  mem; exact rb_Model_readsRound_9 p1   (lp_Model_readsRound_9 p1  n)  ih v2  mem
def fn_Model_readsRound (p1 : Int) (mem : Mm) : Res := if 0 ≤ p1 ∧ p1 < 12 then bn (mst mem 215 p1.toNat 0) fun m2 => lp_Model_readsRound_9 p1 FU (-1) m2 else none
set_option maxHeartbeats 4000000 in
theorem pf_Model_readsRound {E : EE} (p1 : Int)  (mem : Mm) {r : Int} {mem9 : Mm} (h : fn_Model_readsRound p1 mem = some (r, mem9)) : MetX E 4 yn_Model_readsRound cd_Model_readsRound 3 (some .boolean) [rf 203, vi p1] mem r mem9 := by
  refine RO_met (y := yn_Model_readsRound) (by decide +kernel) (Nat.le_of_ble_eq_true rfl) ?_ h
  show RO E mt_Model_readsRound (fn_Model_readsRound p1 mem) 0 [(0, rf 203), (1, vi p1)] [] mem
  unfold fn_Model_readsRound
  refine RO_aload_n dc_Model_readsRound_0 rfl rfl ?_
  refine RO_getR (b := 215) gf_Model_44 lk_203 rfl dc_Model_readsRound_1 ?_
  refine RO_iload_n dc_Model_readsRound_4 rfl rfl ?_
  refine RO_iconst dc_Model_readsRound_5 ?_
  refine RO_chk (fun hi1 => ?_)
  refine RO_is lk_215 hi1 dc_Model_readsRound_6 ?_
  refine RO_bnM (fun m2 => ?_)
  refine RO_iconst dc_Model_readsRound_7 ?_
  refine RO_istore_n dc_Model_readsRound_8 rfl (Nat.le_of_ble_eq_true rfl) ?_
  refine RO_sub ?_ (rp_Model_readsRound_9 p1 FU (-1) m2)
  exact ⟨rfl, rfl, rfl, trivial⟩
def fn_Model_readsWaits  (mem : Mm) : Res := if (mem 205 (9 : Int).toNat) = 6 then (bd (fn_Model_fails 5 mem) fun r1 m2 => if r1 = 0 ∨ r1 = 1 then some (r1, m2) else none) else (bd (fn_Model_nextToken  mem) fun r4 m5 => bd (fn_Model_needsWalker 1 m5) fun r6 m7 => if r6 = 0 then (some (0, m7)) else (bn (m7 203 42) fun x8 => bd (fn_Model_nextToken  m7) fun r9 m10 => bd (fn_Model_needsWord 47 m10) fun r11 m12 => if r11 = 0 then (some (0, m12)) else (bd (fn_Model_needsPlace 1 m12) fun r13 m14 => if r13 = 0 then (some (0, m14)) else (bn (w32 ((w32 (36 + (w32 (6 * x8)))) + (m14 203 42))) fun x15 => if 0 ≤ x15 ∧ x15 < 72 then if 0 < (m14 216 x15.toNat) then (bd (fn_Model_fails 3 m14) fun r17 m18 => if r17 = 0 ∨ r17 = 1 then some (r17, m18) else none) else (bd (fn_Model_nextToken  m14) fun r20 m21 => bd (fn_Model_needsWord 4797 m21) fun r22 m23 => if r22 = 0 then (some (0, m23)) else (bd (fn_Model_needsWalker 1 m23) fun r24 m25 => if r24 = 0 then (some (0, m25)) else (bn (m25 203 42) fun x26 => if x26 = x8 then (bd (fn_Model_fails 3 m25) fun r27 m28 => if r27 = 0 ∨ r27 = 1 then some (r27, m28) else none) else (bd (fn_Model_nextToken  m25) fun r30 m31 => bd (fn_Model_needsNumber 1 60 m31) fun r32 m33 => if r32 = 0 then (some (0, m33)) else (if 0 ≤ x15 ∧ x15 < 72 then bn (mst m33 216 x15.toNat (w32 (1 + x26))) fun m35 => if 0 ≤ x15 ∧ x15 < 72 then bn (mst m35 217 x15.toNat (m35 203 42)) fun m37 => bn (mst m37 205 (9 : Int).toNat (w32 ((m37 205 (9 : Int).toNat) + 1))) fun m38 => bd (fn_Model_closes  m38) fun r39 m40 => if r39 = 0 ∨ r39 = 1 then some (r39, m40) else none else none else none))))) else none))))
set_option maxHeartbeats 4000000 in
theorem pf_Model_readsWaits {E : EE}   (mem : Mm) {r : Int} {mem9 : Mm} (h : fn_Model_readsWaits  mem = some (r, mem9)) : MetX E 4 yn_Model_readsWaits cd_Model_readsWaits 4 (some .boolean) [rf 203] mem r mem9 := by
  refine RO_met (y := yn_Model_readsWaits) (by decide +kernel) (Nat.le_of_ble_eq_true rfl) ?_ h
  show RO E mt_Model_readsWaits (fn_Model_readsWaits  mem) 0 [(0, rf 203)] [] mem
  unfold fn_Model_readsWaits
  refine RO_aload_n dc_Model_readsWaits_0 rfl rfl ?_
  refine RO_getR (b := 205) gf_Model_13 lk_203 rfl dc_Model_readsWaits_1 ?_
  refine RO_bipush dc_Model_readsWaits_4 ?_
  refine RO_ia lk_205 ⟨by decide, by decide⟩ dc_Model_readsWaits_6 ?_
  refine RO_bipush dc_Model_readsWaits_7 ?_
  refine RO_icmp_ne (tgt := 18) dc_Model_readsWaits_9 rfl ?_ ?_
  · refine RO_aload_n dc_Model_readsWaits_12 rfl rfl ?_
    refine RO_iconst dc_Model_readsWaits_13 ?_
    refine RO_callVi (As := [vi 5]) (rest := []) mi_Model_fails mv_Model_fails ml_Model_245 lk_203 (Nat.le_of_ble_eq_true rfl) rfl (Nat.le_of_ble_eq_true rfl) (fun _ => rfl) dc_Model_readsWaits_14 (fun rq mq hq => pf_Model_fails 5  mem hq) (fun r1 m2 => ?_)
    refine RO_chk (fun hz3 => ?_)
    exact RO_zret rfl hz3 dc_Model_readsWaits_17
  · refine RO_aload_n dc_Model_readsWaits_18 rfl rfl ?_
    refine RO_callVv (As := []) (rest := []) mi_Model_nextToken mv_Model_nextToken ml_Model_252 lk_203 (Nat.le_of_ble_eq_true rfl) rfl (Nat.le_of_ble_eq_true rfl) dc_Model_readsWaits_19 (fun rq mq hq => pf_Model_nextToken   mem hq) (fun r4 m5 => ?_)
    refine RO_aload_n dc_Model_readsWaits_22 rfl rfl ?_
    refine RO_iconst dc_Model_readsWaits_23 ?_
    refine RO_callVi (As := [vi 1]) (rest := []) mi_Model_needsWalker mv_Model_needsWalker ml_Model_364 lk_203 (Nat.le_of_ble_eq_true rfl) rfl (Nat.le_of_ble_eq_true rfl) (fun _ => rfl) dc_Model_readsWaits_24 (fun rq mq hq => pf_Model_needsWalker 1  m5 hq) (fun r6 m7 => ?_)
    refine RO_if_ne (tgt := 32) dc_Model_readsWaits_27 rfl ?_ ?_
    · refine RO_iconst dc_Model_readsWaits_30 ?_
      exact RO_zret rfl (Or.inl rfl) dc_Model_readsWaits_31
    · refine RO_aload_n dc_Model_readsWaits_32 rfl rfl ?_
      refine RO_getI gf_Model_322 lk_203 dc_Model_readsWaits_33 ?_
      refine RO_bnT (fun x8 => ?_)
      refine RO_istore_n dc_Model_readsWaits_36 rfl (Nat.le_of_ble_eq_true rfl) ?_
      refine RO_aload_n dc_Model_readsWaits_37 rfl rfl ?_
      refine RO_callVv (As := []) (rest := []) mi_Model_nextToken mv_Model_nextToken ml_Model_252 lk_203 (Nat.le_of_ble_eq_true rfl) rfl (Nat.le_of_ble_eq_true rfl) dc_Model_readsWaits_38 (fun rq mq hq => pf_Model_nextToken   m7 hq) (fun r9 m10 => ?_)
      refine RO_aload_n dc_Model_readsWaits_41 rfl rfl ?_
      refine RO_ldc2 (x := 47) c2_Model_284 ⟨by decide, ⟨by decide, by decide⟩⟩ dc_Model_readsWaits_42 ?_
      refine RO_callVi (As := [vl 47]) (rest := []) mi_Model_needsWord mv_Model_needsWord ml_Model_325 lk_203 (Nat.le_of_ble_eq_true rfl) rfl (Nat.le_of_ble_eq_true rfl) (fun _ => rfl) dc_Model_readsWaits_45 (fun rq mq hq => pf_Model_needsWord 47  m10 hq) (fun r11 m12 => ?_)
      refine RO_if_eq (tgt := 59) dc_Model_readsWaits_48 rfl ?_ ?_
      · refine RO_iconst dc_Model_readsWaits_59 ?_
        exact RO_zret rfl (Or.inl rfl) dc_Model_readsWaits_60
      · refine RO_aload_n dc_Model_readsWaits_51 rfl rfl ?_
        refine RO_iconst dc_Model_readsWaits_52 ?_
        refine RO_callVi (As := [vi 1]) (rest := []) mi_Model_needsPlace mv_Model_needsPlace ml_Model_354 lk_203 (Nat.le_of_ble_eq_true rfl) rfl (Nat.le_of_ble_eq_true rfl) (fun _ => rfl) dc_Model_readsWaits_53 (fun rq mq hq => pf_Model_needsPlace 1  m12 hq) (fun r13 m14 => ?_)
        refine RO_if_ne (tgt := 61) dc_Model_readsWaits_56 rfl ?_ ?_
        · refine RO_iconst dc_Model_readsWaits_59 ?_
          exact RO_zret rfl (Or.inl rfl) dc_Model_readsWaits_60
        · refine RO_bipush dc_Model_readsWaits_61 ?_
          refine RO_bipush dc_Model_readsWaits_63 ?_
          refine RO_iload_n dc_Model_readsWaits_65 rfl rfl ?_
          refine RO_imul dc_Model_readsWaits_66 ?_
          refine RO_iadd dc_Model_readsWaits_67 ?_
          refine RO_aload_n dc_Model_readsWaits_68 rfl rfl ?_
          refine RO_getI gf_Model_322 lk_203 dc_Model_readsWaits_69 ?_
          refine RO_iadd dc_Model_readsWaits_72 ?_
          refine RO_bnT (fun x15 => ?_)
          refine RO_istore_n dc_Model_readsWaits_73 rfl (Nat.le_of_ble_eq_true rfl) ?_
          refine RO_aload_n dc_Model_readsWaits_74 rfl rfl ?_
          refine RO_getR (b := 216) gf_Model_47 lk_203 rfl dc_Model_readsWaits_75 ?_
          refine RO_iload_n dc_Model_readsWaits_78 rfl rfl ?_
          refine RO_chk (fun hi16 => ?_)
          refine RO_ia lk_216 hi16 dc_Model_readsWaits_79 ?_
          refine RO_if_le (tgt := 89) dc_Model_readsWaits_80 rfl ?_ ?_
          · refine RO_aload_n dc_Model_readsWaits_83 rfl rfl ?_
            refine RO_iconst dc_Model_readsWaits_84 ?_
            refine RO_callVi (As := [vi 3]) (rest := []) mi_Model_fails mv_Model_fails ml_Model_245 lk_203 (Nat.le_of_ble_eq_true rfl) rfl (Nat.le_of_ble_eq_true rfl) (fun _ => rfl) dc_Model_readsWaits_85 (fun rq mq hq => pf_Model_fails 3  m14 hq) (fun r17 m18 => ?_)
            refine RO_chk (fun hz19 => ?_)
            exact RO_zret rfl hz19 dc_Model_readsWaits_88
          · refine RO_aload_n dc_Model_readsWaits_89 rfl rfl ?_
            refine RO_callVv (As := []) (rest := []) mi_Model_nextToken mv_Model_nextToken ml_Model_252 lk_203 (Nat.le_of_ble_eq_true rfl) rfl (Nat.le_of_ble_eq_true rfl) dc_Model_readsWaits_90 (fun rq mq hq => pf_Model_nextToken   m14 hq) (fun r20 m21 => ?_)
            refine RO_aload_n dc_Model_readsWaits_93 rfl rfl ?_
            refine RO_ldc2 (x := 4797) c2_Model_286 ⟨by decide, ⟨by decide, by decide⟩⟩ dc_Model_readsWaits_94 ?_
            refine RO_callVi (As := [vl 4797]) (rest := []) mi_Model_needsWord mv_Model_needsWord ml_Model_325 lk_203 (Nat.le_of_ble_eq_true rfl) rfl (Nat.le_of_ble_eq_true rfl) (fun _ => rfl) dc_Model_readsWaits_97 (fun rq mq hq => pf_Model_needsWord 4797  m21 hq) (fun r22 m23 => ?_)
            refine RO_if_eq (tgt := 111) dc_Model_readsWaits_100 rfl ?_ ?_
            · refine RO_iconst dc_Model_readsWaits_111 ?_
              exact RO_zret rfl (Or.inl rfl) dc_Model_readsWaits_112
            · refine RO_aload_n dc_Model_readsWaits_103 rfl rfl ?_
              refine RO_iconst dc_Model_readsWaits_104 ?_
              refine RO_callVi (As := [vi 1]) (rest := []) mi_Model_needsWalker mv_Model_needsWalker ml_Model_364 lk_203 (Nat.le_of_ble_eq_true rfl) rfl (Nat.le_of_ble_eq_true rfl) (fun _ => rfl) dc_Model_readsWaits_105 (fun rq mq hq => pf_Model_needsWalker 1  m23 hq) (fun r24 m25 => ?_)
              refine RO_if_ne (tgt := 113) dc_Model_readsWaits_108 rfl ?_ ?_
              · refine RO_iconst dc_Model_readsWaits_111 ?_
                exact RO_zret rfl (Or.inl rfl) dc_Model_readsWaits_112
              · refine RO_aload_n dc_Model_readsWaits_113 rfl rfl ?_
                refine RO_getI gf_Model_322 lk_203 dc_Model_readsWaits_114 ?_
                refine RO_bnT (fun x26 => ?_)
                refine RO_istore_n dc_Model_readsWaits_117 rfl (Nat.le_of_ble_eq_true rfl) ?_
                refine RO_iload_n dc_Model_readsWaits_118 rfl rfl ?_
                refine RO_iload_n dc_Model_readsWaits_119 rfl rfl ?_
                refine RO_icmp_ne (tgt := 129) dc_Model_readsWaits_120 rfl ?_ ?_
                · refine RO_aload_n dc_Model_readsWaits_123 rfl rfl ?_
                  refine RO_iconst dc_Model_readsWaits_124 ?_
                  refine RO_callVi (As := [vi 3]) (rest := []) mi_Model_fails mv_Model_fails ml_Model_245 lk_203 (Nat.le_of_ble_eq_true rfl) rfl (Nat.le_of_ble_eq_true rfl) (fun _ => rfl) dc_Model_readsWaits_125 (fun rq mq hq => pf_Model_fails 3  m25 hq) (fun r27 m28 => ?_)
                  refine RO_chk (fun hz29 => ?_)
                  exact RO_zret rfl hz29 dc_Model_readsWaits_128
                · refine RO_aload_n dc_Model_readsWaits_129 rfl rfl ?_
                  refine RO_callVv (As := []) (rest := []) mi_Model_nextToken mv_Model_nextToken ml_Model_252 lk_203 (Nat.le_of_ble_eq_true rfl) rfl (Nat.le_of_ble_eq_true rfl) dc_Model_readsWaits_130 (fun rq mq hq => pf_Model_nextToken   m25 hq) (fun r30 m31 => ?_)
                  refine RO_aload_n dc_Model_readsWaits_133 rfl rfl ?_
                  refine RO_iconst dc_Model_readsWaits_134 ?_
                  refine RO_bipush dc_Model_readsWaits_135 ?_
                  refine RO_callVi (As := [vi 1, vi 60]) (rest := []) mi_Model_needsNumber mv_Model_needsNumber ml_Model_328 lk_203 (Nat.le_of_ble_eq_true rfl) rfl (Nat.le_of_ble_eq_true rfl) (fun _ => rfl) dc_Model_readsWaits_137 (fun rq mq hq => pf_Model_needsNumber 1 60  m31 hq) (fun r32 m33 => ?_)
                  refine RO_if_ne (tgt := 145) dc_Model_readsWaits_140 rfl ?_ ?_
                  · refine RO_iconst dc_Model_readsWaits_143 ?_
                    exact RO_zret rfl (Or.inl rfl) dc_Model_readsWaits_144
                  · refine RO_aload_n dc_Model_readsWaits_145 rfl rfl ?_
                    refine RO_getR (b := 216) gf_Model_47 lk_203 rfl dc_Model_readsWaits_146 ?_
                    refine RO_iload_n dc_Model_readsWaits_149 rfl rfl ?_
                    refine RO_iconst dc_Model_readsWaits_150 ?_
                    refine RO_iload_n dc_Model_readsWaits_151 rfl rfl ?_
                    refine RO_iadd dc_Model_readsWaits_152 ?_
                    refine RO_chk (fun hi34 => ?_)
                    refine RO_is lk_216 hi34 dc_Model_readsWaits_153 ?_
                    refine RO_bnM (fun m35 => ?_)
                    refine RO_aload_n dc_Model_readsWaits_154 rfl rfl ?_
                    refine RO_getR (b := 217) gf_Model_50 lk_203 rfl dc_Model_readsWaits_155 ?_
                    refine RO_iload_n dc_Model_readsWaits_158 rfl rfl ?_
                    refine RO_aload_n dc_Model_readsWaits_159 rfl rfl ?_
                    refine RO_getI gf_Model_322 lk_203 dc_Model_readsWaits_160 ?_
                    refine RO_chk (fun hi36 => ?_)
                    refine RO_is lk_217 hi36 dc_Model_readsWaits_163 ?_
                    refine RO_bnM (fun m37 => ?_)
                    refine RO_aload_n dc_Model_readsWaits_164 rfl rfl ?_
                    refine RO_getR (b := 205) gf_Model_13 lk_203 rfl dc_Model_readsWaits_165 ?_
                    refine RO_bipush dc_Model_readsWaits_168 ?_
                    refine RO_dup2 dc_Model_readsWaits_170 (nt0 _) (nt2 _) ?_
                    refine RO_ia lk_205 ⟨by decide, by decide⟩ dc_Model_readsWaits_171 ?_
                    refine RO_iconst dc_Model_readsWaits_172 ?_
                    refine RO_iadd dc_Model_readsWaits_173 ?_
                    refine RO_is lk_205 ⟨by decide, by decide⟩ dc_Model_readsWaits_174 ?_
                    refine RO_bnM (fun m38 => ?_)
                    refine RO_aload_n dc_Model_readsWaits_175 rfl rfl ?_
                    refine RO_callVi (As := []) (rest := []) mi_Model_closes mv_Model_closes ml_Model_351 lk_203 (Nat.le_of_ble_eq_true rfl) rfl (Nat.le_of_ble_eq_true rfl) (fun _ => rfl) dc_Model_readsWaits_176 (fun rq mq hq => pf_Model_closes   m38 hq) (fun r39 m40 => ?_)
                    refine RO_chk (fun hz41 => ?_)
                    exact RO_zret rfl hz41 dc_Model_readsWaits_179
def fn_Model_readsMissed  (mem : Mm) : Res := if (mem 221 (1 : Int).toNat) < (mem 222 (1 : Int).toNat) then (bd (fn_Model_fails 3 mem) fun r1 m2 => if r1 = 0 ∨ r1 = 1 then some (r1, m2) else none) else (bd (fn_Model_nextToken  mem) fun r4 m5 => bn (mst m5 221 (1 : Int).toNat (m5 203 29)) fun m6 => bd (fn_Model_reads  m6) fun r7 m8 => if r7 = 0 then (some (0, m8)) else (bn (mst m8 222 (1 : Int).toNat (m8 203 29)) fun m9 => some (1, m9)))
set_option maxHeartbeats 4000000 in
theorem pf_Model_readsMissed {E : EE}   (mem : Mm) {r : Int} {mem9 : Mm} (h : fn_Model_readsMissed  mem = some (r, mem9)) : MetX E 4 yn_Model_readsMissed cd_Model_readsMissed 1 (some .boolean) [rf 203] mem r mem9 := by
  refine RO_met (y := yn_Model_readsMissed) (by decide +kernel) (Nat.le_of_ble_eq_true rfl) ?_ h
  show RO E mt_Model_readsMissed (fn_Model_readsMissed  mem) 0 [(0, rf 203)] [] mem
  unfold fn_Model_readsMissed
  refine RO_aload_n dc_Model_readsMissed_0 rfl rfl ?_
  refine RO_getR (b := 222) gf_Model_65 lk_203 rfl dc_Model_readsMissed_1 ?_
  refine RO_iconst dc_Model_readsMissed_4 ?_
  refine RO_ia lk_222 ⟨by decide, by decide⟩ dc_Model_readsMissed_5 ?_
  refine RO_aload_n dc_Model_readsMissed_6 rfl rfl ?_
  refine RO_getR (b := 221) gf_Model_62 lk_203 rfl dc_Model_readsMissed_7 ?_
  refine RO_iconst dc_Model_readsMissed_10 ?_
  refine RO_ia lk_221 ⟨by decide, by decide⟩ dc_Model_readsMissed_11 ?_
  refine RO_icmp_le (tgt := 21) dc_Model_readsMissed_12 rfl ?_ ?_
  · refine RO_aload_n dc_Model_readsMissed_15 rfl rfl ?_
    refine RO_iconst dc_Model_readsMissed_16 ?_
    refine RO_callVi (As := [vi 3]) (rest := []) mi_Model_fails mv_Model_fails ml_Model_245 lk_203 (Nat.le_of_ble_eq_true rfl) rfl (Nat.le_of_ble_eq_true rfl) (fun _ => rfl) dc_Model_readsMissed_17 (fun rq mq hq => pf_Model_fails 3  mem hq) (fun r1 m2 => ?_)
    refine RO_chk (fun hz3 => ?_)
    exact RO_zret rfl hz3 dc_Model_readsMissed_20
  · refine RO_aload_n dc_Model_readsMissed_21 rfl rfl ?_
    refine RO_callVv (As := []) (rest := []) mi_Model_nextToken mv_Model_nextToken ml_Model_252 lk_203 (Nat.le_of_ble_eq_true rfl) rfl (Nat.le_of_ble_eq_true rfl) dc_Model_readsMissed_22 (fun rq mq hq => pf_Model_nextToken   mem hq) (fun r4 m5 => ?_)
    refine RO_aload_n dc_Model_readsMissed_25 rfl rfl ?_
    refine RO_getR (b := 221) gf_Model_62 lk_203 rfl dc_Model_readsMissed_26 ?_
    refine RO_iconst dc_Model_readsMissed_29 ?_
    refine RO_aload_n dc_Model_readsMissed_30 rfl rfl ?_
    refine RO_getI gf_Model_222 lk_203 dc_Model_readsMissed_31 ?_
    refine RO_is lk_221 ⟨by decide, by decide⟩ dc_Model_readsMissed_34 ?_
    refine RO_bnM (fun m6 => ?_)
    refine RO_aload_n dc_Model_readsMissed_35 rfl rfl ?_
    refine RO_callVi (As := []) (rest := []) mi_Model_reads mv_Model_reads ml_Model_370 lk_203 (Nat.le_of_ble_eq_true rfl) rfl (Nat.le_of_ble_eq_true rfl) (fun _ => rfl) dc_Model_readsMissed_36 (fun rq mq hq => pf_Model_reads   m6 hq) (fun r7 m8 => ?_)
    refine RO_if_ne (tgt := 44) dc_Model_readsMissed_39 rfl ?_ ?_
    · refine RO_iconst dc_Model_readsMissed_42 ?_
      exact RO_zret rfl (Or.inl rfl) dc_Model_readsMissed_43
    · refine RO_aload_n dc_Model_readsMissed_44 rfl rfl ?_
      refine RO_getR (b := 222) gf_Model_65 lk_203 rfl dc_Model_readsMissed_45 ?_
      refine RO_iconst dc_Model_readsMissed_48 ?_
      refine RO_aload_n dc_Model_readsMissed_49 rfl rfl ?_
      refine RO_getI gf_Model_222 lk_203 dc_Model_readsMissed_50 ?_
      refine RO_is lk_222 ⟨by decide, by decide⟩ dc_Model_readsMissed_53 ?_
      refine RO_bnM (fun m9 => ?_)
      refine RO_iconst dc_Model_readsMissed_54 ?_
      exact RO_zret rfl (Or.inr rfl) dc_Model_readsMissed_55
