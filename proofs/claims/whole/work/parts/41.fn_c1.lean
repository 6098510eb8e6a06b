def fn_Tape_isEnd  (mem : Mm) : Res := if (mem 1 6) = 1 then (some (1, mem)) else (some (0, mem))
set_option maxHeartbeats 4000000 in
theorem pf_Tape_isEnd {E : EE}   (mem : Mm) {r : Int} {mem9 : Mm} (h : fn_Tape_isEnd  mem = some (r, mem9)) : MetX E 1 yn_Tape_isEnd cd_Tape_isEnd 1 (some .boolean) [rf 1] mem r mem9 := by
  refine RO_met (y := yn_Tape_isEnd) (by decide +kernel) (Nat.le_of_ble_eq_true rfl) ?_ h
  show RO E mt_Tape_isEnd (fn_Tape_isEnd  mem) 0 [(0, rf 1)] [] mem
  unfold fn_Tape_isEnd
  refine RO_aload_n dc_Tape_isEnd_0 rfl rfl ?_
  refine RO_getI gf_Tape_41 lk_1 dc_Tape_isEnd_1 ?_
  refine RO_iconst dc_Tape_isEnd_4 ?_
  refine RO_icmp_ne (tgt := 12) dc_Tape_isEnd_5 rfl ?_ ?_
  · refine RO_iconst dc_Tape_isEnd_8 ?_
    refine RO_goto (tgt := 13) dc_Tape_isEnd_9 rfl ?_
    exact RO_zret rfl (Or.inr rfl) dc_Tape_isEnd_13
  · refine RO_iconst dc_Tape_isEnd_12 ?_
    exact RO_zret rfl (Or.inl rfl) dc_Tape_isEnd_13
def fn_Tape_isNumber  (mem : Mm) : Res := if (mem 1 6) = 3 then (some (1, mem)) else (some (0, mem))
set_option maxHeartbeats 4000000 in
theorem pf_Tape_isNumber {E : EE}   (mem : Mm) {r : Int} {mem9 : Mm} (h : fn_Tape_isNumber  mem = some (r, mem9)) : MetX E 1 yn_Tape_isNumber cd_Tape_isNumber 1 (some .boolean) [rf 1] mem r mem9 := by
  refine RO_met (y := yn_Tape_isNumber) (by decide +kernel) (Nat.le_of_ble_eq_true rfl) ?_ h
  show RO E mt_Tape_isNumber (fn_Tape_isNumber  mem) 0 [(0, rf 1)] [] mem
  unfold fn_Tape_isNumber
  refine RO_aload_n dc_Tape_isNumber_0 rfl rfl ?_
  refine RO_getI gf_Tape_41 lk_1 dc_Tape_isNumber_1 ?_
  refine RO_iconst dc_Tape_isNumber_4 ?_
  refine RO_icmp_ne (tgt := 12) dc_Tape_isNumber_5 rfl ?_ ?_
  · refine RO_iconst dc_Tape_isNumber_8 ?_
    refine RO_goto (tgt := 13) dc_Tape_isNumber_9 rfl ?_
    exact RO_zret rfl (Or.inr rfl) dc_Tape_isNumber_13
  · refine RO_iconst dc_Tape_isNumber_12 ?_
    exact RO_zret rfl (Or.inl rfl) dc_Tape_isNumber_13
def fn_Tape_isSign (p1 : Int) (mem : Mm) : Res := if (mem 1 6) = 4 then (if 0 ≤ mem 1 7 ∧ mem 1 7 < 1000 then if (mem 2 (mem 1 7).toNat) = p1 then (some (1, mem)) else (some (0, mem)) else none) else (some (0, mem))
set_option maxHeartbeats 4000000 in
theorem pf_Tape_isSign {E : EE} (p1 : Int)  (mem : Mm) {r : Int} {mem9 : Mm} (h : fn_Tape_isSign p1 mem = some (r, mem9)) : MetX E 1 yn_Tape_isSign cd_Tape_isSign 2 (some .boolean) [rf 1, vi p1] mem r mem9 := by
  refine RO_met (y := yn_Tape_isSign) (by decide +kernel) (Nat.le_of_ble_eq_true rfl) ?_ h
  show RO E mt_Tape_isSign (fn_Tape_isSign p1 mem) 0 [(0, rf 1), (1, vi p1)] [] mem
  unfold fn_Tape_isSign
  refine RO_aload_n dc_Tape_isSign_0 rfl rfl ?_
  refine RO_getI gf_Tape_41 lk_1 dc_Tape_isSign_1 ?_
  refine RO_iconst dc_Tape_isSign_4 ?_
  refine RO_icmp_ne (tgt := 25) dc_Tape_isSign_5 rfl ?_ ?_
  · refine RO_aload_n dc_Tape_isSign_8 rfl rfl ?_
    refine RO_getR (b := 2) gf_Tape_9 lk_1 rfl dc_Tape_isSign_9 ?_
    refine RO_aload_n dc_Tape_isSign_12 rfl rfl ?_
    refine RO_getI gf_Tape_34 lk_1 dc_Tape_isSign_13 ?_
    refine RO_chk (fun hi1 => ?_)
    refine RO_ca lk_2 hi1 dc_Tape_isSign_16 ?_
    refine RO_iload_n dc_Tape_isSign_17 rfl rfl ?_
    refine RO_icmp_ne (tgt := 25) dc_Tape_isSign_18 rfl ?_ ?_
    · refine RO_iconst dc_Tape_isSign_21 ?_
      refine RO_goto (tgt := 26) dc_Tape_isSign_22 rfl ?_
      exact RO_zret rfl (Or.inr rfl) dc_Tape_isSign_26
    · refine RO_iconst dc_Tape_isSign_25 ?_
      exact RO_zret rfl (Or.inl rfl) dc_Tape_isSign_26
  · refine RO_iconst dc_Tape_isSign_25 ?_
    exact RO_zret rfl (Or.inl rfl) dc_Tape_isSign_26
def fn_Tape_wrong (p1 : Int) (mem : Mm) : Res := bn (mst mem 1 1 (w32 (p1 + (w32 (16 * (mem 1 7)))))) fun m1 => some (0, m1)
set_option maxHeartbeats 4000000 in
theorem pf_Tape_wrong {E : EE} (p1 : Int)  (mem : Mm) {r : Int} {mem9 : Mm} (h : fn_Tape_wrong p1 mem = some (r, mem9)) : MetX E 1 yn_Tape_wrong cd_Tape_wrong 2 (some .boolean) [rf 1, vi p1] mem r mem9 := by
  refine RO_met (y := yn_Tape_wrong) (by decide +kernel) (Nat.le_of_ble_eq_true rfl) ?_ h
  show RO E mt_Tape_wrong (fn_Tape_wrong p1 mem) 0 [(0, rf 1), (1, vi p1)] [] mem
  unfold fn_Tape_wrong
  refine RO_aload_n dc_Tape_wrong_0 rfl rfl ?_
  refine RO_iload_n dc_Tape_wrong_1 rfl rfl ?_
  refine RO_bipush dc_Tape_wrong_2 ?_
  refine RO_aload_n dc_Tape_wrong_4 rfl rfl ?_
  refine RO_getI gf_Tape_34 lk_1 dc_Tape_wrong_5 ?_
  refine RO_imul dc_Tape_wrong_8 ?_
  refine RO_iadd dc_Tape_wrong_9 ?_
  refine RO_putI gp_Tape_25 lk_1 dc_Tape_wrong_10 ?_
  refine RO_bnM (fun m1 => ?_)
  refine RO_iconst dc_Tape_wrong_13 ?_
  exact RO_zret rfl (Or.inl rfl) dc_Tape_wrong_14
def bo_Tape_find_3 (p0 : Nat) (p1 : Int) (p2 : Int) (k3 : Int → Mm → Res) (v4 : Int) (mem : Mm) : Res := if v4 < p1 then (if v4 < 6 then (if 0 ≤ v4 ∧ v4 < 6 then if (lcm (mem p0 v4.toNat) p2) = 0 then (some (v4, mem)) else (k3 (w32 (v4 + 1)) mem) else none) else (some ((-1), mem))) else (some ((-1), mem))
set_option maxHeartbeats 4000000 in
theorem rb_Tape_find_3 {E : EE} (p0 : Nat) (p1 : Int) (p2 : Int) (hk_p0 : ly_k p0 = (13, 6)) (k3 : Int → Mm → Res) (H3 : ∀ (v4 : Int)  (mem : Mm), RO E mt_Tape_find (k3 v4 mem) 3 [(0, rf p0), (1, vi p1), (2, vl p2), (4, vi v4)] [] mem) (v4 : Int)  (mem : Mm) : RO E mt_Tape_find (bo_Tape_find_3 p0 p1 p2 k3 v4 mem) 3 [(0, rf p0), (1, vi p1), (2, vl p2), (4, vi v4)] [] mem := by
  unfold bo_Tape_find_3
  refine RO_iload dc_Tape_find_3 rfl ?_
  refine RO_iload_n dc_Tape_find_5 rfl rfl ?_
  refine RO_icmp_ge (tgt := 34) dc_Tape_find_6 rfl ?_ ?_
  · refine RO_iload dc_Tape_find_9 rfl ?_
    refine RO_aload_n dc_Tape_find_11 rfl rfl ?_
    refine RO_alen (x := 6) (by decide) hk_p0 rfl (ly_n hk_p0) dc_Tape_find_12 ?_
    refine RO_icmp_ge (tgt := 34) dc_Tape_find_13 rfl ?_ ?_
    · refine RO_aload_n dc_Tape_find_16 rfl rfl ?_
      refine RO_iload dc_Tape_find_17 rfl ?_
      refine RO_chk (fun hi1 => ?_)
      refine RO_la hk_p0 hi1 dc_Tape_find_19 ?_
      refine RO_lload_n dc_Tape_find_20 rfl rfl ?_
      refine RO_lcmp dc_Tape_find_21 ?_
      refine RO_if_ne (tgt := 28) dc_Tape_find_22 rfl ?_ ?_
      · refine RO_iload dc_Tape_find_25 rfl ?_
        exact RO_iret rfl dc_Tape_find_27
      · refine RO_iinc dc_Tape_find_28 rfl (Nat.le_of_ble_eq_true rfl) ?_
        refine RO_goto (tgt := 3) dc_Tape_find_31 rfl ?_
        refine RO_sub ?_ (H3 (w32 (v4 + 1)) mem)
        exact ⟨rfl, rfl, rfl, rfl, trivial⟩
    · refine RO_iconst dc_Tape_find_34 ?_
      exact RO_iret rfl dc_Tape_find_35
  · refine RO_iconst dc_Tape_find_34 ?_
    exact RO_iret rfl dc_Tape_find_35
def lp_Tape_find_3 (p0 : Nat) (p1 : Int) (p2 : Int)  : Nat → Int → Mm → Res
  | 0 => fun _ _ => none
  | n + 1 => bo_Tape_find_3 p0 p1 p2  (lp_Tape_find_3 p0 p1 p2  n)
theorem rp_Tape_find_3 {E : EE} (p0 : Nat) (p1 : Int) (p2 : Int) (hk_p0 : ly_k p0 = (13, 6))   : ∀ (n : Nat) (v4 : Int)  (mem : Mm), RO E mt_Tape_find (lp_Tape_find_3 p0 p1 p2  n v4 mem) 3 [(0, rf p0), (1, vi p1), (2, vl p2), (4, vi v4)] [] mem := by
  intro n
  induction n with
  | zero => intro v4  mem; exact RO_none
  | succ n ih => intro v4  mem; exact rb_Tape_find_3 p0 p1 p2 hk_p0  (lp_Tape_find_3 p0 p1 p2  n)  ih v4  mem
def fn_Tape_find (p0 : Nat) (p1 : Int) (p2 : Int) (mem : Mm) : Res := lp_Tape_find_3 p0 p1 p2 FU 0 mem
set_option maxHeartbeats 4000000 in
theorem pf_Tape_find {E : EE} (p0 : Nat) (p1 : Int) (p2 : Int) (hk_p0 : ly_k p0 = (13, 6)) (mem : Mm) {r : Int} {mem9 : Mm} (h : fn_Tape_find p0 p1 p2 mem = some (r, mem9)) : MetX E 1 yn_Tape_find cd_Tape_find 5 (some .int) [rf p0, vi p1, vl p2] mem r mem9 := by
  refine RO_met (y := yn_Tape_find) (by decide +kernel) (Nat.le_of_ble_eq_true rfl) ?_ h
  show RO E mt_Tape_find (fn_Tape_find p0 p1 p2 mem) 0 [(0, rf p0), (1, vi p1), (2, vl p2)] [] mem
  unfold fn_Tape_find
  refine RO_iconst dc_Tape_find_0 ?_
  refine RO_istore dc_Tape_find_1 (Nat.le_of_ble_eq_true rfl) ?_
  refine RO_sub ?_ (rp_Tape_find_3 p0 p1 p2 hk_p0 FU 0 mem)
  exact ⟨rfl, rfl, rfl, rfl, trivial⟩
def fn_Tape_isBlank (p0 : Int) (mem : Mm) : Res := if p0 = 10 then (some (1, mem)) else (if p0 = 32 then (some (1, mem)) else (some (0, mem)))
set_option maxHeartbeats 4000000 in
theorem pf_Tape_isBlank {E : EE} (p0 : Int)  (mem : Mm) {r : Int} {mem9 : Mm} (h : fn_Tape_isBlank p0 mem = some (r, mem9)) : MetX E 1 yn_Tape_isBlank cd_Tape_isBlank 1 (some .boolean) [vi p0] mem r mem9 := by
  refine RO_met (y := yn_Tape_isBlank) (by decide +kernel) (Nat.le_of_ble_eq_true rfl) ?_ h
  show RO E mt_Tape_isBlank (fn_Tape_isBlank p0 mem) 0 [(0, vi p0)] [] mem
  unfold fn_Tape_isBlank
  refine RO_iload_n dc_Tape_isBlank_0 rfl rfl ?_
  refine RO_bipush dc_Tape_isBlank_1 ?_
  refine RO_icmp_eq (tgt := 12) dc_Tape_isBlank_3 rfl ?_ ?_
  · refine RO_iconst dc_Tape_isBlank_12 ?_
    refine RO_goto (tgt := 17) dc_Tape_isBlank_13 rfl ?_
    exact RO_zret rfl (Or.inr rfl) dc_Tape_isBlank_17
  · refine RO_iload_n dc_Tape_isBlank_6 rfl rfl ?_
    refine RO_bipush dc_Tape_isBlank_7 ?_
    refine RO_icmp_ne (tgt := 16) dc_Tape_isBlank_9 rfl ?_ ?_
    · refine RO_iconst dc_Tape_isBlank_12 ?_
      refine RO_goto (tgt := 17) dc_Tape_isBlank_13 rfl ?_
      exact RO_zret rfl (Or.inr rfl) dc_Tape_isBlank_17
    · refine RO_iconst dc_Tape_isBlank_16 ?_
      exact RO_zret rfl (Or.inl rfl) dc_Tape_isBlank_17
def fn_Tape_isLetter (p0 : Int) (mem : Mm) : Res := if p0 < 97 then (some (0, mem)) else (if 122 < p0 then (some (0, mem)) else (some (1, mem)))
set_option maxHeartbeats 4000000 in
theorem pf_Tape_isLetter {E : EE} (p0 : Int)  (mem : Mm) {r : Int} {mem9 : Mm} (h : fn_Tape_isLetter p0 mem = some (r, mem9)) : MetX E 1 yn_Tape_isLetter cd_Tape_isLetter 1 (some .boolean) [vi p0] mem r mem9 := by
  refine RO_met (y := yn_Tape_isLetter) (by decide +kernel) (Nat.le_of_ble_eq_true rfl) ?_ h
  show RO E mt_Tape_isLetter (fn_Tape_isLetter p0 mem) 0 [(0, vi p0)] [] mem
  unfold fn_Tape_isLetter
  refine RO_iload_n dc_Tape_isLetter_0 rfl rfl ?_
  refine RO_bipush dc_Tape_isLetter_1 ?_
  refine RO_icmp_lt (tgt := 16) dc_Tape_isLetter_3 rfl ?_ ?_
  · refine RO_iconst dc_Tape_isLetter_16 ?_
    exact RO_zret rfl (Or.inl rfl) dc_Tape_isLetter_17
  · refine RO_iload_n dc_Tape_isLetter_6 rfl rfl ?_
    refine RO_bipush dc_Tape_isLetter_7 ?_
    refine RO_icmp_gt (tgt := 16) dc_Tape_isLetter_9 rfl ?_ ?_
    · refine RO_iconst dc_Tape_isLetter_16 ?_
      exact RO_zret rfl (Or.inl rfl) dc_Tape_isLetter_17
    · refine RO_iconst dc_Tape_isLetter_12 ?_
      refine RO_goto (tgt := 17) dc_Tape_isLetter_13 rfl ?_
      exact RO_zret rfl (Or.inr rfl) dc_Tape_isLetter_17
def fn_Tape_isDigit (p0 : Int) (mem : Mm) : Res := if p0 < 48 then (some (0, mem)) else (if 57 < p0 then (some (0, mem)) else (some (1, mem)))
set_option maxHeartbeats 4000000 in
theorem pf_Tape_isDigit {E : EE} (p0 : Int)  (mem : Mm) {r : Int} {mem9 : Mm} (h : fn_Tape_isDigit p0 mem = some (r, mem9)) : MetX E 1 yn_Tape_isDigit cd_Tape_isDigit 1 (some .boolean) [vi p0] mem r mem9 := by
  refine RO_met (y := yn_Tape_isDigit) (by decide +kernel) (Nat.le_of_ble_eq_true rfl) ?_ h
  show RO E mt_Tape_isDigit (fn_Tape_isDigit p0 mem) 0 [(0, vi p0)] [] mem
  unfold fn_Tape_isDigit
  refine RO_iload_n dc_Tape_isDigit_0 rfl rfl ?_
  refine RO_bipush dc_Tape_isDigit_1 ?_
  refine RO_icmp_lt (tgt := 16) dc_Tape_isDigit_3 rfl ?_ ?_
  · refine RO_iconst dc_Tape_isDigit_16 ?_
    exact RO_zret rfl (Or.inl rfl) dc_Tape_isDigit_17
  · refine RO_iload_n dc_Tape_isDigit_6 rfl rfl ?_
    refine RO_bipush dc_Tape_isDigit_7 ?_
    refine RO_icmp_gt (tgt := 16) dc_Tape_isDigit_9 rfl ?_ ?_
    · refine RO_iconst dc_Tape_isDigit_16 ?_
      exact RO_zret rfl (Or.inl rfl) dc_Tape_isDigit_17
    · refine RO_iconst dc_Tape_isDigit_12 ?_
      refine RO_goto (tgt := 17) dc_Tape_isDigit_13 rfl ?_
      exact RO_zret rfl (Or.inr rfl) dc_Tape_isDigit_17
def bo_Walk_nextMinute_5  (k5 : Int → Int → Mm → Res) (v1 : Int) (v2 : Int) (mem : Mm) : Res := if isK 0 (mem 98 0) = true then if v2 < (mem (mem 98 0).toNat 1) then (if 0 ≤ v2 ∧ v2 < 6 then bn (imn v1 (mem 103 v2.toNat)) fun x3 => k5 x3 (w32 (v2 + 1)) mem else none) else (some (v1, mem)) else none
set_option maxHeartbeats 4000000 in
theorem rb_Walk_nextMinute_5 {E : EE}   (k5 : Int → Int → Mm → Res) (H5 : ∀ (v1 : Int) (v2 : Int)  (mem : Mm), RO E mt_Walk_nextMinute (k5 v1 v2 mem) 5 [(0, rf 98), (1, vi v1), (2, vi v2)] [] mem) (v1 : Int) (v2 : Int)  (mem : Mm) : RO E mt_Walk_nextMinute (bo_Walk_nextMinute_5  k5 v1 v2 mem) 5 [(0, rf 98), (1, vi v1), (2, vi v2)] [] mem := by
  unfold bo_Walk_nextMinute_5
  refine RO_iload_n dc_Walk_nextMinute_5 rfl rfl ?_
  refine RO_aload_n dc_Walk_nextMinute_6 rfl rfl ?_
  refine RO_chk (fun hz1 => ?_)
  refine RO_getM gf_Walk_27 lk_98 (isK_0 hz1) dc_Walk_nextMinute_7 ?_
  refine RO_getI gf_Walk_39 (kd_0 hz1) dc_Walk_nextMinute_10 ?_
  refine RO_icmp_ge (tgt := 33) dc_Walk_nextMinute_13 rfl ?_ ?_
  · refine RO_iload_n dc_Walk_nextMinute_16 rfl rfl ?_
    refine RO_aload_n dc_Walk_nextMinute_17 rfl rfl ?_
    refine RO_getR (b := 103) gf_Walk_24 lk_98 rfl dc_Walk_nextMinute_18 ?_
    refine RO_iload_n dc_Walk_nextMinute_21 rfl rfl ?_
    refine RO_chk (fun hi2 => ?_)
    refine RO_ia lk_103 hi2 dc_Walk_nextMinute_22 ?_
    refine RO_min mw_min ml_Walk_77 (Nat.le_of_ble_eq_true rfl) (Nat.le_of_ble_eq_true rfl) dc_Walk_nextMinute_23 ?_
    refine RO_bnT (fun x3 => ?_)
    refine RO_istore_n dc_Walk_nextMinute_26 rfl (Nat.le_of_ble_eq_true rfl) ?_
    refine RO_iinc dc_Walk_nextMinute_27 rfl (Nat.le_of_ble_eq_true rfl) ?_
    refine RO_goto (tgt := 5) dc_Walk_nextMinute_30 rfl ?_
    refine RO_sub ?_ (H5 x3 (w32 (v2 + 1)) mem)
    exact ⟨rfl, rfl, rfl, trivial⟩
  · refine RO_iload_n dc_Walk_nextMinute_33 rfl rfl ?_
    exact RO_iret rfl dc_Walk_nextMinute_34
def lp_Walk_nextMinute_5   : Nat → Int → Int → Mm → Res
  | 0 => fun _ _ _ => none
  | n + 1 => bo_Walk_nextMinute_5   (lp_Walk_nextMinute_5   n)
theorem rp_Walk_nextMinute_5 {E : EE}     : ∀ (n : Nat) (v1 : Int) (v2 : Int)  (mem : Mm), RO E mt_Walk_nextMinute (lp_Walk_nextMinute_5   n v1 v2 mem) 5 [(0, rf 98), (1, vi v1), (2, vi v2)] [] mem := by
  intro n
  induction n with
  | zero => intro v1 v2  mem; exact RO_none
  | succ n ih => intro v1 v2  mem; exact rb_Walk_nextMinute_5    (lp_Walk_nextMinute_5   n)  ih v1 v2  mem
def fn_Walk_nextMinute  (mem : Mm) : Res := lp_Walk_nextMinute_5 FU 1000000 0 mem
set_option maxHeartbeats 4000000 in
theorem pf_Walk_nextMinute {E : EE}   (mem : Mm) {r : Int} {mem9 : Mm} (h : fn_Walk_nextMinute  mem = some (r, mem9)) : MetX E 1 yn_Walk_nextMinute cd_Walk_nextMinute 3 (some .int) [rf 98] mem r mem9 := by
  refine RO_met (y := yn_Walk_nextMinute) (by decide +kernel) (Nat.le_of_ble_eq_true rfl) ?_ h
  show RO E mt_Walk_nextMinute (fn_Walk_nextMinute  mem) 0 [(0, rf 98)] [] mem
  unfold fn_Walk_nextMinute
  refine RO_ldc (x := 1000000) c1_Walk_62 ⟨by decide, ⟨by decide, by decide⟩⟩ dc_Walk_nextMinute_0 ?_
  refine RO_istore_n dc_Walk_nextMinute_2 rfl (Nat.le_of_ble_eq_true rfl) ?_
  refine RO_iconst dc_Walk_nextMinute_3 ?_
  refine RO_istore_n dc_Walk_nextMinute_4 rfl (Nat.le_of_ble_eq_true rfl) ?_
  refine RO_sub ?_ (rp_Walk_nextMinute_5 FU 1000000 0 mem)
  exact ⟨rfl, rfl, rfl, trivial⟩
def fn_Walk_isThere (p1 : Int) (mem : Mm) : Res := if (iand (ishr (mem 98 7) p1) 1) = 0 then (some (0, mem)) else (some (1, mem))
set_option maxHeartbeats 4000000 in
theorem pf_Walk_isThere {E : EE} (p1 : Int)  (mem : Mm) {r : Int} {mem9 : Mm} (h : fn_Walk_isThere p1 mem = some (r, mem9)) : MetX E 1 yn_Walk_isThere cd_Walk_isThere 2 (some .boolean) [rf 98, vi p1] mem r mem9 := by
  refine RO_met (y := yn_Walk_isThere) (by decide +kernel) (Nat.le_of_ble_eq_true rfl) ?_ h
  show RO E mt_Walk_isThere (fn_Walk_isThere p1 mem) 0 [(0, rf 98), (1, vi p1)] [] mem
  unfold fn_Walk_isThere
  refine RO_aload_n dc_Walk_isThere_0 rfl rfl ?_
  refine RO_getI gf_Walk_35 lk_98 dc_Walk_isThere_1 ?_
  refine RO_iload_n dc_Walk_isThere_4 rfl rfl ?_
  refine RO_ishr dc_Walk_isThere_5 ?_
  refine RO_iconst dc_Walk_isThere_6 ?_
  refine RO_iand dc_Walk_isThere_7 ?_
  refine RO_if_eq (tgt := 15) dc_Walk_isThere_8 rfl ?_ ?_
  · refine RO_iconst dc_Walk_isThere_15 ?_
    exact RO_zret rfl (Or.inl rfl) dc_Walk_isThere_16
  · refine RO_iconst dc_Walk_isThere_11 ?_
    refine RO_goto (tgt := 16) dc_Walk_isThere_12 rfl ?_
    exact RO_zret rfl (Or.inr rfl) dc_Walk_isThere_16
def fn_Walk_visitOf (p1 : Int) (mem : Mm) : Res := if 0 ≤ p1 ∧ p1 < 6 then some (w32 ((w32 ((w32 (p1 * 4)) + (mem 99 p1.toNat))) - 1), mem) else none
set_option maxHeartbeats 4000000 in
theorem pf_Walk_visitOf {E : EE} (p1 : Int)  (mem : Mm) {r : Int} {mem9 : Mm} (h : fn_Walk_visitOf p1 mem = some (r, mem9)) : MetX E 1 yn_Walk_visitOf cd_Walk_visitOf 2 (some .int) [rf 98, vi p1] mem r mem9 := by
  refine RO_met (y := yn_Walk_visitOf) (by decide +kernel) (Nat.le_of_ble_eq_true rfl) ?_ h
  show RO E mt_Walk_visitOf (fn_Walk_visitOf p1 mem) 0 [(0, rf 98), (1, vi p1)] [] mem
  unfold fn_Walk_visitOf
  refine RO_iload_n dc_Walk_visitOf_0 rfl rfl ?_
  refine RO_iconst dc_Walk_visitOf_1 ?_
  refine RO_imul dc_Walk_visitOf_2 ?_
  refine RO_aload_n dc_Walk_visitOf_3 rfl rfl ?_
  refine RO_getR (b := 99) gf_Walk_9 lk_98 rfl dc_Walk_visitOf_4 ?_
  refine RO_iload_n dc_Walk_visitOf_7 rfl rfl ?_
  refine RO_chk (fun hi1 => ?_)
  refine RO_ia lk_99 hi1 dc_Walk_visitOf_8 ?_
  refine RO_iadd dc_Walk_visitOf_9 ?_
  refine RO_iconst dc_Walk_visitOf_10 ?_
  refine RO_isub dc_Walk_visitOf_11 ?_
  exact RO_iret rfl dc_Walk_visitOf_12
def fn_Walk_nextWay (p1 : Int) (mem : Mm) : Res := if isK 0 (mem 98 0) = true then if 0 ≤ p1 ∧ p1 < 6 then if 0 ≤ p1 ∧ p1 < 6 then bn (mem 99 p1.toNat) fun x6 => if 0 < x6 then (if x6 < (mem (((mem 98 0).toNat + 4 * p1.toNat) + 13) 4) then (if isK 0 (mem 98 0) = true then if 0 ≤ w32 (x6 - 1) ∧ w32 (x6 - 1) < 4 then if 0 ≤ x6 ∧ x6 < 4 then if 0 ≤ w32 ((w32 ((mem (((mem 98 0).toNat + 4 * p1.toNat) + 14) (w32 (x6 - 1)).toNat) * 6)) + (mem (((mem 98 0).toNat + 4 * p1.toNat) + 14) x6.toNat)) ∧ w32 ((w32 ((mem (((mem 98 0).toNat + 4 * p1.toNat) + 14) (w32 (x6 - 1)).toNat) * 6)) + (mem (((mem 98 0).toNat + 4 * p1.toNat) + 14) x6.toNat)) < 36 then some (mem ((mem 98 0).toNat + 5) (w32 ((w32 ((mem (((mem 98 0).toNat + 4 * p1.toNat) + 14) (w32 (x6 - 1)).toNat) * 6)) + (mem (((mem 98 0).toNat + 4 * p1.toNat) + 14) x6.toNat))).toNat, mem) else none else none else none else none) else (some ((-1), mem))) else (some ((-1), mem)) else none else none else none
set_option maxHeartbeats 4000000 in
theorem pf_Walk_nextWay {E : EE} (p1 : Int)  (mem : Mm) {r : Int} {mem9 : Mm} (h : fn_Walk_nextWay p1 mem = some (r, mem9)) : MetX E 1 yn_Walk_nextWay cd_Walk_nextWay 4 (some .int) [rf 98, vi p1] mem r mem9 := by
  refine RO_met (y := yn_Walk_nextWay) (by decide +kernel) (Nat.le_of_ble_eq_true rfl) ?_ h
  show RO E mt_Walk_nextWay (fn_Walk_nextWay p1 mem) 0 [(0, rf 98), (1, vi p1)] [] mem
  unfold fn_Walk_nextWay
  refine RO_aload_n dc_Walk_nextWay_0 rfl rfl ?_
  refine RO_chk (fun hz1 => ?_)
  refine RO_getM gf_Walk_27 lk_98 (isK_0 hz1) dc_Walk_nextWay_1 ?_
  refine RO_getR (b := ((mem 98 0).toNat + 6)) gf_Walk_50 (kd_0 hz1) (by omega) dc_Walk_nextWay_4 ?_
  refine RO_iload_n dc_Walk_nextWay_7 rfl rfl ?_
  refine RO_chk (fun hi2 => ?_)
  have hb3 : ((mem 98 0).toNat + 6) + (raO 18).1 + (raO 18).2 * p1.toNat = (((mem 98 0).toNat + 4 * p1.toNat) + 13) := by show _ + 7 + 4 * _ = _; omega
  have hk4 := el_18 (cl_0_10 (kd_0 hz1)) hi2 hb3
  refine RO_aa (by decide) (cl_0_10 (kd_0 hz1)) hi2 hb3 dc_Walk_nextWay_8 ?_
  refine RO_astore_n dc_Walk_nextWay_9 rfl (Nat.le_of_ble_eq_true rfl) ?_
  refine RO_aload_n dc_Walk_nextWay_10 rfl rfl ?_
  refine RO_getR (b := 99) gf_Walk_9 lk_98 rfl dc_Walk_nextWay_11 ?_
  refine RO_iload_n dc_Walk_nextWay_14 rfl rfl ?_
  refine RO_chk (fun hi5 => ?_)
  refine RO_ia lk_99 hi5 dc_Walk_nextWay_15 ?_
  refine RO_bnT (fun x6 => ?_)
  refine RO_istore_n dc_Walk_nextWay_16 rfl (Nat.le_of_ble_eq_true rfl) ?_
  refine RO_iload_n dc_Walk_nextWay_17 rfl rfl ?_
  refine RO_if_le (tgt := 58) dc_Walk_nextWay_18 rfl ?_ ?_
  · refine RO_iload_n dc_Walk_nextWay_21 rfl rfl ?_
    refine RO_aload_n dc_Walk_nextWay_22 rfl rfl ?_
    refine RO_getI gf_Walk_97 hk4 dc_Walk_nextWay_23 ?_
    refine RO_icmp_ge (tgt := 58) dc_Walk_nextWay_26 rfl ?_ ?_
    · refine RO_aload_n dc_Walk_nextWay_29 rfl rfl ?_
      refine RO_chk (fun hz7 => ?_)
      refine RO_getM gf_Walk_27 lk_98 (isK_0 hz7) dc_Walk_nextWay_30 ?_
      refine RO_getR (b := ((mem 98 0).toNat + 5)) gf_Walk_100 (kd_0 hz7) (by omega) dc_Walk_nextWay_33 ?_
      refine RO_aload_n dc_Walk_nextWay_36 rfl rfl ?_
      refine RO_getR (b := (((mem 98 0).toNat + 4 * p1.toNat) + 14)) gf_Walk_86 hk4 (by omega) dc_Walk_nextWay_37 ?_
      refine RO_iload_n dc_Walk_nextWay_40 rfl rfl ?_
      refine RO_iconst dc_Walk_nextWay_41 ?_
      refine RO_isub dc_Walk_nextWay_42 ?_
      refine RO_chk (fun hi8 => ?_)
      refine RO_ia (cl_9_5 hk4) hi8 dc_Walk_nextWay_43 ?_
      refine RO_bipush dc_Walk_nextWay_44 ?_
      refine RO_imul dc_Walk_nextWay_46 ?_
      refine RO_aload_n dc_Walk_nextWay_47 rfl rfl ?_
      refine RO_getR (b := (((mem 98 0).toNat + 4 * p1.toNat) + 14)) gf_Walk_86 hk4 (by omega) dc_Walk_nextWay_48 ?_
      refine RO_iload_n dc_Walk_nextWay_51 rfl rfl ?_
      refine RO_chk (fun hi9 => ?_)
      refine RO_ia (cl_9_5 hk4) hi9 dc_Walk_nextWay_52 ?_
      refine RO_iadd dc_Walk_nextWay_53 ?_
      refine RO_chk (fun hi10 => ?_)
      refine RO_ia (cl_0_9 (kd_0 hz7)) hi10 dc_Walk_nextWay_54 ?_
      refine RO_goto (tgt := 59) dc_Walk_nextWay_55 rfl ?_
      exact RO_iret rfl dc_Walk_nextWay_59
    · refine RO_iconst dc_Walk_nextWay_58 ?_
      exact RO_iret rfl dc_Walk_nextWay_59
  · refine RO_iconst dc_Walk_nextWay_58 ?_
    exact RO_iret rfl dc_Walk_nextWay_59
def bo_Walk_placeOf_45 (p1 : Int) (p2 : Int) (k4 : Int → Mm → Res) (v3 : Int) (mem : Mm) : Res := k4 (w32 (v3 + 1)) mem
set_option maxHeartbeats 4000000 in
theorem rb_Walk_placeOf_45 {E : EE} (p1 : Int) (p2 : Int)  (k4 : Int → Mm → Res) (H4 : ∀ (v3 : Int)  (mem : Mm), RO E mt_Walk_placeOf (k4 v3 mem) 4 [(0, rf 98), (1, vi p1), (2, vi p2), (3, vi v3)] [] mem) (v3 : Int)  (mem : Mm) : RO E mt_Walk_placeOf (bo_Walk_placeOf_45 p1 p2 k4 v3 mem) 45 [(0, rf 98), (1, vi p1), (2, vi p2), (3, vi v3)] [] mem := by
  unfold bo_Walk_placeOf_45
  refine RO_iinc dc_Walk_placeOf_45 rfl (Nat.le_of_ble_eq_true rfl) ?_
  refine RO_goto (tgt := 4) dc_Walk_placeOf_48 rfl ?_
  refine RO_sub ?_ (H4 (w32 (v3 + 1)) mem)
  exact ⟨rfl, rfl, rfl, rfl, trivial⟩
def bo_Walk_placeOf_4 (p1 : Int) (p2 : Int) (k4 : Int → Mm → Res) (v3 : Int) (mem : Mm) : Res := if 0 ≤ p1 ∧ p1 < 6 then if v3 < (w32 ((w32 (p1 * 4)) + (mem 99 p1.toNat))) then (if 0 ≤ v3 ∧ v3 < 24 then if p2 < (mem 101 v3.toNat) then (bo_Walk_placeOf_45 p1 p2 k4 v3 mem) else (if 0 ≤ v3 ∧ v3 < 24 then if (mem 102 v3.toNat) < p2 then (bo_Walk_placeOf_45 p1 p2 k4 v3 mem) else (if 0 ≤ v3 ∧ v3 < 24 then some (mem 100 v3.toNat, mem) else none) else none) else none) else (some ((-1), mem)) else none
set_option maxHeartbeats 4000000 in
theorem rb_Walk_placeOf_4 {E : EE} (p1 : Int) (p2 : Int)  (k4 : Int → Mm → Res) (H4 : ∀ (v3 : Int)  (mem : Mm), RO E mt_Walk_placeOf (k4 v3 mem) 4 [(0, rf 98), (1, vi p1), (2, vi p2), (3, vi v3)] [] mem) (v3 : Int)  (mem : Mm) : RO E mt_Walk_placeOf (bo_Walk_placeOf_4 p1 p2 k4 v3 mem) 4 [(0, rf 98), (1, vi p1), (2, vi p2), (3, vi v3)] [] mem := by
  unfold bo_Walk_placeOf_4
  refine RO_iload_n dc_Walk_placeOf_4 rfl rfl ?_
  refine RO_iload_n dc_Walk_placeOf_5 rfl rfl ?_
  refine RO_iconst dc_Walk_placeOf_6 ?_
  refine RO_imul dc_Walk_placeOf_7 ?_
  refine RO_aload_n dc_Walk_placeOf_8 rfl rfl ?_
  refine RO_getR (b := 99) gf_Walk_9 lk_98 rfl dc_Walk_placeOf_9 ?_
  refine RO_iload_n dc_Walk_placeOf_12 rfl rfl ?_
  refine RO_chk (fun hi1 => ?_)
  refine RO_ia lk_99 hi1 dc_Walk_placeOf_13 ?_
  refine RO_iadd dc_Walk_placeOf_14 ?_
  refine RO_icmp_ge (tgt := 51) dc_Walk_placeOf_15 rfl ?_ ?_
  · refine RO_aload_n dc_Walk_placeOf_18 rfl rfl ?_
    refine RO_getR (b := 101) gf_Walk_18 lk_98 rfl dc_Walk_placeOf_19 ?_
    refine RO_iload_n dc_Walk_placeOf_22 rfl rfl ?_
    refine RO_chk (fun hi2 => ?_)
    refine RO_ia lk_101 hi2 dc_Walk_placeOf_23 ?_
    refine RO_iload_n dc_Walk_placeOf_24 rfl rfl ?_
    refine RO_icmp_gt (tgt := 45) dc_Walk_placeOf_25 rfl ?_ ?_
    · refine RO_sub ?_ (rb_Walk_placeOf_45 p1 p2 k4 H4 v3 mem)
      exact ⟨rfl, rfl, rfl, rfl, trivial⟩
    · refine RO_iload_n dc_Walk_placeOf_28 rfl rfl ?_
      refine RO_aload_n dc_Walk_placeOf_29 rfl rfl ?_
      refine RO_getR (b := 102) gf_Walk_21 lk_98 rfl dc_Walk_placeOf_30 ?_
      refine RO_iload_n dc_Walk_placeOf_33 rfl rfl ?_
      refine RO_chk (fun hi3 => ?_)
      refine RO_ia lk_102 hi3 dc_Walk_placeOf_34 ?_
      refine RO_icmp_gt (tgt := 45) dc_Walk_placeOf_35 rfl ?_ ?_
      · refine RO_sub ?_ (rb_Walk_placeOf_45 p1 p2 k4 H4 v3 mem)
        exact ⟨rfl, rfl, rfl, rfl, trivial⟩
      · refine RO_aload_n dc_Walk_placeOf_38 rfl rfl ?_
        refine RO_getR (b := 100) gf_Walk_15 lk_98 rfl dc_Walk_placeOf_39 ?_
        refine RO_iload_n dc_Walk_placeOf_42 rfl rfl ?_
        refine RO_chk (fun hi4 => ?_)
        refine RO_ia lk_100 hi4 dc_Walk_placeOf_43 ?_
        exact RO_iret rfl dc_Walk_placeOf_44
  · refine RO_iconst dc_Walk_placeOf_51 ?_
    exact RO_iret rfl dc_Walk_placeOf_52
def lp_Walk_placeOf_4 (p1 : Int) (p2 : Int)  : Nat → Int → Mm → Res
  | 0 => fun _ _ => none
  | n + 1 => bo_Walk_placeOf_4 p1 p2  (lp_Walk_placeOf_4 p1 p2  n)
theorem rp_Walk_placeOf_4 {E : EE} (p1 : Int) (p2 : Int)    : ∀ (n : Nat) (v3 : Int)  (mem : Mm), RO E mt_Walk_placeOf (lp_Walk_placeOf_4 p1 p2  n v3 mem) 4 [(0, rf 98), (1, vi p1), (2, vi p2), (3, vi v3)] [] mem := by
  intro n
  induction n with
  | zero => intro v3  mem; exact RO_none
  | succ n ih => intro v3  mem; exact rb_Walk_placeOf_4 p1 p2   (lp_Walk_placeOf_4 p1 p2  n)  ih v3  mem
def fn_Walk_placeOf (p1 : Int) (p2 : Int) (mem : Mm) : Res := bn (w32 (p1 * 4)) fun x1 => lp_Walk_placeOf_4 p1 p2 FU x1 mem
set_option maxHeartbeats 4000000 in
theorem pf_Walk_placeOf {E : EE} (p1 : Int) (p2 : Int)  (mem : Mm) {r : Int} {mem9 : Mm} (h : fn_Walk_placeOf p1 p2 mem = some (r, mem9)) : MetX E 1 yn_Walk_placeOf cd_Walk_placeOf 4 (some .int) [rf 98, vi p1, vi p2] mem r mem9 := by
  refine RO_met (y := yn_Walk_placeOf) (by decide +kernel) (Nat.le_of_ble_eq_true rfl) ?_ h
  show RO E mt_Walk_placeOf (fn_Walk_placeOf p1 p2 mem) 0 [(0, rf 98), (1, vi p1), (2, vi p2)] [] mem
  unfold fn_Walk_placeOf
  refine RO_iload_n dc_Walk_placeOf_0 rfl rfl ?_
  refine RO_iconst dc_Walk_placeOf_1 ?_
  refine RO_imul dc_Walk_placeOf_2 ?_
  refine RO_bnT (fun x1 => ?_)
  refine RO_istore_n dc_Walk_placeOf_3 rfl (Nat.le_of_ble_eq_true rfl) ?_
  refine RO_sub ?_ (rp_Walk_placeOf_4 p1 p2 FU x1 mem)
  exact ⟨rfl, rfl, rfl, rfl, trivial⟩
def bo_Walk_firstAt_4 (p1 : Int) (p2 : Int) (k4 : Int → Mm → Res) (v3 : Int) (mem : Mm) : Res := if 0 ≤ p1 ∧ p1 < 6 then if v3 < (w32 ((w32 (p1 * 4)) + (mem 99 p1.toNat))) then (if 0 ≤ v3 ∧ v3 < 24 then if (mem 100 v3.toNat) = p2 then (if 0 ≤ v3 ∧ v3 < 24 then some (mem 101 v3.toNat, mem) else none) else (k4 (w32 (v3 + 1)) mem) else none) else (some ((-1), mem)) else none
set_option maxHeartbeats 4000000 in
theorem rb_Walk_firstAt_4 {E : EE} (p1 : Int) (p2 : Int)  (k4 : Int → Mm → Res) (H4 : ∀ (v3 : Int)  (mem : Mm), RO E mt_Walk_firstAt (k4 v3 mem) 4 [(0, rf 98), (1, vi p1), (2, vi p2), (3, vi v3)] [] mem) (v3 : Int)  (mem : Mm) : RO E mt_Walk_firstAt (bo_Walk_firstAt_4 p1 p2 k4 v3 mem) 4 [(0, rf 98), (1, vi p1), (2, vi p2), (3, vi v3)] [] mem := by
  unfold bo_Walk_firstAt_4
  refine RO_iload_n dc_Walk_firstAt_4 rfl rfl ?_
  refine RO_iload_n dc_Walk_firstAt_5 rfl rfl ?_
  refine RO_iconst dc_Walk_firstAt_6 ?_
  refine RO_imul dc_Walk_firstAt_7 ?_
  refine RO_aload_n dc_Walk_firstAt_8 rfl rfl ?_
  refine RO_getR (b := 99) gf_Walk_9 lk_98 rfl dc_Walk_firstAt_9 ?_
  refine RO_iload_n dc_Walk_firstAt_12 rfl rfl ?_
  refine RO_chk (fun hi1 => ?_)
  refine RO_ia lk_99 hi1 dc_Walk_firstAt_13 ?_
  refine RO_iadd dc_Walk_firstAt_14 ?_
  refine RO_icmp_ge (tgt := 41) dc_Walk_firstAt_15 rfl ?_ ?_
  · refine RO_aload_n dc_Walk_firstAt_18 rfl rfl ?_
    refine RO_getR (b := 100) gf_Walk_15 lk_98 rfl dc_Walk_firstAt_19 ?_
    refine RO_iload_n dc_Walk_firstAt_22 rfl rfl ?_
    refine RO_chk (fun hi2 => ?_)
    refine RO_ia lk_100 hi2 dc_Walk_firstAt_23 ?_
    refine RO_iload_n dc_Walk_firstAt_24 rfl rfl ?_
    refine RO_icmp_ne (tgt := 35) dc_Walk_firstAt_25 rfl ?_ ?_
    · refine RO_aload_n dc_Walk_firstAt_28 rfl rfl ?_
      refine RO_getR (b := 101) gf_Walk_18 lk_98 rfl dc_Walk_firstAt_29 ?_
      refine RO_iload_n dc_Walk_firstAt_32 rfl rfl ?_
      refine RO_chk (fun hi3 => ?_)
      refine RO_ia lk_101 hi3 dc_Walk_firstAt_33 ?_
      exact RO_iret rfl dc_Walk_firstAt_34
    · refine RO_iinc dc_Walk_firstAt_35 rfl (Nat.le_of_ble_eq_true rfl) ?_
      refine RO_goto (tgt := 4) dc_Walk_firstAt_38 rfl ?_
      refine RO_sub ?_ (H4 (w32 (v3 + 1)) mem)
      exact ⟨rfl, rfl, rfl, rfl, trivial⟩
  · refine RO_iconst dc_Walk_firstAt_41 ?_
    exact RO_iret rfl dc_Walk_firstAt_42
def lp_Walk_firstAt_4 (p1 : Int) (p2 : Int)  : Nat → Int → Mm → Res
  | 0 => fun _ _ => none
  | n + 1 => bo_Walk_firstAt_4 p1 p2  (lp_Walk_firstAt_4 p1 p2  n)
theorem rp_Walk_firstAt_4 {E : EE} (p1 : Int) (p2 : Int)    : ∀ (n : Nat) (v3 : Int)  (mem : Mm), RO E mt_Walk_firstAt (lp_Walk_firstAt_4 p1 p2  n v3 mem) 4 [(0, rf 98), (1, vi p1), (2, vi p2), (3, vi v3)] [] mem := by
  intro n
  induction n with
  | zero => intro v3  mem; exact RO_none
  | succ n ih => intro v3  mem; exact rb_Walk_firstAt_4 p1 p2   (lp_Walk_firstAt_4 p1 p2  n)  ih v3  mem
def fn_Walk_firstAt (p1 : Int) (p2 : Int) (mem : Mm) : Res := bn (w32 (p1 * 4)) fun x1 => lp_Walk_firstAt_4 p1 p2 FU x1 mem
set_option maxHeartbeats 4000000 in
theorem pf_Walk_firstAt {E : EE} (p1 : Int) (p2 : Int)  (mem : Mm) {r : Int} {mem9 : Mm} (h : fn_Walk_firstAt p1 p2 mem = some (r, mem9)) : MetX E 1 yn_Walk_firstAt cd_Walk_firstAt 4 (some .int) [rf 98, vi p1, vi p2] mem r mem9 := by
  refine RO_met (y := yn_Walk_firstAt) (by decide +kernel) (Nat.le_of_ble_eq_true rfl) ?_ h
  show RO E mt_Walk_firstAt (fn_Walk_firstAt p1 p2 mem) 0 [(0, rf 98), (1, vi p1), (2, vi p2)] [] mem
  unfold fn_Walk_firstAt
  refine RO_iload_n dc_Walk_firstAt_0 rfl rfl ?_
  refine RO_iconst dc_Walk_firstAt_1 ?_
  refine RO_imul dc_Walk_firstAt_2 ?_
  refine RO_bnT (fun x1 => ?_)
  refine RO_istore_n dc_Walk_firstAt_3 rfl (Nat.le_of_ble_eq_true rfl) ?_
  refine RO_sub ?_ (rp_Walk_firstAt_4 p1 p2 FU x1 mem)
  exact ⟨rfl, rfl, rfl, rfl, trivial⟩
def bo_Walk_firstMeetingAt_141 (p1 : Int) (p2 : Int) (p3 : Int) (k8 : Int → Int → Mm → Res) (v4 : Int) (v5 : Int) (mem : Mm) : Res := k8 v4 (w32 (v5 + 1)) mem
set_option maxHeartbeats 4000000 in
theorem rb_Walk_firstMeetingAt_141 {E : EE} (p1 : Int) (p2 : Int) (p3 : Int)  (k8 : Int → Int → Mm → Res) (H8 : ∀ (v4 : Int) (v5 : Int)  (mem : Mm), RO E mt_Walk_firstMeetingAt (k8 v4 v5 mem) 8 [(0, rf 98), (1, vi p1), (2, vi p2), (3, vi p3), (4, vi v4), (5, vi v5)] [] mem) (v4 : Int) (v5 : Int)  (mem : Mm) : RO E mt_Walk_firstMeetingAt (bo_Walk_firstMeetingAt_141 p1 p2 p3 k8 v4 v5 mem) 141 [(0, rf 98), (1, vi p1), (2, vi p2), (3, vi p3), (4, vi v4), (5, vi v5)] [] mem := by
  unfold bo_Walk_firstMeetingAt_141
  refine RO_iinc dc_Walk_firstMeetingAt_141 rfl (Nat.le_of_ble_eq_true rfl) ?_
  refine RO_goto (tgt := 8) dc_Walk_firstMeetingAt_144 rfl ?_
  refine RO_sub ?_ (H8 v4 (w32 (v5 + 1)) mem)
  exact ⟨rfl, rfl, rfl, rfl, rfl, rfl, trivial⟩
def bo_Walk_firstMeetingAt_135 (p1 : Int) (p2 : Int) (p3 : Int) (k8 : Int → Int → Mm → Res) (k28 : Int → Int → Int → Mm → Res) (v4 : Int) (v5 : Int) (v6 : Int) (mem : Mm) : Res := k28 v4 v5 (w32 (v6 + 1)) mem
set_option maxHeartbeats 4000000 in
theorem rb_Walk_firstMeetingAt_135 {E : EE} (p1 : Int) (p2 : Int) (p3 : Int)  (k8 : Int → Int → Mm → Res) (k28 : Int → Int → Int → Mm → Res) (H8 : ∀ (v4 : Int) (v5 : Int)  (mem : Mm), RO E mt_Walk_firstMeetingAt (k8 v4 v5 mem) 8 [(0, rf 98), (1, vi p1), (2, vi p2), (3, vi p3), (4, vi v4), (5, vi v5)] [] mem) (H28 : ∀ (v4 : Int) (v5 : Int) (v6 : Int)  (mem : Mm), RO E mt_Walk_firstMeetingAt (k28 v4 v5 v6 mem) 28 [(0, rf 98), (1, vi p1), (2, vi p2), (3, vi p3), (4, vi v4), (5, vi v5), (6, vi v6)] [] mem) (v4 : Int) (v5 : Int) (v6 : Int)  (mem : Mm) : RO E mt_Walk_firstMeetingAt (bo_Walk_firstMeetingAt_135 p1 p2 p3 k8 k28 v4 v5 v6 mem) 135 [(0, rf 98), (1, vi p1), (2, vi p2), (3, vi p3), (4, vi v4), (5, vi v5), (6, vi v6)] [] mem := by
  unfold bo_Walk_firstMeetingAt_135
  refine RO_iinc dc_Walk_firstMeetingAt_135 rfl (Nat.le_of_ble_eq_true rfl) ?_
  refine RO_goto (tgt := 28) dc_Walk_firstMeetingAt_138 rfl ?_
  refine RO_sub ?_ (H28 v4 v5 (w32 (v6 + 1)) mem)
  exact ⟨rfl, rfl, rfl, rfl, rfl, rfl, rfl, trivial⟩
def bo_Walk_firstMeetingAt_131 (p1 : Int) (p2 : Int) (p3 : Int) (k8 : Int → Int → Mm → Res) (k28 : Int → Int → Int → Mm → Res) (v5 : Int) (v6 : Int) (v7 : Int) (mem : Mm) : Res := bo_Walk_firstMeetingAt_135 p1 p2 p3 k8 k28 v7 v5 v6 mem
set_option maxHeartbeats 4000000 in
theorem rb_Walk_firstMeetingAt_131 {E : EE} (p1 : Int) (p2 : Int) (p3 : Int)  (k8 : Int → Int → Mm → Res) (k28 : Int → Int → Int → Mm → Res) (H8 : ∀ (v4 : Int) (v5 : Int)  (mem : Mm), RO E mt_Walk_firstMeetingAt (k8 v4 v5 mem) 8 [(0, rf 98), (1, vi p1), (2, vi p2), (3, vi p3), (4, vi v4), (5, vi v5)] [] mem) (H28 : ∀ (v4 : Int) (v5 : Int) (v6 : Int)  (mem : Mm), RO E mt_Walk_firstMeetingAt (k28 v4 v5 v6 mem) 28 [(0, rf 98), (1, vi p1), (2, vi p2), (3, vi p3), (4, vi v4), (5, vi v5), (6, vi v6)] [] mem) (v5 : Int) (v6 : Int) (v7 : Int)  (mem : Mm) : RO E mt_Walk_firstMeetingAt (bo_Walk_firstMeetingAt_131 p1 p2 p3 k8 k28 v5 v6 v7 mem) 131 [(0, rf 98), (1, vi p1), (2, vi p2), (3, vi p3), (5, vi v5), (6, vi v6), (7, vi v7)] [] mem := by
  unfold bo_Walk_firstMeetingAt_131
  refine RO_iload dc_Walk_firstMeetingAt_131 rfl ?_
  refine RO_istore dc_Walk_firstMeetingAt_133 (Nat.le_of_ble_eq_true rfl) ?_
  refine RO_sub ?_ (rb_Walk_firstMeetingAt_135 p1 p2 p3 k8 k28 H8 H28 v7 v5 v6 mem)
  exact ⟨rfl, rfl, rfl, rfl, rfl, rfl, rfl, trivial⟩
def bo_Walk_firstMeetingAt_111 (p1 : Int) (p2 : Int) (p3 : Int) (k8 : Int → Int → Mm → Res) (k28 : Int → Int → Int → Mm → Res) (v4 : Int) (v5 : Int) (v6 : Int) (v7 : Int) (s0 : Int) (mem : Mm) : Res := if s0 = 0 then (bo_Walk_firstMeetingAt_135 p1 p2 p3 k8 k28 v4 v5 v6 mem) else (if v4 = (-1) then (bo_Walk_firstMeetingAt_131 p1 p2 p3 k8 k28 v5 v6 v7 mem) else (if v7 < v4 then (bo_Walk_firstMeetingAt_131 p1 p2 p3 k8 k28 v5 v6 v7 mem) else (bo_Walk_firstMeetingAt_135 p1 p2 p3 k8 k28 v4 v5 v6 mem)))
set_option maxHeartbeats 4000000 in
theorem rb_Walk_firstMeetingAt_111 {E : EE} (p1 : Int) (p2 : Int) (p3 : Int)  (k8 : Int → Int → Mm → Res) (k28 : Int → Int → Int → Mm → Res) (H8 : ∀ (v4 : Int) (v5 : Int)  (mem : Mm), RO E mt_Walk_firstMeetingAt (k8 v4 v5 mem) 8 [(0, rf 98), (1, vi p1), (2, vi p2), (3, vi p3), (4, vi v4), (5, vi v5)] [] mem) (H28 : ∀ (v4 : Int) (v5 : Int) (v6 : Int)  (mem : Mm), RO E mt_Walk_firstMeetingAt (k28 v4 v5 v6 mem) 28 [(0, rf 98), (1, vi p1), (2, vi p2), (3, vi p3), (4, vi v4), (5, vi v5), (6, vi v6)] [] mem) (v4 : Int) (v5 : Int) (v6 : Int) (v7 : Int) (s0 : Int)  (mem : Mm) : RO E mt_Walk_firstMeetingAt (bo_Walk_firstMeetingAt_111 p1 p2 p3 k8 k28 v4 v5 v6 v7 s0 mem) 111 [(0, rf 98), (1, vi p1), (2, vi p2), (3, vi p3), (4, vi v4), (5, vi v5), (6, vi v6), (7, vi v7)] [vi s0] mem := by
  unfold bo_Walk_firstMeetingAt_111
  refine RO_istore dc_Walk_firstMeetingAt_111 (Nat.le_of_ble_eq_true rfl) ?_
  refine RO_iload dc_Walk_firstMeetingAt_113 rfl ?_
  refine RO_if_eq (tgt := 135) dc_Walk_firstMeetingAt_115 rfl ?_ ?_
  · refine RO_sub ?_ (rb_Walk_firstMeetingAt_135 p1 p2 p3 k8 k28 H8 H28 v4 v5 v6 mem)
    exact ⟨rfl, rfl, rfl, rfl, rfl, rfl, rfl, trivial⟩
  · refine RO_iload dc_Walk_firstMeetingAt_118 rfl ?_
    refine RO_iconst dc_Walk_firstMeetingAt_120 ?_
    refine RO_icmp_eq (tgt := 131) dc_Walk_firstMeetingAt_121 rfl ?_ ?_
    · refine RO_sub ?_ (rb_Walk_firstMeetingAt_131 p1 p2 p3 k8 k28 H8 H28 v5 v6 v7 mem)
      exact ⟨rfl, rfl, rfl, rfl, rfl, rfl, rfl, trivial⟩
    · refine RO_iload dc_Walk_firstMeetingAt_124 rfl ?_
      refine RO_iload dc_Walk_firstMeetingAt_126 rfl ?_
      refine RO_icmp_ge (tgt := 135) dc_Walk_firstMeetingAt_128 rfl ?_ ?_
      · refine RO_sub ?_ (rb_Walk_firstMeetingAt_131 p1 p2 p3 k8 k28 H8 H28 v5 v6 v7 mem)
        exact ⟨rfl, rfl, rfl, rfl, rfl, rfl, rfl, trivial⟩
      · refine RO_sub ?_ (rb_Walk_firstMeetingAt_135 p1 p2 p3 k8 k28 H8 H28 v4 v5 v6 mem)
        exact ⟨rfl, rfl, rfl, rfl, rfl, rfl, rfl, trivial⟩
def bo_Walk_firstMeetingAt_110 (p1 : Int) (p2 : Int) (p3 : Int) (k8 : Int → Int → Mm → Res) (k28 : Int → Int → Int → Mm → Res) (v4 : Int) (v5 : Int) (v6 : Int) (v7 : Int) (mem : Mm) : Res := bo_Walk_firstMeetingAt_111 p1 p2 p3 k8 k28 v4 v5 v6 v7 0 mem
set_option maxHeartbeats 4000000 in
theorem rb_Walk_firstMeetingAt_110 {E : EE} (p1 : Int) (p2 : Int) (p3 : Int)  (k8 : Int → Int → Mm → Res) (k28 : Int → Int → Int → Mm → Res) (H8 : ∀ (v4 : Int) (v5 : Int)  (mem : Mm), RO E mt_Walk_firstMeetingAt (k8 v4 v5 mem) 8 [(0, rf 98), (1, vi p1), (2, vi p2), (3, vi p3), (4, vi v4), (5, vi v5)] [] mem) (H28 : ∀ (v4 : Int) (v5 : Int) (v6 : Int)  (mem : Mm), RO E mt_Walk_firstMeetingAt (k28 v4 v5 v6 mem) 28 [(0, rf 98), (1, vi p1), (2, vi p2), (3, vi p3), (4, vi v4), (5, vi v5), (6, vi v6)] [] mem) (v4 : Int) (v5 : Int) (v6 : Int) (v7 : Int)  (mem : Mm) : RO E mt_Walk_firstMeetingAt (bo_Walk_firstMeetingAt_110 p1 p2 p3 k8 k28 v4 v5 v6 v7 mem) 110 [(0, rf 98), (1, vi p1), (2, vi p2), (3, vi p3), (4, vi v4), (5, vi v5), (6, vi v6), (7, vi v7)] [] mem := by
  unfold bo_Walk_firstMeetingAt_110
  refine RO_iconst dc_Walk_firstMeetingAt_110 ?_
  refine RO_sub ?_ (rb_Walk_firstMeetingAt_111 p1 p2 p3 k8 k28 H8 H28 v4 v5 v6 v7 0 mem)
  exact ⟨rfl, rfl, rfl, rfl, rfl, rfl, rfl, rfl, trivial⟩
def bo_Walk_firstMeetingAt_28 (p1 : Int) (p2 : Int) (p3 : Int) (k8 : Int → Int → Mm → Res) (k28 : Int → Int → Int → Mm → Res) (v4 : Int) (v5 : Int) (v6 : Int) (mem : Mm) : Res := if 0 ≤ p2 ∧ p2 < 6 then if v6 < (w32 ((w32 (p2 * 4)) + (mem 99 p2.toNat))) then (if 0 ≤ v5 ∧ v5 < 24 then if 0 ≤ v6 ∧ v6 < 24 then bn (imx (mem 101 v5.toNat) (mem 101 v6.toNat)) fun x4 => if 0 ≤ v5 ∧ v5 < 24 then if (mem 100 v5.toNat) = p3 then (if 0 ≤ v6 ∧ v6 < 24 then if (mem 100 v6.toNat) = p3 then (if 0 ≤ v5 ∧ v5 < 24 then if 0 ≤ v6 ∧ v6 < 24 then if (imn (mem 102 v5.toNat) (mem 102 v6.toNat)) < x4 then (bo_Walk_firstMeetingAt_110 p1 p2 p3 k8 k28 v4 v5 v6 x4 mem) else (bo_Walk_firstMeetingAt_111 p1 p2 p3 k8 k28 v4 v5 v6 x4 1 mem) else none else none) else (bo_Walk_firstMeetingAt_110 p1 p2 p3 k8 k28 v4 v5 v6 x4 mem) else none) else (bo_Walk_firstMeetingAt_110 p1 p2 p3 k8 k28 v4 v5 v6 x4 mem) else none else none else none) else (bo_Walk_firstMeetingAt_141 p1 p2 p3 k8 v4 v5 mem) else none
set_option maxHeartbeats 4000000 in
theorem rb_Walk_firstMeetingAt_28 {E : EE} (p1 : Int) (p2 : Int) (p3 : Int)  (k8 : Int → Int → Mm → Res) (k28 : Int → Int → Int → Mm → Res) (H8 : ∀ (v4 : Int) (v5 : Int)  (mem : Mm), RO E mt_Walk_firstMeetingAt (k8 v4 v5 mem) 8 [(0, rf 98), (1, vi p1), (2, vi p2), (3, vi p3), (4, vi v4), (5, vi v5)] [] mem) (H28 : ∀ (v4 : Int) (v5 : Int) (v6 : Int)  (mem : Mm), RO E mt_Walk_firstMeetingAt (k28 v4 v5 v6 mem) 28 [(0, rf 98), (1, vi p1), (2, vi p2), (3, vi p3), (4, vi v4), (5, vi v5), (6, vi v6)] [] mem) (v4 : Int) (v5 : Int) (v6 : Int)  (mem : Mm) : RO E mt_Walk_firstMeetingAt (bo_Walk_firstMeetingAt_28 p1 p2 p3 k8 k28 v4 v5 v6 mem) 28 [(0, rf 98), (1, vi p1), (2, vi p2), (3, vi p3), (4, vi v4), (5, vi v5), (6, vi v6)] [] mem := by
  unfold bo_Walk_firstMeetingAt_28
  refine RO_iload dc_Walk_firstMeetingAt_28 rfl ?_
  refine RO_iload_n dc_Walk_firstMeetingAt_30 rfl rfl ?_
  refine RO_iconst dc_Walk_firstMeetingAt_31 ?_
  refine RO_imul dc_Walk_firstMeetingAt_32 ?_
  refine RO_aload_n dc_Walk_firstMeetingAt_33 rfl rfl ?_
  refine RO_getR (b := 99) gf_Walk_9 lk_98 rfl dc_Walk_firstMeetingAt_34 ?_
  refine RO_iload_n dc_Walk_firstMeetingAt_37 rfl rfl ?_
  refine RO_chk (fun hi1 => ?_)
  refine RO_ia lk_99 hi1 dc_Walk_firstMeetingAt_38 ?_
  refine RO_iadd dc_Walk_firstMeetingAt_39 ?_
  refine RO_icmp_ge (tgt := 141) dc_Walk_firstMeetingAt_40 rfl ?_ ?_
  · refine RO_aload_n dc_Walk_firstMeetingAt_43 rfl rfl ?_
    refine RO_getR (b := 101) gf_Walk_18 lk_98 rfl dc_Walk_firstMeetingAt_44 ?_
    refine RO_iload dc_Walk_firstMeetingAt_47 rfl ?_
    refine RO_chk (fun hi2 => ?_)
    refine RO_ia lk_101 hi2 dc_Walk_firstMeetingAt_49 ?_
    refine RO_aload_n dc_Walk_firstMeetingAt_50 rfl rfl ?_
    refine RO_getR (b := 101) gf_Walk_18 lk_98 rfl dc_Walk_firstMeetingAt_51 ?_
    refine RO_iload dc_Walk_firstMeetingAt_54 rfl ?_
    refine RO_chk (fun hi3 => ?_)
    refine RO_ia lk_101 hi3 dc_Walk_firstMeetingAt_56 ?_
    refine RO_max mw_max ml_Walk_112 (Nat.le_of_ble_eq_true rfl) (Nat.le_of_ble_eq_true rfl) dc_Walk_firstMeetingAt_57 ?_
    refine RO_bnT (fun x4 => ?_)
    refine RO_istore dc_Walk_firstMeetingAt_60 (Nat.le_of_ble_eq_true rfl) ?_
    refine RO_aload_n dc_Walk_firstMeetingAt_62 rfl rfl ?_
    refine RO_getR (b := 100) gf_Walk_15 lk_98 rfl dc_Walk_firstMeetingAt_63 ?_
    refine RO_iload dc_Walk_firstMeetingAt_66 rfl ?_
    refine RO_chk (fun hi5 => ?_)
    refine RO_ia lk_100 hi5 dc_Walk_firstMeetingAt_68 ?_
    refine RO_iload_n dc_Walk_firstMeetingAt_69 rfl rfl ?_
    refine RO_icmp_ne (tgt := 110) dc_Walk_firstMeetingAt_70 rfl ?_ ?_
    · refine RO_aload_n dc_Walk_firstMeetingAt_73 rfl rfl ?_
      refine RO_getR (b := 100) gf_Walk_15 lk_98 rfl dc_Walk_firstMeetingAt_74 ?_
      refine RO_iload dc_Walk_firstMeetingAt_77 rfl ?_
      refine RO_chk (fun hi6 => ?_)
      refine RO_ia lk_100 hi6 dc_Walk_firstMeetingAt_79 ?_
      refine RO_iload_n dc_Walk_firstMeetingAt_80 rfl rfl ?_
      refine RO_icmp_ne (tgt := 110) dc_Walk_firstMeetingAt_81 rfl ?_ ?_
      · refine RO_iload dc_Walk_firstMeetingAt_84 rfl ?_
        refine RO_aload_n dc_Walk_firstMeetingAt_86 rfl rfl ?_
        refine RO_getR (b := 102) gf_Walk_21 lk_98 rfl dc_Walk_firstMeetingAt_87 ?_
        refine RO_iload dc_Walk_firstMeetingAt_90 rfl ?_
        refine RO_chk (fun hi7 => ?_)
        refine RO_ia lk_102 hi7 dc_Walk_firstMeetingAt_92 ?_
        refine RO_aload_n dc_Walk_firstMeetingAt_93 rfl rfl ?_
        refine RO_getR (b := 102) gf_Walk_21 lk_98 rfl dc_Walk_firstMeetingAt_94 ?_
        refine RO_iload dc_Walk_firstMeetingAt_97 rfl ?_
        refine RO_chk (fun hi8 => ?_)
        refine RO_ia lk_102 hi8 dc_Walk_firstMeetingAt_99 ?_
        refine RO_min mw_min ml_Walk_77 (Nat.le_of_ble_eq_true rfl) (Nat.le_of_ble_eq_true rfl) dc_Walk_firstMeetingAt_100 ?_
        refine RO_icmp_gt (tgt := 110) dc_Walk_firstMeetingAt_103 rfl ?_ ?_
        · refine RO_sub ?_ (rb_Walk_firstMeetingAt_110 p1 p2 p3 k8 k28 H8 H28 v4 v5 v6 x4 mem)
          exact ⟨rfl, rfl, rfl, rfl, rfl, rfl, rfl, rfl, trivial⟩
        · refine RO_iconst dc_Walk_firstMeetingAt_106 ?_
          refine RO_goto (tgt := 111) dc_Walk_firstMeetingAt_107 rfl ?_
          refine RO_sub ?_ (rb_Walk_firstMeetingAt_111 p1 p2 p3 k8 k28 H8 H28 v4 v5 v6 x4 1 mem)
          exact ⟨rfl, rfl, rfl, rfl, rfl, rfl, rfl, rfl, trivial⟩
      · refine RO_sub ?_ (rb_Walk_firstMeetingAt_110 p1 p2 p3 k8 k28 H8 H28 v4 v5 v6 x4 mem)
        exact ⟨rfl, rfl, rfl, rfl, rfl, rfl, rfl, rfl, trivial⟩
    · refine RO_sub ?_ (rb_Walk_firstMeetingAt_110 p1 p2 p3 k8 k28 H8 H28 v4 v5 v6 x4 mem)
      exact ⟨rfl, rfl, rfl, rfl, rfl, rfl, rfl, rfl, trivial⟩
  · refine RO_sub ?_ (rb_Walk_firstMeetingAt_141 p1 p2 p3 k8 H8 v4 v5 mem)
    exact ⟨rfl, rfl, rfl, rfl, rfl, rfl, trivial⟩
def lp_Walk_firstMeetingAt_28 (p1 : Int) (p2 : Int) (p3 : Int) (k8 : Int → Int → Mm → Res) : Nat → Int → Int → Int → Mm → Res
  | 0 => fun _ _ _ _ => none
  | n + 1 => bo_Walk_firstMeetingAt_28 p1 p2 p3 k8 (lp_Walk_firstMeetingAt_28 p1 p2 p3 k8 n)
theorem rp_Walk_firstMeetingAt_28 {E : EE} (p1 : Int) (p2 : Int) (p3 : Int)  (k8 : Int → Int → Mm → Res) (H8 : ∀ (v4 : Int) (v5 : Int)  (mem : Mm), RO E mt_Walk_firstMeetingAt (k8 v4 v5 mem) 8 [(0, rf 98), (1, vi p1), (2, vi p2), (3, vi p3), (4, vi v4), (5, vi v5)] [] mem) : ∀ (n : Nat) (v4 : Int) (v5 : Int) (v6 : Int)  (mem : Mm), RO E mt_Walk_firstMeetingAt (lp_Walk_firstMeetingAt_28 p1 p2 p3 k8 n v4 v5 v6 mem) 28 [(0, rf 98), (1, vi p1), (2, vi p2), (3, vi p3), (4, vi v4), (5, vi v5), (6, vi v6)] [] mem := by
  intro n
  induction n with
  | zero => intro v4 v5 v6  mem; exact RO_none
  | succ n ih => intro v4 v5 v6  mem; exact rb_Walk_firstMeetingAt_28 p1 p2 p3  k8 (lp_Walk_firstMeetingAt_28 p1 p2 p3 k8 n) H8 ih v4 v5 v6  mem
def bo_Walk_firstMeetingAt_8 (p1 : Int) (p2 : Int) (p3 : Int) (k8 : Int → Int → Mm → Res) (v4 : Int) (v5 : Int) (mem : Mm) : Res := if 0 ≤ p1 ∧ p1 < 6 then if v5 < (w32 ((w32 (p1 * 4)) + (mem 99 p1.toNat))) then (bn (w32 (p2 * 4)) fun x2 => lp_Walk_firstMeetingAt_28 p1 p2 p3 k8 FU v4 v5 x2 mem) else (some (v4, mem)) else none
set_option maxHeartbeats 4000000 in
theorem rb_Walk_firstMeetingAt_8 {E : EE} (p1 : Int) (p2 : Int) (p3 : Int)  (k8 : Int → Int → Mm → Res) (H8 : ∀ (v4 : Int) (v5 : Int)  (mem : Mm), RO E mt_Walk_firstMeetingAt (k8 v4 v5 mem) 8 [(0, rf 98), (1, vi p1), (2, vi p2), (3, vi p3), (4, vi v4), (5, vi v5)] [] mem) (v4 : Int) (v5 : Int)  (mem : Mm) : RO E mt_Walk_firstMeetingAt (bo_Walk_firstMeetingAt_8 p1 p2 p3 k8 v4 v5 mem) 8 [(0, rf 98), (1, vi p1), (2, vi p2), (3, vi p3), (4, vi v4), (5, vi v5)] [] mem := by
  unfold bo_Walk_firstMeetingAt_8
  refine RO_iload dc_Walk_firstMeetingAt_8 rfl ?_
  refine RO_iload_n dc_Walk_firstMeetingAt_10 rfl rfl ?_
  refine RO_iconst dc_Walk_firstMeetingAt_11 ?_
  refine RO_imul dc_Walk_firstMeetingAt_12 ?_
  refine RO_aload_n dc_Walk_firstMeetingAt_13 rfl rfl ?_
  refine RO_getR (b := 99) gf_Walk_9 lk_98 rfl dc_Walk_firstMeetingAt_14 ?_
  refine RO_iload_n dc_Walk_firstMeetingAt_17 rfl rfl ?_
  refine RO_chk (fun hi1 => ?_)
  refine RO_ia lk_99 hi1 dc_Walk_firstMeetingAt_18 ?_
  refine RO_iadd dc_Walk_firstMeetingAt_19 ?_
  refine RO_icmp_ge (tgt := 147) dc_Walk_firstMeetingAt_20 rfl ?_ ?_
  · refine RO_iload_n dc_Walk_firstMeetingAt_23 rfl rfl ?_
    refine RO_iconst dc_Walk_firstMeetingAt_24 ?_
    refine RO_imul dc_Walk_firstMeetingAt_25 ?_
    refine RO_bnT (fun x2 => ?_)
    refine RO_istore dc_Walk_firstMeetingAt_26 (Nat.le_of_ble_eq_true rfl) ?_
    refine RO_sub ?_ (rp_Walk_firstMeetingAt_28 p1 p2 p3 k8 H8 FU v4 v5 x2 mem)
    exact ⟨rfl, rfl, rfl, rfl, rfl, rfl, rfl, trivial⟩
  · refine RO_iload dc_Walk_firstMeetingAt_147 rfl ?_
    exact RO_iret rfl dc_Walk_firstMeetingAt_149
def lp_Walk_firstMeetingAt_8 (p1 : Int) (p2 : Int) (p3 : Int)  : Nat → Int → Int → Mm → Res
  | 0 => fun _ _ _ => none
  | n + 1 => bo_Walk_firstMeetingAt_8 p1 p2 p3  (lp_Walk_firstMeetingAt_8 p1 p2 p3  n)
theorem rp_Walk_firstMeetingAt_8 {E : EE} (p1 : Int) (p2 : Int) (p3 : Int)    : ∀ (n : Nat) (v4 : Int) (v5 : Int)  (mem : Mm), RO E mt_Walk_firstMeetingAt (lp_Walk_firstMeetingAt_8 p1 p2 p3  n v4 v5 mem) 8 [(0, rf 98), (1, vi p1), (2, vi p2), (3, vi p3), (4, vi v4), (5, vi v5)] [] mem := by
  intro n
  induction n with
  | zero => intro v4 v5  mem; exact RO_none
  | succ n ih => intro v4 v5  mem; exact rb_Walk_firstMeetingAt_8 p1 p2 p3   (lp_Walk_firstMeetingAt_8 p1 p2 p3  n)  ih v4 v5  mem
def fn_Walk_firstMeetingAt (p1 : Int) (p2 : Int) (p3 : Int) (mem : Mm) : Res := bn (w32 (p1 * 4)) fun x1 => lp_Walk_firstMeetingAt_8 p1 p2 p3 FU (-1) x1 mem
set_option maxHeartbeats 4000000 in
theorem pf_Walk_firstMeetingAt {E : EE} (p1 : Int) (p2 : Int) (p3 : Int)  (mem : Mm) {r : Int} {mem9 : Mm} (h : fn_Walk_firstMeetingAt p1 p2 p3 mem = some (r, mem9)) : MetX E 1 yn_Walk_firstMeetingAt cd_Walk_firstMeetingAt 9 (some .int) [rf 98, vi p1, vi p2, vi p3] mem r mem9 := by
  refine RO_met (y := yn_Walk_firstMeetingAt) (by decide +kernel) (Nat.le_of_ble_eq_true rfl) ?_ h
  show RO E mt_Walk_firstMeetingAt (fn_Walk_firstMeetingAt p1 p2 p3 mem) 0 [(0, rf 98), (1, vi p1), (2, vi p2), (3, vi p3)] [] mem
  unfold fn_Walk_firstMeetingAt
  refine RO_iconst dc_Walk_firstMeetingAt_0 ?_
  refine RO_istore dc_Walk_firstMeetingAt_1 (Nat.le_of_ble_eq_true rfl) ?_
  refine RO_iload_n dc_Walk_firstMeetingAt_3 rfl rfl ?_
  refine RO_iconst dc_Walk_firstMeetingAt_4 ?_
  refine RO_imul dc_Walk_firstMeetingAt_5 ?_
  refine RO_bnT (fun x1 => ?_)
  refine RO_istore dc_Walk_firstMeetingAt_6 (Nat.le_of_ble_eq_true rfl) ?_
  refine RO_sub ?_ (rp_Walk_firstMeetingAt_8 p1 p2 p3 FU (-1) x1 mem)
  exact ⟨rfl, rfl, rfl, rfl, rfl, rfl, trivial⟩
def bo_Walker_passes_2 (th : Nat) (p1 : Int) (k2 : Int → Mm → Res) (v2 : Int) (mem : Mm) : Res := if v2 < (mem th 4) then (if 0 ≤ v2 ∧ v2 < 4 then if (mem (th + 1) v2.toNat) = p1 then (some (1, mem)) else (k2 (w32 (v2 + 1)) mem) else none) else (some (0, mem))
set_option maxHeartbeats 4000000 in
theorem rb_Walker_passes_2 {E : EE} (th : Nat) (p1 : Int) (hk_th : ly_k th = (9, 8)) (k2 : Int → Mm → Res) (H2 : ∀ (v2 : Int)  (mem : Mm), RO E mt_Walker_passes (k2 v2 mem) 2 [(0, rf th), (1, vi p1), (2, vi v2)] [] mem) (v2 : Int)  (mem : Mm) : RO E mt_Walker_passes (bo_Walker_passes_2 th p1 k2 v2 mem) 2 [(0, rf th), (1, vi p1), (2, vi v2)] [] mem := by
  unfold bo_Walker_passes_2
  refine RO_iload_n dc_Walker_passes_2 rfl rfl ?_
  refine RO_aload_n dc_Walker_passes_3 rfl rfl ?_
  refine RO_getI gf_Walker_21 hk_th dc_Walker_passes_4 ?_
  refine RO_icmp_ge (tgt := 28) dc_Walker_passes_7 rfl ?_ ?_
  · refine RO_aload_n dc_Walker_passes_10 rfl rfl ?_
    refine RO_getR (b := (th + 1)) gf_Walker_9 hk_th (by omega) dc_Walker_passes_11 ?_
    refine RO_iload_n dc_Walker_passes_14 rfl rfl ?_
    refine RO_chk (fun hi1 => ?_)
    refine RO_ia (cl_9_5 hk_th) hi1 dc_Walker_passes_15 ?_
    refine RO_iload_n dc_Walker_passes_16 rfl rfl ?_
    refine RO_icmp_ne (tgt := 22) dc_Walker_passes_17 rfl ?_ ?_
    · refine RO_iconst dc_Walker_passes_20 ?_
      exact RO_zret rfl (Or.inr rfl) dc_Walker_passes_21
    · refine RO_iinc dc_Walker_passes_22 rfl (Nat.le_of_ble_eq_true rfl) ?_
      refine RO_goto (tgt := 2) dc_Walker_passes_25 rfl ?_
      refine RO_sub ?_ (H2 (w32 (v2 + 1)) mem)
      exact ⟨rfl, rfl, rfl, trivial⟩
  · refine RO_iconst dc_Walker_passes_28 ?_
    exact RO_zret rfl (Or.inl rfl) dc_Walker_passes_29
def lp_Walker_passes_2 (th : Nat) (p1 : Int)  : Nat → Int → Mm → Res
  | 0 => fun _ _ => none
  | n + 1 => bo_Walker_passes_2 th p1  (lp_Walker_passes_2 th p1  n)
theorem rp_Walker_passes_2 {E : EE} (th : Nat) (p1 : Int) (hk_th : ly_k th = (9, 8))   : ∀ (n : Nat) (v2 : Int)  (mem : Mm), RO E mt_Walker_passes (lp_Walker_passes_2 th p1  n v2 mem) 2 [(0, rf th), (1, vi p1), (2, vi v2)] [] mem := by
  intro n
  induction n with
  | zero => intro v2  mem; exact RO_none
  | succ n ih => intro v2  mem; exact rb_Walker_passes_2 th p1 hk_th  (lp_Walker_passes_2 th p1  n)  ih v2  mem
def fn_Walker_passes (th : Nat) (p1 : Int) (mem : Mm) : Res := lp_Walker_passes_2 th p1 FU 0 mem
set_option maxHeartbeats 4000000 in
theorem pf_Walker_passes {E : EE} (th : Nat) (p1 : Int) (hk_th : ly_k th = (9, 8)) (mem : Mm) {r : Int} {mem9 : Mm} (h : fn_Walker_passes th p1 mem = some (r, mem9)) : MetX E 1 yn_Walker_passes cd_Walker_passes 3 (some .boolean) [rf th, vi p1] mem r mem9 := by
  refine RO_met (y := yn_Walker_passes) (by decide +kernel) (Nat.le_of_ble_eq_true rfl) ?_ h
  show RO E mt_Walker_passes (fn_Walker_passes th p1 mem) 0 [(0, rf th), (1, vi p1)] [] mem
  unfold fn_Walker_passes
  refine RO_iconst dc_Walker_passes_0 ?_
  refine RO_istore_n dc_Walker_passes_1 rfl (Nat.le_of_ble_eq_true rfl) ?_
  refine RO_sub ?_ (rp_Walker_passes_2 th p1 hk_th FU 0 mem)
  exact ⟨rfl, rfl, rfl, trivial⟩
def fn_Walker_rest (th : Nat) (mem : Mm) : Res := if (mem th 0) = 2 then (some (w32 (2 * (mem th 3)), mem)) else (some (mem th 3, mem))
set_option maxHeartbeats 4000000 in
theorem pf_Walker_rest {E : EE} (th : Nat) (hk_th : ly_k th = (9, 8)) (mem : Mm) {r : Int} {mem9 : Mm} (h : fn_Walker_rest th mem = some (r, mem9)) : MetX E 1 yn_Walker_rest cd_Walker_rest 1 (some .int) [rf th] mem r mem9 := by
  refine RO_met (y := yn_Walker_rest) (by decide +kernel) (Nat.le_of_ble_eq_true rfl) ?_ h
  show RO E mt_Walker_rest (fn_Walker_rest th mem) 0 [(0, rf th)] [] mem
  unfold fn_Walker_rest
  refine RO_aload_n dc_Walker_rest_0 rfl rfl ?_
  refine RO_getI gf_Walker_31 hk_th dc_Walker_rest_1 ?_
  refine RO_iconst dc_Walker_rest_4 ?_
  refine RO_icmp_ne (tgt := 17) dc_Walker_rest_5 rfl ?_ ?_
  · refine RO_iconst dc_Walker_rest_8 ?_
    refine RO_aload_n dc_Walker_rest_9 rfl rfl ?_
    refine RO_getI gf_Walker_34 hk_th dc_Walker_rest_10 ?_
    refine RO_imul dc_Walker_rest_13 ?_
    refine RO_goto (tgt := 21) dc_Walker_rest_14 rfl ?_
    exact RO_iret rfl dc_Walker_rest_21
  · refine RO_aload_n dc_Walker_rest_17 rfl rfl ?_
    refine RO_getI gf_Walker_34 hk_th dc_Walker_rest_18 ?_
    exact RO_iret rfl dc_Walker_rest_21
def bo_Walker_minutesFor_22 (th : Nat) (p1 : Int) (p2 : Int)  (s0 : Int) (s1 : Int) (mem : Mm) : Res := bn (w32 (s0 * s1)) fun x1 => if p2 = 0 then (some (x1, mem)) else (if (mem th 0) = 3 then (some (x1, mem)) else (some (w32 (2 * x1), mem)))
set_option maxHeartbeats 4000000 in
theorem rb_Walker_minutesFor_22 {E : EE} (th : Nat) (p1 : Int) (p2 : Int) (hk_th : ly_k th = (9, 8))   (s0 : Int) (s1 : Int)  (mem : Mm) : RO E mt_Walker_minutesFor (bo_Walker_minutesFor_22 th p1 p2  s0 s1 mem) 22 [(0, rf th), (2, vi p2)] [vi s1, vi s0] mem := by
  unfold bo_Walker_minutesFor_22
  refine RO_imul dc_Walker_minutesFor_22 ?_
  refine RO_bnT (fun x1 => ?_)
  refine RO_istore_n dc_Walker_minutesFor_23 rfl (Nat.le_of_ble_eq_true rfl) ?_
  refine RO_iload_n dc_Walker_minutesFor_24 rfl rfl ?_
  refine RO_if_eq (tgt := 42) dc_Walker_minutesFor_25 rfl ?_ ?_
  · refine RO_iload_n dc_Walker_minutesFor_42 rfl rfl ?_
    exact RO_iret rfl dc_Walker_minutesFor_43
  · refine RO_aload_n dc_Walker_minutesFor_28 rfl rfl ?_
    refine RO_getI gf_Walker_31 hk_th dc_Walker_minutesFor_29 ?_
    refine RO_iconst dc_Walker_minutesFor_32 ?_
    refine RO_icmp_eq (tgt := 42) dc_Walker_minutesFor_33 rfl ?_ ?_
    · refine RO_iload_n dc_Walker_minutesFor_42 rfl rfl ?_
      exact RO_iret rfl dc_Walker_minutesFor_43
    · refine RO_iconst dc_Walker_minutesFor_36 ?_
      refine RO_iload_n dc_Walker_minutesFor_37 rfl rfl ?_
      refine RO_imul dc_Walker_minutesFor_38 ?_
      refine RO_goto (tgt := 43) dc_Walker_minutesFor_39 rfl ?_
      exact RO_iret rfl dc_Walker_minutesFor_43
def fn_Walker_minutesFor (th : Nat) (p1 : Int) (p2 : Int) (mem : Mm) : Res := if (mem th 0) = 1 then (bo_Walker_minutesFor_22 th p1 p2 p1 (w32 ((mem th 2) + 1)) mem) else (bo_Walker_minutesFor_22 th p1 p2 p1 (mem th 2) mem)
set_option maxHeartbeats 4000000 in
theorem pf_Walker_minutesFor {E : EE} (th : Nat) (p1 : Int) (p2 : Int) (hk_th : ly_k th = (9, 8)) (mem : Mm) {r : Int} {mem9 : Mm} (h : fn_Walker_minutesFor th p1 p2 mem = some (r, mem9)) : MetX E 1 yn_Walker_minutesFor cd_Walker_minutesFor 4 (some .int) [rf th, vi p1, vi p2] mem r mem9 := by
  refine RO_met (y := yn_Walker_minutesFor) (by decide +kernel) (Nat.le_of_ble_eq_true rfl) ?_ h
  show RO E mt_Walker_minutesFor (fn_Walker_minutesFor th p1 p2 mem) 0 [(0, rf th), (1, vi p1), (2, vi p2)] [] mem
  unfold fn_Walker_minutesFor
  refine RO_iload_n dc_Walker_minutesFor_0 rfl rfl ?_
  refine RO_aload_n dc_Walker_minutesFor_1 rfl rfl ?_
  refine RO_getI gf_Walker_31 hk_th dc_Walker_minutesFor_2 ?_
  refine RO_iconst dc_Walker_minutesFor_5 ?_
  refine RO_icmp_ne (tgt := 18) dc_Walker_minutesFor_6 rfl ?_ ?_
  · refine RO_aload_n dc_Walker_minutesFor_9 rfl rfl ?_
    refine RO_getI gf_Walker_37 hk_th dc_Walker_minutesFor_10 ?_
    refine RO_iconst dc_Walker_minutesFor_13 ?_
    refine RO_iadd dc_Walker_minutesFor_14 ?_
    refine RO_goto (tgt := 22) dc_Walker_minutesFor_15 rfl ?_
    refine RO_sub ?_ (rb_Walker_minutesFor_22 th p1 p2 hk_th p1 (w32 ((mem th 2) + 1)) mem)
    exact ⟨rfl, rfl, trivial⟩
  · refine RO_aload_n dc_Walker_minutesFor_18 rfl rfl ?_
    refine RO_getI gf_Walker_37 hk_th dc_Walker_minutesFor_19 ?_
    refine RO_sub ?_ (rb_Walker_minutesFor_22 th p1 p2 hk_th p1 (mem th 2) mem)
    exact ⟨rfl, rfl, trivial⟩
def fn_Word_isFact (th : Int) (mem : Mm) : Res := if th = (-28) then (some (1, mem)) else (if th = (-29) then (some (1, mem)) else (if th = (-30) then (some (1, mem)) else (some (0, mem))))
set_option maxHeartbeats 4000000 in
theorem pf_Word_isFact {E : EE} (th : Int)  (mem : Mm) {r : Int} {mem9 : Mm} (h : fn_Word_isFact th mem = some (r, mem9)) : MetX E 1 yn_Word_isFact cd_Word_isFact 1 (some .boolean) [vw th] mem r mem9 := by
  refine RO_met (y := yn_Word_isFact) (by decide +kernel) (Nat.le_of_ble_eq_true rfl) ?_ h
  show RO E mt_Word_isFact (fn_Word_isFact th mem) 0 [(0, vw th)] [] mem
  unfold fn_Word_isFact
  refine RO_wload_n dc_Word_isFact_0 rfl rfl ?_
  refine RO_getsW 26 (by decide) (x := (-28)) (by decide) gs_Word_82 dc_Word_isFact_1 ?_
  refine RO_acmp_eq (tgt := 21) dc_Word_isFact_4 rfl ?_ ?_
  · refine RO_iconst dc_Word_isFact_21 ?_
    refine RO_goto (tgt := 26) dc_Word_isFact_22 rfl ?_
    exact RO_zret rfl (Or.inr rfl) dc_Word_isFact_26
  · refine RO_wload_n dc_Word_isFact_7 rfl rfl ?_
    refine RO_getsW 27 (by decide) (x := (-29)) (by decide) gs_Word_85 dc_Word_isFact_8 ?_
    refine RO_acmp_eq (tgt := 21) dc_Word_isFact_11 rfl ?_ ?_
    · refine RO_iconst dc_Word_isFact_21 ?_
      refine RO_goto (tgt := 26) dc_Word_isFact_22 rfl ?_
      exact RO_zret rfl (Or.inr rfl) dc_Word_isFact_26
    · refine RO_wload_n dc_Word_isFact_14 rfl rfl ?_
      refine RO_getsW 28 (by decide) (x := (-30)) (by decide) gs_Word_88 dc_Word_isFact_15 ?_
      refine RO_acmp_ne (tgt := 25) dc_Word_isFact_18 rfl ?_ ?_
      · refine RO_iconst dc_Word_isFact_21 ?_
        refine RO_goto (tgt := 26) dc_Word_isFact_22 rfl ?_
        exact RO_zret rfl (Or.inr rfl) dc_Word_isFact_26
      · refine RO_iconst dc_Word_isFact_25 ?_
        exact RO_zret rfl (Or.inl rfl) dc_Word_isFact_26
def bo_Arrays_fillI_5 (n_p0 : Nat) (p0 : Nat) (p1 : Int) (k5 : Int → Int → Mm → Res) (v2 : Int) (v3 : Int) (mem : Mm) : Res := if v2 < v3 then (if 0 ≤ v2 ∧ v2 < (n_p0 : Int) then bn (mst mem p0 v2.toNat p1) fun m2 => k5 (w32 (v2 + 1)) v3 m2 else none) else (some (0, mem))
set_option maxHeartbeats 4000000 in
theorem rb_Arrays_fillI_5 {E : EE} (n_p0 : Nat) (p0 : Nat) (p1 : Int) (hk_p0 : ly_k p0 = (12, n_p0)) (k5 : Int → Int → Mm → Res) (H5 : ∀ (v2 : Int) (v3 : Int)  (mem : Mm), RO E mt_Arrays_fillI (k5 v2 v3 mem) 5 [(0, rf p0), (1, vi p1), (2, vi v2), (3, vi v3)] [] mem) (v2 : Int) (v3 : Int)  (mem : Mm) : RO E mt_Arrays_fillI (bo_Arrays_fillI_5 n_p0 p0 p1 k5 v2 v3 mem) 5 [(0, rf p0), (1, vi p1), (2, vi v2), (3, vi v3)] [] mem := by
  unfold bo_Arrays_fillI_5
  refine RO_iload_n dc_Arrays_fillI_5 rfl rfl ?_
  refine RO_iload_n dc_Arrays_fillI_6 rfl rfl ?_
  refine RO_icmp_ge (tgt := 20) dc_Arrays_fillI_7 rfl ?_ ?_
  · refine RO_aload_n dc_Arrays_fillI_10 rfl rfl ?_
    refine RO_iload_n dc_Arrays_fillI_11 rfl rfl ?_
    refine RO_iload_n dc_Arrays_fillI_12 rfl rfl ?_
    refine RO_chk (fun hi1 => ?_)
    refine RO_is hk_p0 hi1 dc_Arrays_fillI_13 ?_
    refine RO_bnM (fun m2 => ?_)
    refine RO_iinc dc_Arrays_fillI_14 rfl (Nat.le_of_ble_eq_true rfl) ?_
    refine RO_goto (tgt := 5) dc_Arrays_fillI_17 rfl ?_
    refine RO_sub ?_ (H5 (w32 (v2 + 1)) v3 m2)
    exact ⟨rfl, rfl, rfl, rfl, trivial⟩
  · exact RO_vret rfl dc_Arrays_fillI_20
def lp_Arrays_fillI_5 (n_p0 : Nat) (p0 : Nat) (p1 : Int)  : Nat → Int → Int → Mm → Res
  | 0 => fun _ _ _ => none
  | n + 1 => bo_Arrays_fillI_5 n_p0 p0 p1  (lp_Arrays_fillI_5 n_p0 p0 p1  n)
theorem rp_Arrays_fillI_5 {E : EE} (n_p0 : Nat) (p0 : Nat) (p1 : Int) (hk_p0 : ly_k p0 = (12, n_p0))   : ∀ (n : Nat) (v2 : Int) (v3 : Int)  (mem : Mm), RO E mt_Arrays_fillI (lp_Arrays_fillI_5 n_p0 p0 p1  n v2 v3 mem) 5 [(0, rf p0), (1, vi p1), (2, vi v2), (3, vi v3)] [] mem := by
  intro n
  induction n with
  | zero => intro v2 v3  mem; exact RO_none
  | succ n ih => intro v2 v3  mem; exact rb_Arrays_fillI_5 n_p0 p0 p1 hk_p0  (lp_Arrays_fillI_5 n_p0 p0 p1  n)  ih v2 v3  mem
def fn_Arrays_fillI (n_p0 : Nat) (p0 : Nat) (p1 : Int) (mem : Mm) : Res := bn ((n_p0 : Int)) fun x1 => lp_Arrays_fillI_5 n_p0 p0 p1 FU 0 x1 mem
set_option maxHeartbeats 4000000 in
theorem pf_Arrays_fillI {E : EE} (n_p0 : Nat) (p0 : Nat) (p1 : Int) (hk_p0 : ly_k p0 = (12, n_p0)) (mem : Mm) {r : Int} {mem9 : Mm} (h : fn_Arrays_fillI n_p0 p0 p1 mem = some (r, mem9)) : MetX E 1 yn_Arrays_fillI cd_Arrays_fillI 4 none [rf p0, vi p1] mem r mem9 := by
  refine RO_met (y := yn_Arrays_fillI) (by decide +kernel) (Nat.le_of_ble_eq_true rfl) ?_ h
  show RO E mt_Arrays_fillI (fn_Arrays_fillI n_p0 p0 p1 mem) 0 [(0, rf p0), (1, vi p1)] [] mem
  unfold fn_Arrays_fillI
  refine RO_iconst dc_Arrays_fillI_0 ?_
  refine RO_istore_n dc_Arrays_fillI_1 rfl (Nat.le_of_ble_eq_true rfl) ?_
  refine RO_aload_n dc_Arrays_fillI_2 rfl rfl ?_
  refine RO_alen (x := (n_p0 : Int)) (by decide) hk_p0 rfl (ly_n hk_p0) dc_Arrays_fillI_3 ?_
  refine RO_bnT (fun x1 => ?_)
  refine RO_istore_n dc_Arrays_fillI_4 rfl (Nat.le_of_ble_eq_true rfl) ?_
  refine RO_sub ?_ (rp_Arrays_fillI_5 n_p0 p0 p1 hk_p0 FU 0 x1 mem)
  exact ⟨rfl, rfl, rfl, rfl, trivial⟩
def bo_Arrays_fillJ_6 (n_p0 : Nat) (p0 : Nat) (p1 : Int) (k6 : Int → Int → Mm → Res) (v3 : Int) (v4 : Int) (mem : Mm) : Res := if v3 < v4 then (if 0 ≤ v3 ∧ v3 < (n_p0 : Int) then bn (mst mem p0 v3.toNat p1) fun m2 => k6 (w32 (v3 + 1)) v4 m2 else none) else (some (0, mem))
set_option maxHeartbeats 4000000 in
theorem rb_Arrays_fillJ_6 {E : EE} (n_p0 : Nat) (p0 : Nat) (p1 : Int) (hk_p0 : ly_k p0 = (13, n_p0)) (k6 : Int → Int → Mm → Res) (H6 : ∀ (v3 : Int) (v4 : Int)  (mem : Mm), RO E mt_Arrays_fillJ (k6 v3 v4 mem) 6 [(0, rf p0), (1, vl p1), (3, vi v3), (4, vi v4)] [] mem) (v3 : Int) (v4 : Int)  (mem : Mm) : RO E mt_Arrays_fillJ (bo_Arrays_fillJ_6 n_p0 p0 p1 k6 v3 v4 mem) 6 [(0, rf p0), (1, vl p1), (3, vi v3), (4, vi v4)] [] mem := by
  unfold bo_Arrays_fillJ_6
  refine RO_iload_n dc_Arrays_fillJ_6 rfl rfl ?_
  refine RO_iload dc_Arrays_fillJ_7 rfl ?_
  refine RO_icmp_ge (tgt := 22) dc_Arrays_fillJ_9 rfl ?_ ?_
  · refine RO_aload_n dc_Arrays_fillJ_12 rfl rfl ?_
    refine RO_iload_n dc_Arrays_fillJ_13 rfl rfl ?_
    refine RO_lload_n dc_Arrays_fillJ_14 rfl rfl ?_
    refine RO_chk (fun hi1 => ?_)
    refine RO_lst hk_p0 hi1 dc_Arrays_fillJ_15 ?_
    refine RO_bnM (fun m2 => ?_)
    refine RO_iinc dc_Arrays_fillJ_16 rfl (Nat.le_of_ble_eq_true rfl) ?_
    refine RO_goto (tgt := 6) dc_Arrays_fillJ_19 rfl ?_
    refine RO_sub ?_ (H6 (w32 (v3 + 1)) v4 m2)
    exact ⟨rfl, rfl, rfl, rfl, trivial⟩
  · exact RO_vret rfl dc_Arrays_fillJ_22
def lp_Arrays_fillJ_6 (n_p0 : Nat) (p0 : Nat) (p1 : Int)  : Nat → Int → Int → Mm → Res
  | 0 => fun _ _ _ => none
  | n + 1 => bo_Arrays_fillJ_6 n_p0 p0 p1  (lp_Arrays_fillJ_6 n_p0 p0 p1  n)
theorem rp_Arrays_fillJ_6 {E : EE} (n_p0 : Nat) (p0 : Nat) (p1 : Int) (hk_p0 : ly_k p0 = (13, n_p0))   : ∀ (n : Nat) (v3 : Int) (v4 : Int)  (mem : Mm), RO E mt_Arrays_fillJ (lp_Arrays_fillJ_6 n_p0 p0 p1  n v3 v4 mem) 6 [(0, rf p0), (1, vl p1), (3, vi v3), (4, vi v4)] [] mem := by
  intro n
  induction n with
  | zero => intro v3 v4  mem; exact RO_none
  | succ n ih => intro v3 v4  mem; exact rb_Arrays_fillJ_6 n_p0 p0 p1 hk_p0  (lp_Arrays_fillJ_6 n_p0 p0 p1  n)  ih v3 v4  mem
def fn_Arrays_fillJ (n_p0 : Nat) (p0 : Nat) (p1 : Int) (mem : Mm) : Res := bn ((n_p0 : Int)) fun x1 => lp_Arrays_fillJ_6 n_p0 p0 p1 FU 0 x1 mem
set_option maxHeartbeats 4000000 in
theorem pf_Arrays_fillJ {E : EE} (n_p0 : Nat) (p0 : Nat) (p1 : Int) (hk_p0 : ly_k p0 = (13, n_p0)) (mem : Mm) {r : Int} {mem9 : Mm} (h : fn_Arrays_fillJ n_p0 p0 p1 mem = some (r, mem9)) : MetX E 1 yn_Arrays_fillJ cd_Arrays_fillJ 5 none [rf p0, vl p1] mem r mem9 := by
  refine RO_met (y := yn_Arrays_fillJ) (by decide +kernel) (Nat.le_of_ble_eq_true rfl) ?_ h
  show RO E mt_Arrays_fillJ (fn_Arrays_fillJ n_p0 p0 p1 mem) 0 [(0, rf p0), (1, vl p1)] [] mem
  unfold fn_Arrays_fillJ
  refine RO_iconst dc_Arrays_fillJ_0 ?_
  refine RO_istore_n dc_Arrays_fillJ_1 rfl (Nat.le_of_ble_eq_true rfl) ?_
  refine RO_aload_n dc_Arrays_fillJ_2 rfl rfl ?_
  refine RO_alen (x := (n_p0 : Int)) (by decide) hk_p0 rfl (ly_n hk_p0) dc_Arrays_fillJ_3 ?_
  refine RO_bnT (fun x1 => ?_)
  refine RO_istore dc_Arrays_fillJ_4 (Nat.le_of_ble_eq_true rfl) ?_
  refine RO_sub ?_ (rp_Arrays_fillJ_6 n_p0 p0 p1 hk_p0 FU 0 x1 mem)
  exact ⟨rfl, rfl, rfl, rfl, trivial⟩
def fn_Integer_bitCount (p0 : Int) (mem : Mm) : Res := bn (w32 (p0 - (iand (iushr p0 1) 1431655765))) fun x1 => bn (w32 ((iand x1 858993459) + (iand (iushr x1 2) 858993459))) fun x2 => bn (iand (w32 (x2 + (iushr x2 4))) 252645135) fun x3 => bn (w32 (x3 + (iushr x3 8))) fun x4 => bn (w32 (x4 + (iushr x4 16))) fun x5 => some (iand x5 63, mem)
set_option maxHeartbeats 4000000 in
theorem pf_Integer_bitCount {E : EE} (p0 : Int)  (mem : Mm) {r : Int} {mem9 : Mm} (h : fn_Integer_bitCount p0 mem = some (r, mem9)) : MetX E 1 yn_Integer_bitCount cd_Integer_bitCount 1 (some .int) [vi p0] mem r mem9 := by
  refine RO_met (y := yn_Integer_bitCount) (by decide +kernel) (Nat.le_of_ble_eq_true rfl) ?_ h
  show RO E mt_Integer_bitCount (fn_Integer_bitCount p0 mem) 0 [(0, vi p0)] [] mem
  unfold fn_Integer_bitCount
  refine RO_iload_n dc_Integer_bitCount_0 rfl rfl ?_
  refine RO_iload_n dc_Integer_bitCount_1 rfl rfl ?_
  refine RO_iconst dc_Integer_bitCount_2 ?_
  refine RO_iushr dc_Integer_bitCount_3 ?_
  refine RO_ldcw (x := 1431655765) c1_Integer_265 ⟨by decide, ⟨by decide, by decide⟩⟩ dc_Integer_bitCount_4 ?_
  refine RO_iand dc_Integer_bitCount_7 ?_
  refine RO_isub dc_Integer_bitCount_8 ?_
  refine RO_bnT (fun x1 => ?_)
  refine RO_istore_n dc_Integer_bitCount_9 rfl (Nat.le_of_ble_eq_true rfl) ?_
  refine RO_iload_n dc_Integer_bitCount_10 rfl rfl ?_
  refine RO_ldcw (x := 858993459) c1_Integer_266 ⟨by decide, ⟨by decide, by decide⟩⟩ dc_Integer_bitCount_11 ?_
  refine RO_iand dc_Integer_bitCount_14 ?_
  refine RO_iload_n dc_Integer_bitCount_15 rfl rfl ?_
  refine RO_iconst dc_Integer_bitCount_16 ?_
  refine RO_iushr dc_Integer_bitCount_17 ?_
  refine RO_ldcw (x := 858993459) c1_Integer_266 ⟨by decide, ⟨by decide, by decide⟩⟩ dc_Integer_bitCount_18 ?_
  refine RO_iand dc_Integer_bitCount_21 ?_
  refine RO_iadd dc_Integer_bitCount_22 ?_
  refine RO_bnT (fun x2 => ?_)
  refine RO_istore_n dc_Integer_bitCount_23 rfl (Nat.le_of_ble_eq_true rfl) ?_
  refine RO_iload_n dc_Integer_bitCount_24 rfl rfl ?_
  refine RO_iload_n dc_Integer_bitCount_25 rfl rfl ?_
  refine RO_iconst dc_Integer_bitCount_26 ?_
  refine RO_iushr dc_Integer_bitCount_27 ?_
  refine RO_iadd dc_Integer_bitCount_28 ?_
  refine RO_ldcw (x := 252645135) c1_Integer_267 ⟨by decide, ⟨by decide, by decide⟩⟩ dc_Integer_bitCount_29 ?_
  refine RO_iand dc_Integer_bitCount_32 ?_
  refine RO_bnT (fun x3 => ?_)
  refine RO_istore_n dc_Integer_bitCount_33 rfl (Nat.le_of_ble_eq_true rfl) ?_
  refine RO_iload_n dc_Integer_bitCount_34 rfl rfl ?_
  refine RO_iload_n dc_Integer_bitCount_35 rfl rfl ?_
  refine RO_bipush dc_Integer_bitCount_36 ?_
  refine RO_iushr dc_Integer_bitCount_38 ?_
  refine RO_iadd dc_Integer_bitCount_39 ?_
  refine RO_bnT (fun x4 => ?_)
  refine RO_istore_n dc_Integer_bitCount_40 rfl (Nat.le_of_ble_eq_true rfl) ?_
  refine RO_iload_n dc_Integer_bitCount_41 rfl rfl ?_
  refine RO_iload_n dc_Integer_bitCount_42 rfl rfl ?_
  refine RO_bipush dc_Integer_bitCount_43 ?_
  refine RO_iushr dc_Integer_bitCount_45 ?_
  refine RO_iadd dc_Integer_bitCount_46 ?_
  refine RO_bnT (fun x5 => ?_)
  refine RO_istore_n dc_Integer_bitCount_47 rfl (Nat.le_of_ble_eq_true rfl) ?_
  refine RO_iload_n dc_Integer_bitCount_48 rfl rfl ?_
  refine RO_bipush dc_Integer_bitCount_49 ?_
  refine RO_iand dc_Integer_bitCount_51 ?_
  exact RO_iret rfl dc_Integer_bitCount_52
def fn_String_isLatin1  (mem : Mm) : Res := if (1 : Int) = 0 then (some (0, mem)) else (if (0 : Int) = 0 then (some (1, mem)) else (some (0, mem)))
set_option maxHeartbeats 4000000 in
theorem pf_String_isLatin1 {E : EE}   (mem : Mm) {r : Int} {mem9 : Mm} (h : fn_String_isLatin1  mem = some (r, mem9)) : MetX E 1 yn_String_isLatin1 cd_String_isLatin1 1 (some .boolean) [vk 30] mem r mem9 := by
  refine RO_met (y := yn_String_isLatin1) (by decide +kernel) (Nat.le_of_ble_eq_true rfl) ?_ h
  show RO E mt_String_isLatin1 (fn_String_isLatin1  mem) 0 [(0, vk 30)] [] mem
  unfold fn_String_isLatin1
  refine RO_getsCS gs_CS dc_String_isLatin1_0 ?_
  refine RO_if_eq (tgt := 17) dc_String_isLatin1_3 rfl ?_ ?_
  · refine RO_iconst dc_String_isLatin1_17 ?_
    exact RO_zret rfl (Or.inl rfl) dc_String_isLatin1_18
  · refine RO_kload_n dc_String_isLatin1_6 rfl rfl ?_
    refine RO_strC gS_15 dc_String_isLatin1_7 ?_
    refine RO_if_ne (tgt := 17) dc_String_isLatin1_10 rfl ?_ ?_
    · refine RO_iconst dc_String_isLatin1_13 ?_
      refine RO_goto (tgt := 18) dc_String_isLatin1_14 rfl ?_
      exact RO_zret rfl (Or.inr rfl) dc_String_isLatin1_18
    · refine RO_iconst dc_String_isLatin1_17 ?_
      exact RO_zret rfl (Or.inl rfl) dc_String_isLatin1_18
def fn_String_coder  (mem : Mm) : Res := if (1 : Int) = 0 then (some (1, mem)) else (some (0, mem))
set_option maxHeartbeats 4000000 in
theorem pf_String_coder {E : EE}   (mem : Mm) {r : Int} {mem9 : Mm} (h : fn_String_coder  mem = some (r, mem9)) : MetX E 1 yn_String_coder cd_String_coder 1 (some .byte) [vk 30] mem r mem9 := by
  refine RO_met (y := yn_String_coder) (by decide +kernel) (Nat.le_of_ble_eq_true rfl) ?_ h
  show RO E mt_String_coder (fn_String_coder  mem) 0 [(0, vk 30)] [] mem
  unfold fn_String_coder
  refine RO_getsCS gs_CS dc_String_coder_0 ?_
  refine RO_if_eq (tgt := 13) dc_String_coder_3 rfl ?_ ?_
  · refine RO_iconst dc_String_coder_13 ?_
    exact RO_bret rfl (Or.inr rfl) dc_String_coder_14
  · refine RO_kload_n dc_String_coder_6 rfl rfl ?_
    refine RO_strC gS_15 dc_String_coder_7 ?_
    refine RO_goto (tgt := 14) dc_String_coder_10 rfl ?_
    exact RO_bret rfl (Or.inl rfl) dc_String_coder_14
