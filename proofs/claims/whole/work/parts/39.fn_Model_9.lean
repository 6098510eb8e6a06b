def bo_Model_stands_171 (kr0 : Int → Int → Int → Mm → Res) (p1 : Int) (p2 : Int) (p3 : Int) (k97 : Int → Mm → Res) (v4 : Int) (mem : Mm) : Res := k97 (w32 (v4 + 1)) mem
set_option maxHeartbeats 4000000 in
theorem rb_Model_stands_171 {E : EE} (kr0 : Int → Int → Int → Mm → Res) (p1 : Int) (p2 : Int) (p3 : Int) (d : Nat) (hd0 : 2 ≤ d) (Hkr0 : ∀ (p1 : Int) (p2 : Int) (p3 : Int)  (mem : Mm) (r : Int) (mem9 : Mm), kr0 p1 p2 p3 mem = some (r, mem9) → MetX E d yn_Model_stands cd_Model_stands 5 none [rf 203, vi p1, vi p2, vi p3] mem r mem9)   (k97 : Int → Mm → Res) (H97 : ∀ (v4 : Int)  (mem : Mm), RO E (mt_Model_stands (d + 1)) (k97 v4 mem) 97 [(0, rf 203), (1, vi p1), (2, vi p2), (3, vi p3), (4, vi v4)] [] mem) (v4 : Int)  (mem : Mm) : RO E (mt_Model_stands (d + 1)) (bo_Model_stands_171 kr0 p1 p2 p3 k97 v4 mem) 171 [(0, rf 203), (1, vi p1), (2, vi p2), (3, vi p3), (4, vi v4)] [] mem := by
  unfold bo_Model_stands_171
  refine RO_iinc dc_Model_stands_171 rfl (Nat.le_of_ble_eq_true rfl) ?_
  refine RO_goto (tgt := 97) dc_Model_stands_174 rfl ?_
  exact RO_sub ⟨rfl, rfl, rfl, rfl, rfl, trivial⟩ (H97 (w32 (v4 + 1)) mem)
def bo_Model_stands_97 (kr0 : Int → Int → Int → Mm → Res) (p1 : Int) (p2 : Int) (p3 : Int) (k97 : Int → Mm → Res) (v4 : Int) (mem : Mm) : Res := if v4 < (mem 205 (1 : Int).toNat) then (if (iand (ishr p2 v4) 1) = 1 then (bo_Model_stands_171 kr0 p1 p2 p3 k97 v4 mem) else (bd (fn_Model_canStand p1 v4 mem) fun r1 m2 => if r1 = 0 then (bo_Model_stands_171 kr0 p1 p2 p3 k97 v4 m2) else (if 0 ≤ p1 ∧ p1 < 6 then bn (mst m2 256 p1.toNat v4) fun m4 => if 0 ≤ p1 ∧ p1 < 12 then bd (fn_Model_firstAt v4 (m4 219 p1.toNat) m4) fun r6 m7 => bd (fn_Model_offBy p1 r6 m7) fun r8 m9 => bd (kr0 (w32 (p1 + 1)) (ior p2 (ishl 1 v4)) (w32 (p3 + r8)) m9) fun r10 m11 => bo_Model_stands_171 kr0 p1 p2 p3 k97 v4 m11 else none else none))) else (some (0, mem))
set_option maxHeartbeats 4000000 in
theorem rb_Model_stands_97 {E : EE} (kr0 : Int → Int → Int → Mm → Res) (p1 : Int) (p2 : Int) (p3 : Int) (d : Nat) (hd0 : 2 ≤ d) (Hkr0 : ∀ (p1 : Int) (p2 : Int) (p3 : Int)  (mem : Mm) (r : Int) (mem9 : Mm), kr0 p1 p2 p3 mem = some (r, mem9) → MetX E d yn_Model_stands cd_Model_stands 5 none [rf 203, vi p1, vi p2, vi p3] mem r mem9)   (k97 : Int → Mm → Res) (H97 : ∀ (v4 : Int)  (mem : Mm), RO E (mt_Model_stands (d + 1)) (k97 v4 mem) 97 [(0, rf 203), (1, vi p1), (2, vi p2), (3, vi p3), (4, vi v4)] [] mem) (v4 : Int)  (mem : Mm) : RO E (mt_Model_stands (d + 1)) (bo_Model_stands_97 kr0 p1 p2 p3 k97 v4 mem) 97 [(0, rf 203), (1, vi p1), (2, vi p2), (3, vi p3), (4, vi v4)] [] mem := by
  unfold bo_Model_stands_97
  refine RO_iload dc_Model_stands_97 rfl ?_
  refine RO_aload_n dc_Model_stands_99 rfl rfl ?_
  refine RO_getR (b := 205) gf_Model_13 lk_203 rfl dc_Model_stands_100 ?_
  refine RO_iconst dc_Model_stands_103 ?_
  refine RO_ia lk_205 ⟨by decide, by decide⟩ dc_Model_stands_104 ?_
  refine RO_icmp_ge (tgt := 177) dc_Model_stands_105 rfl ?_ ?_
  · refine RO_iload_n dc_Model_stands_108 rfl rfl ?_
    refine RO_iload dc_Model_stands_109 rfl ?_
    refine RO_ishr dc_Model_stands_111 ?_
    refine RO_iconst dc_Model_stands_112 ?_
    refine RO_iand dc_Model_stands_113 ?_
    refine RO_iconst dc_Model_stands_114 ?_
    refine RO_icmp_eq (tgt := 171) dc_Model_stands_115 rfl ?_ ?_
    · exact RO_sub ⟨rfl, rfl, rfl, rfl, rfl, trivial⟩ (rb_Model_stands_171 kr0 p1 p2 p3 d hd0 Hkr0 k97 H97 v4 mem)
    · refine RO_aload_n dc_Model_stands_118 rfl rfl ?_
      refine RO_iload_n dc_Model_stands_119 rfl rfl ?_
      refine RO_iload dc_Model_stands_120 rfl ?_
      refine RO_callVi (As := [vi p1, vi v4]) (rest := []) mi_Model_canStand mv_Model_canStand ml_Model_495 lk_203 (by show _ < d + 1; omega) rfl (Nat.le_of_ble_eq_true rfl) (fun _ => rfl) dc_Model_stands_122 (fun r9 m9 h9 => pf_Model_canStand p1 v4  mem h9) (fun r1 m2 => ?_)
      refine RO_if_ne (tgt := 131) dc_Model_stands_125 rfl ?_ ?_
      · refine RO_goto (tgt := 171) dc_Model_stands_128 rfl ?_
        exact RO_sub ⟨rfl, rfl, rfl, rfl, rfl, trivial⟩ (rb_Model_stands_171 kr0 p1 p2 p3 d hd0 Hkr0 k97 H97 v4 m2)
      · refine RO_aload_n dc_Model_stands_131 rfl rfl ?_
        refine RO_getR (b := 256) gf_Model_168 lk_203 rfl dc_Model_stands_132 ?_
        refine RO_iload_n dc_Model_stands_135 rfl rfl ?_
        refine RO_iload dc_Model_stands_136 rfl ?_
        refine RO_chk (fun hi3 => ?_)
        refine RO_is lk_256 hi3 dc_Model_stands_138 ?_
        refine RO_bnM (fun m4 => ?_)
        refine RO_aload_n dc_Model_stands_139 rfl rfl ?_
        refine RO_iload_n dc_Model_stands_140 rfl rfl ?_
        refine RO_iconst dc_Model_stands_141 ?_
        refine RO_iadd dc_Model_stands_142 ?_
        refine RO_iload_n dc_Model_stands_143 rfl rfl ?_
        refine RO_iconst dc_Model_stands_144 ?_
        refine RO_iload dc_Model_stands_145 rfl ?_
        refine RO_ishl dc_Model_stands_147 ?_
        refine RO_ior dc_Model_stands_148 ?_
        refine RO_iload_n dc_Model_stands_149 rfl rfl ?_
        refine RO_aload_n dc_Model_stands_150 rfl rfl ?_
        refine RO_iload_n dc_Model_stands_151 rfl rfl ?_
        refine RO_aload_n dc_Model_stands_152 rfl rfl ?_
        refine RO_iload dc_Model_stands_153 rfl ?_
        refine RO_aload_n dc_Model_stands_155 rfl rfl ?_
        refine RO_getR (b := 219) gf_Model_56 lk_203 rfl dc_Model_stands_156 ?_
        refine RO_iload_n dc_Model_stands_159 rfl rfl ?_
        refine RO_chk (fun hi5 => ?_)
        refine RO_ia lk_219 hi5 dc_Model_stands_160 ?_
        refine RO_callVi (As := [vi v4, vi (m4 219 p1.toNat)]) (rest := [vi p1, rf 203, vi p3, vi (ior p2 (ishl 1 v4)), vi (w32 (p1 + 1)), rf 203]) mi_Model_firstAt mv_Model_firstAt ml_Model_448 lk_203 (by show _ < d + 1; omega) rfl (Nat.le_of_ble_eq_true rfl) (fun _ => rfl) dc_Model_stands_161 (fun r9 m9 h9 => pf_Model_firstAt v4 (m4 219 p1.toNat)  m4 h9) (fun r6 m7 => ?_)
        refine RO_callVi (As := [vi p1, vi r6]) (rest := [vi p3, vi (ior p2 (ishl 1 v4)), vi (w32 (p1 + 1)), rf 203]) mi_Model_offBy mv_Model_offBy ml_Model_457 lk_203 (by show _ < d + 1; omega) rfl (Nat.le_of_ble_eq_true rfl) (fun _ => rfl) dc_Model_stands_164 (fun r9 m9 h9 => pf_Model_offBy p1 r6  m7 h9) (fun r8 m9 => ?_)
        refine RO_iadd dc_Model_stands_167 ?_
        refine RO_callVv (As := [vi (w32 (p1 + 1)), vi (ior p2 (ishl 1 v4)), vi (w32 (p3 + r8))]) (rest := []) mi_Model_stands mv_Model_stands ml_Model_525 lk_203 (by show _ < d + 1; omega) rfl (Nat.le_of_ble_eq_true rfl) dc_Model_stands_168 (fun r9 m9 h9 => Hkr0 (w32 (p1 + 1)) (ior p2 (ishl 1 v4)) (w32 (p3 + r8))  m9 r9 m9 h9) (fun r10 m11 => ?_)
        exact RO_sub ⟨rfl, rfl, rfl, rfl, rfl, trivial⟩ (rb_Model_stands_171 kr0 p1 p2 p3 d hd0 Hkr0 k97 H97 v4 m11)
  · exact RO_vret rfl dc_Model_stands_177
def lp_Model_stands_97 (kr0 : Int → Int → Int → Mm → Res) (p1 : Int) (p2 : Int) (p3 : Int)  : Nat → Int → Mm → Res
  | 0 => fun _ _ => none
  | n + 1 => bo_Model_stands_97 kr0 p1 p2 p3  (lp_Model_stands_97 kr0 p1 p2 p3  n)
theorem rp_Model_stands_97 {E : EE} (kr0 : Int → Int → Int → Mm → Res) (p1 : Int) (p2 : Int) (p3 : Int) (d : Nat) (hd0 : 2 ≤ d) (Hkr0 : ∀ (p1 : Int) (p2 : Int) (p3 : Int)  (mem : Mm) (r : Int) (mem9 : Mm), kr0 p1 p2 p3 mem = some (r, mem9) → MetX E d yn_Model_stands cd_Model_stands 5 none [rf 203, vi p1, vi p2, vi p3] mem r mem9)     : ∀ (n : Nat) (v4 : Int)  (mem : Mm), RO E (mt_Model_stands (d + 1)) (lp_Model_stands_97 kr0 p1 p2 p3  n v4 mem) 97 [(0, rf 203), (1, vi p1), (2, vi p2), (3, vi p3), (4, vi v4)] [] mem := by
  intro n
  induction n with
  | zero => intro v4  mem; exact RO_none
  | succ n ih => intro v4  mem; exact rb_Model_stands_97 kr0 p1 p2 p3 d hd0 Hkr0   (lp_Model_stands_97 kr0 p1 p2 p3  n)  ih v4  mem
def bo_Model_stands_34 (kr0 : Int → Int → Int → Mm → Res) (p1 : Int) (p2 : Int) (p3 : Int) (k34 : Int → Mm → Res) (v4 : Int) (mem : Mm) : Res := if v4 < p1 then (if 0 ≤ v4 ∧ v4 < 6 then if 0 ≤ v4 ∧ v4 < 6 then bn (mst mem 257 v4.toNat (mem 256 v4.toNat)) fun m3 => k34 (w32 (v4 + 1)) m3 else none else none) else (some (0, mem))
set_option maxHeartbeats 4000000 in
theorem rb_Model_stands_34 {E : EE} (kr0 : Int → Int → Int → Mm → Res) (p1 : Int) (p2 : Int) (p3 : Int) (d : Nat) (hd0 : 2 ≤ d) (Hkr0 : ∀ (p1 : Int) (p2 : Int) (p3 : Int)  (mem : Mm) (r : Int) (mem9 : Mm), kr0 p1 p2 p3 mem = some (r, mem9) → MetX E d yn_Model_stands cd_Model_stands 5 none [rf 203, vi p1, vi p2, vi p3] mem r mem9)   (k34 : Int → Mm → Res) (H34 : ∀ (v4 : Int)  (mem : Mm), RO E (mt_Model_stands (d + 1)) (k34 v4 mem) 34 [(0, rf 203), (1, vi p1), (4, vi v4)] [] mem) (v4 : Int)  (mem : Mm) : RO E (mt_Model_stands (d + 1)) (bo_Model_stands_34 kr0 p1 p2 p3 k34 v4 mem) 34 [(0, rf 203), (1, vi p1), (4, vi v4)] [] mem := by
  unfold bo_Model_stands_34
  refine RO_iload dc_Model_stands_34 rfl ?_
  refine RO_iload_n dc_Model_stands_36 rfl rfl ?_
  refine RO_icmp_ge (tgt := 60) dc_Model_stands_37 rfl ?_ ?_
  · refine RO_aload_n dc_Model_stands_40 rfl rfl ?_
    refine RO_getR (b := 257) gf_Model_171 lk_203 rfl dc_Model_stands_41 ?_
    refine RO_iload dc_Model_stands_44 rfl ?_
    refine RO_aload_n dc_Model_stands_46 rfl rfl ?_
    refine RO_getR (b := 256) gf_Model_168 lk_203 rfl dc_Model_stands_47 ?_
    refine RO_iload dc_Model_stands_50 rfl ?_
    refine RO_chk (fun hi1 => ?_)
    refine RO_ia lk_256 hi1 dc_Model_stands_52 ?_
    refine RO_chk (fun hi2 => ?_)
    refine RO_is lk_257 hi2 dc_Model_stands_53 ?_
    refine RO_bnM (fun m3 => ?_)
    refine RO_iinc dc_Model_stands_54 rfl (Nat.le_of_ble_eq_true rfl) ?_
    refine RO_goto (tgt := 34) dc_Model_stands_57 rfl ?_
    exact RO_sub ⟨rfl, rfl, rfl, trivial⟩ (H34 (w32 (v4 + 1)) m3)
  · exact RO_vret rfl dc_Model_stands_60
def lp_Model_stands_34 (kr0 : Int → Int → Int → Mm → Res) (p1 : Int) (p2 : Int) (p3 : Int)  : Nat → Int → Mm → Res
  | 0 => fun _ _ => none
  | n + 1 => bo_Model_stands_34 kr0 p1 p2 p3  (lp_Model_stands_34 kr0 p1 p2 p3  n)
theorem rp_Model_stands_34 {E : EE} (kr0 : Int → Int → Int → Mm → Res) (p1 : Int) (p2 : Int) (p3 : Int) (d : Nat) (hd0 : 2 ≤ d) (Hkr0 : ∀ (p1 : Int) (p2 : Int) (p3 : Int)  (mem : Mm) (r : Int) (mem9 : Mm), kr0 p1 p2 p3 mem = some (r, mem9) → MetX E d yn_Model_stands cd_Model_stands 5 none [rf 203, vi p1, vi p2, vi p3] mem r mem9)     : ∀ (n : Nat) (v4 : Int)  (mem : Mm), RO E (mt_Model_stands (d + 1)) (lp_Model_stands_34 kr0 p1 p2 p3  n v4 mem) 34 [(0, rf 203), (1, vi p1), (4, vi v4)] [] mem := by
  intro n
  induction n with
  | zero => intro v4  mem; exact RO_none
  | succ n ih => intro v4  mem; exact rb_Model_stands_34 kr0 p1 p2 p3 d hd0 Hkr0   (lp_Model_stands_34 kr0 p1 p2 p3  n)  ih v4  mem
def bo_Model_stands_16 (kr0 : Int → Int → Int → Mm → Res) (p1 : Int) (p2 : Int) (p3 : Int)   (mem : Mm) : Res := if p1 = (mem 205 (2 : Int).toNat) then (bn (mst mem 203 68 p3) fun m1 => lp_Model_stands_34 kr0 p1 p2 p3 FU 0 m1) else (if 0 ≤ w32 (10 + p1) ∧ w32 (10 + p1) < 16 then bd (fn_Model_isAlive (mem 245 (w32 (10 + p1)).toNat) mem) fun r3 m4 => if r3 = 0 then (lp_Model_stands_97 kr0 p1 p2 p3 FU 0 m4) else (if 0 ≤ p1 ∧ p1 < 6 then bn (mst m4 256 p1.toNat (-1)) fun m6 => bd (kr0 (w32 (p1 + 1)) p2 p3 m6) fun r7 m8 => some (0, m8) else none) else none)
set_option maxHeartbeats 4000000 in
theorem rb_Model_stands_16 {E : EE} (kr0 : Int → Int → Int → Mm → Res) (p1 : Int) (p2 : Int) (p3 : Int) (d : Nat) (hd0 : 2 ≤ d) (Hkr0 : ∀ (p1 : Int) (p2 : Int) (p3 : Int)  (mem : Mm) (r : Int) (mem9 : Mm), kr0 p1 p2 p3 mem = some (r, mem9) → MetX E d yn_Model_stands cd_Model_stands 5 none [rf 203, vi p1, vi p2, vi p3] mem r mem9)       (mem : Mm) : RO E (mt_Model_stands (d + 1)) (bo_Model_stands_16 kr0 p1 p2 p3   mem) 16 [(0, rf 203), (1, vi p1), (2, vi p2), (3, vi p3)] [] mem := by
  unfold bo_Model_stands_16
  refine RO_iload_n dc_Model_stands_16 rfl rfl ?_
  refine RO_aload_n dc_Model_stands_17 rfl rfl ?_
  refine RO_getR (b := 205) gf_Model_13 lk_203 rfl dc_Model_stands_18 ?_
  refine RO_iconst dc_Model_stands_21 ?_
  refine RO_ia lk_205 ⟨by decide, by decide⟩ dc_Model_stands_22 ?_
  refine RO_icmp_ne (tgt := 61) dc_Model_stands_23 rfl ?_ ?_
  · refine RO_aload_n dc_Model_stands_26 rfl rfl ?_
    refine RO_iload_n dc_Model_stands_27 rfl rfl ?_
    refine RO_putI gp_Model_522 lk_203 dc_Model_stands_28 ?_
    refine RO_bnM (fun m1 => ?_)
    refine RO_iconst dc_Model_stands_31 ?_
    refine RO_istore dc_Model_stands_32 (Nat.le_of_ble_eq_true rfl) ?_
    exact RO_sub ⟨rfl, rfl, rfl, trivial⟩ (rp_Model_stands_34 kr0 p1 p2 p3 d hd0 Hkr0 FU 0 m1)
  · refine RO_aload_n dc_Model_stands_61 rfl rfl ?_
    refine RO_aload_n dc_Model_stands_62 rfl rfl ?_
    refine RO_getR (b := 245) gf_Model_135 lk_203 rfl dc_Model_stands_63 ?_
    refine RO_bipush dc_Model_stands_66 ?_
    refine RO_iload_n dc_Model_stands_68 rfl rfl ?_
    refine RO_iadd dc_Model_stands_69 ?_
    refine RO_chk (fun hi2 => ?_)
    refine RO_ia lk_245 hi2 dc_Model_stands_70 ?_
    refine RO_callVi (As := [vi (mem 245 (w32 (10 + p1)).toNat)]) (rest := []) mi_Model_isAlive mv_Model_isAlive ml_Model_489 lk_203 (by show _ < d + 1; omega) rfl (Nat.le_of_ble_eq_true rfl) (fun _ => rfl) dc_Model_stands_71 (fun r9 m9 h9 => pf_Model_isAlive (mem 245 (w32 (10 + p1)).toNat)  mem h9) (fun r3 m4 => ?_)
    refine RO_if_eq (tgt := 94) dc_Model_stands_74 rfl ?_ ?_
    · refine RO_iconst dc_Model_stands_94 ?_
      refine RO_istore dc_Model_stands_95 (Nat.le_of_ble_eq_true rfl) ?_
      exact RO_sub ⟨rfl, rfl, rfl, rfl, rfl, trivial⟩ (rp_Model_stands_97 kr0 p1 p2 p3 d hd0 Hkr0 FU 0 m4)
    · refine RO_aload_n dc_Model_stands_77 rfl rfl ?_
      refine RO_getR (b := 256) gf_Model_168 lk_203 rfl dc_Model_stands_78 ?_
      refine RO_iload_n dc_Model_stands_81 rfl rfl ?_
      refine RO_iconst dc_Model_stands_82 ?_
      refine RO_chk (fun hi5 => ?_)
      refine RO_is lk_256 hi5 dc_Model_stands_83 ?_
      refine RO_bnM (fun m6 => ?_)
      refine RO_aload_n dc_Model_stands_84 rfl rfl ?_
      refine RO_iload_n dc_Model_stands_85 rfl rfl ?_
      refine RO_iconst dc_Model_stands_86 ?_
      refine RO_iadd dc_Model_stands_87 ?_
      refine RO_iload_n dc_Model_stands_88 rfl rfl ?_
      refine RO_iload_n dc_Model_stands_89 rfl rfl ?_
      refine RO_callVv (As := [vi (w32 (p1 + 1)), vi p2, vi p3]) (rest := []) mi_Model_stands mv_Model_stands ml_Model_525 lk_203 (by show _ < d + 1; omega) rfl (Nat.le_of_ble_eq_true rfl) dc_Model_stands_90 (fun r9 m9 h9 => Hkr0 (w32 (p1 + 1)) p2 p3  m6 r9 m9 h9) (fun r7 m8 => ?_)
      exact RO_vret rfl dc_Model_stands_93
def bm_Model_stands (kr0 : Int → Int → Int → Mm → Res) (p1 : Int) (p2 : Int) (p3 : Int) (mem : Mm) : Res := if (mem 203 68) < 0 then (bo_Model_stands_16 kr0 p1 p2 p3 mem) else (if p3 < (mem 203 68) then (bo_Model_stands_16 kr0 p1 p2 p3 mem) else (some (0, mem)))
set_option maxHeartbeats 4000000 in
theorem pb_Model_stands {E : EE} (kr0 : Int → Int → Int → Mm → Res) (d : Nat) (hd0 : 2 ≤ d) (Hkr0 : ∀ (p1 : Int) (p2 : Int) (p3 : Int)  (mem : Mm) (r : Int) (mem9 : Mm), kr0 p1 p2 p3 mem = some (r, mem9) → MetX E d yn_Model_stands cd_Model_stands 5 none [rf 203, vi p1, vi p2, vi p3] mem r mem9)  (p1 : Int) (p2 : Int) (p3 : Int)  (mem : Mm) {r : Int} {mem9 : Mm} (h : bm_Model_stands kr0 p1 p2 p3 mem = some (r, mem9)) : MetX E (d + 1) yn_Model_stands cd_Model_stands 5 none [rf 203, vi p1, vi p2, vi p3] mem r mem9 := by
  refine RO_met (y := yn_Model_stands) (by decide +kernel) (Nat.le_of_ble_eq_true rfl) ?_ h
  show RO E (mt_Model_stands (d + 1)) (bm_Model_stands kr0 p1 p2 p3 mem) 0 [(0, rf 203), (1, vi p1), (2, vi p2), (3, vi p3)] [] mem
  unfold bm_Model_stands
  refine RO_aload_n dc_Model_stands_0 rfl rfl ?_
  refine RO_getI gf_Model_522 lk_203 dc_Model_stands_1 ?_
  refine RO_if_lt (tgt := 16) dc_Model_stands_4 rfl ?_ ?_
  · exact RO_sub ⟨rfl, rfl, rfl, rfl, trivial⟩ (rb_Model_stands_16 kr0 p1 p2 p3 d hd0 Hkr0 mem)
  · refine RO_iload_n dc_Model_stands_7 rfl rfl ?_
    refine RO_aload_n dc_Model_stands_8 rfl rfl ?_
    refine RO_getI gf_Model_522 lk_203 dc_Model_stands_9 ?_
    refine RO_icmp_lt (tgt := 16) dc_Model_stands_12 rfl ?_ ?_
    · exact RO_sub ⟨rfl, rfl, rfl, rfl, trivial⟩ (rb_Model_stands_16 kr0 p1 p2 p3 d hd0 Hkr0 mem)
    · exact RO_vret rfl dc_Model_stands_15
def rc_Model_stands : Nat → (Int → Int → Int → Mm → Res)
  | 0 => ((fun _ _ _ _ => none))
  | n + 1 => (bm_Model_stands (rc_Model_stands n))
theorem rq_Model_stands {E : EE} : ∀ n : Nat, (∀ (p1 : Int) (p2 : Int) (p3 : Int)  (mem : Mm) (r : Int) (mem9 : Mm), (rc_Model_stands n) p1 p2 p3 mem = some (r, mem9) → MetX E (2 + n) yn_Model_stands cd_Model_stands 5 none [rf 203, vi p1, vi p2, vi p3] mem r mem9) := by
  intro n
  induction n with
  | zero => exact fun p1 p2 p3  mem r mem9 h9 => by cases h9
  | succ n ih => exact fun p1 p2 p3  mem r mem9 h9 => pb_Model_stands (rc_Model_stands n) (2 + n) (by omega) ih p1 p2 p3  mem h9
def fn_Model_stands (p1 : Int) (p2 : Int) (p3 : Int) (mem : Mm) : Res := (rc_Model_stands 8) p1 p2 p3 mem
theorem pf_Model_stands {E : EE} (p1 : Int) (p2 : Int) (p3 : Int)  (mem : Mm) {r : Int} {mem9 : Mm} (h : fn_Model_stands p1 p2 p3 mem = some (r, mem9)) : MetX E 10 yn_Model_stands cd_Model_stands 5 none [rf 203, vi p1, vi p2, vi p3] mem r mem9 := (rq_Model_stands 8) p1 p2 p3  mem r mem9 h
def bo_Model_deputies_21 (p1 : Int)   (mem : Mm) : Res := bd (fn_Model_laysDay  mem) fun r1 m2 => bn (mst m2 203 68 (-1)) fun m3 => bd (fn_Model_stands 0 0 0 m3) fun r4 m5 => if (m5 203 68) < 0 then (some ((-2), m5)) else (if p1 = (-1) then (some (m5 203 68, m5)) else (if 0 ≤ p1 ∧ p1 < 6 then some (m5 257 p1.toNat, m5) else none))
set_option maxHeartbeats 4000000 in
theorem rb_Model_deputies_21 {E : EE} (p1 : Int)      (mem : Mm) : RO E mt_Model_deputies (bo_Model_deputies_21 p1   mem) 21 [(0, rf 203), (1, vi p1)] [] mem := by
  unfold bo_Model_deputies_21
  refine RO_aload_n dc_Model_deputies_21 rfl rfl ?_
  refine RO_callVv (As := []) (rest := []) mi_Model_laysDay mv_Model_laysDay ml_Model_470 lk_203 (Nat.le_of_ble_eq_true rfl) rfl (Nat.le_of_ble_eq_true rfl) dc_Model_deputies_22 (fun r9 m9 h9 => pf_Model_laysDay   mem h9) (fun r1 m2 => ?_)
  refine RO_aload_n dc_Model_deputies_25 rfl rfl ?_
  refine RO_iconst dc_Model_deputies_26 ?_
  refine RO_putI gp_Model_522 lk_203 dc_Model_deputies_27 ?_
  refine RO_bnM (fun m3 => ?_)
  refine RO_aload_n dc_Model_deputies_30 rfl rfl ?_
  refine RO_iconst dc_Model_deputies_31 ?_
  refine RO_iconst dc_Model_deputies_32 ?_
  refine RO_iconst dc_Model_deputies_33 ?_
  refine RO_callVv (As := [vi 0, vi 0, vi 0]) (rest := []) mi_Model_stands mv_Model_stands ml_Model_525 lk_203 (Nat.le_of_ble_eq_true rfl) rfl (Nat.le_of_ble_eq_true rfl) dc_Model_deputies_34 (fun r9 m9 h9 => pf_Model_stands 0 0 0  m3 h9) (fun r4 m5 => ?_)
  refine RO_aload_n dc_Model_deputies_37 rfl rfl ?_
  refine RO_getI gf_Model_522 lk_203 dc_Model_deputies_38 ?_
  refine RO_if_ge (tgt := 47) dc_Model_deputies_41 rfl ?_ ?_
  · refine RO_bipush dc_Model_deputies_44 ?_
    exact RO_iret rfl dc_Model_deputies_46
  · refine RO_iload_n dc_Model_deputies_47 rfl rfl ?_
    refine RO_iconst dc_Model_deputies_48 ?_
    refine RO_icmp_ne (tgt := 59) dc_Model_deputies_49 rfl ?_ ?_
    · refine RO_aload_n dc_Model_deputies_52 rfl rfl ?_
      refine RO_getI gf_Model_522 lk_203 dc_Model_deputies_53 ?_
      refine RO_goto (tgt := 65) dc_Model_deputies_56 rfl ?_
      exact RO_iret rfl dc_Model_deputies_65
    · refine RO_aload_n dc_Model_deputies_59 rfl rfl ?_
      refine RO_getR (b := 257) gf_Model_171 lk_203 rfl dc_Model_deputies_60 ?_
      refine RO_iload_n dc_Model_deputies_63 rfl rfl ?_
      refine RO_chk (fun hi6 => ?_)
      refine RO_ia lk_257 hi6 dc_Model_deputies_64 ?_
      exact RO_iret rfl dc_Model_deputies_65
def fn_Model_deputies (p1 : Int) (mem : Mm) : Res := bn (mst mem 203 0 0) fun m1 => if p1 = (-1) then (bo_Model_deputies_21 p1 m1) else (bd (fn_Model_isHour p1 m1) fun r2 m3 => if r2 = 0 then (some ((-2), m3)) else (bo_Model_deputies_21 p1 m3))
set_option maxHeartbeats 4000000 in
theorem pf_Model_deputies {E : EE} (p1 : Int)  (mem : Mm) {r : Int} {mem9 : Mm} (h : fn_Model_deputies p1 mem = some (r, mem9)) : MetX E 11 yn_Model_deputies cd_Model_deputies 2 (some .int) [rf 203, vi p1] mem r mem9 := by
  refine RO_met (y := yn_Model_deputies) (by decide +kernel) (Nat.le_of_ble_eq_true rfl) ?_ h
  show RO E mt_Model_deputies (fn_Model_deputies p1 mem) 0 [(0, rf 203), (1, vi p1)] [] mem
  unfold fn_Model_deputies
  refine RO_aload_n dc_Model_deputies_0 rfl rfl ?_
  refine RO_iconst dc_Model_deputies_1 ?_
  refine RO_putI gp_Model_183 lk_203 dc_Model_deputies_2 ?_
  refine RO_bnM (fun m1 => ?_)
  refine RO_iload_n dc_Model_deputies_5 rfl rfl ?_
  refine RO_iconst dc_Model_deputies_6 ?_
  refine RO_icmp_eq (tgt := 21) dc_Model_deputies_7 rfl ?_ ?_
  · exact RO_sub ⟨rfl, rfl, trivial⟩ (rb_Model_deputies_21 p1 m1)
  · refine RO_aload_n dc_Model_deputies_10 rfl rfl ?_
    refine RO_iload_n dc_Model_deputies_11 rfl rfl ?_
    refine RO_callVi (As := [vi p1]) (rest := []) mi_Model_isHour mv_Model_isHour ml_Model_473 lk_203 (Nat.le_of_ble_eq_true rfl) rfl (Nat.le_of_ble_eq_true rfl) (fun _ => rfl) dc_Model_deputies_12 (fun r9 m9 h9 => pf_Model_isHour p1  m1 h9) (fun r2 m3 => ?_)
    refine RO_if_ne (tgt := 21) dc_Model_deputies_15 rfl ?_ ?_
    · refine RO_bipush dc_Model_deputies_18 ?_
      exact RO_iret rfl dc_Model_deputies_20
    · exact RO_sub ⟨rfl, rfl, trivial⟩ (rb_Model_deputies_21 p1 m3)
