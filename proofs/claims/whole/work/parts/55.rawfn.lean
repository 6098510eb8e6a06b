set_option maxRecDepth 100000 in
def fc_Tape_init (tN : Nat) (th : Nat) (mem : Mm) : Res := if ly_k (mN mem) = (14, 1000) ∧ mN mem < tN then bn (mnw mem (fun _ => 0)) fun m2 => if ly_k th = (7, 9) ∧ th < mN m2 then bn (mst m2 th 5 (((mN mem) : Nat) : Int)) fun m4 => if mN m4 = tN then some (0, m4) else none else none else none
set_option maxRecDepth 100000 in
set_option maxHeartbeats 4000000 in
theorem pc_Tape_init {E : EE} (tN : Nat) (th : Nat) (mem : Mm) {r : Int} {mem9 : Mm} (h : fc_Tape_init tN th mem = some (r, mem9)) : MetC E (mN mem) tN 1 yn_Tape_init cd_Tape_init 1 none [rf th] mem r mem9 := by
  refine RC_met (y := yn_Tape_init) (by decide +kernel) (Nat.le_of_ble_eq_true rfl) rfl ?_ h
  generalize mN mem = n0
  show RC E n0 tN "<init>" mt_R_Tape_init (fc_Tape_init tN th mem) 0 [(0, rf th)] [] mem
  unfold fc_Tape_init
  refine RC_aload_n dc_Tape_init_0 rfl rfl ?_
  refine RC_objInit xoi_Tape_3 xoi1 xoi2 (Nat.le_of_ble_eq_true rfl) (Nat.le_of_ble_eq_true rfl) dc_Tape_init_1 ?_
  refine RC_aload_n dc_Tape_init_4 rfl rfl ?_
  refine RC_sipush dc_Tape_init_5 ?_
  refine RC_chk (fun h1 => ?_)
  refine RC_newaC (n := 1000) rfl (by decide) h1.1 h1.2 xar_C dc_Tape_init_8 ?_
  refine RC_bnM (fun m2 => ?_)
  refine RC_chk (fun h3 => ?_)
  refine RC_putR gf_Tape_9 (by decide) (Or.inr ⟨rfl, rfl, rfl⟩) rfl (Or.inr ⟨_, rfl⟩) h3.1 h3.2 dc_Tape_init_10 ?_
  refine RC_bnM (fun m4 => ?_)
  refine RC_chk (fun h5 => ?_)
  exact RC_vret rfl h5 dc_Tape_init_13
set_option maxRecDepth 100000 in
def fc_HillsReader_init (tN : Nat) (th : Nat) (p1 : Nat) (mem : Mm) : Res := if ly_k th = (1, 3) ∧ th < mN mem then bn (mst mem th 0 ((p1 : Nat) : Int)) fun m2 => if mN m2 = tN then some (0, m2) else none else none
set_option maxRecDepth 100000 in
set_option maxHeartbeats 4000000 in
theorem pc_HillsReader_init {E : EE} (tN : Nat) (th : Nat) (p1 : Nat) (mem : Mm) {r : Int} {mem9 : Mm} (h : fc_HillsReader_init tN th p1 mem = some (r, mem9)) : MetC E (mN mem) tN 1 yn_HillsReader_init cd_HillsReader_init 2 none [rf th, rf p1] mem r mem9 := by
  refine RC_met (y := yn_HillsReader_init) (by decide +kernel) (Nat.le_of_ble_eq_true rfl) rfl ?_ h
  generalize mN mem = n0
  show RC E n0 tN "<init>" mt_R_HillsReader_init (fc_HillsReader_init tN th p1 mem) 0 [(0, rf th), (1, rf p1)] [] mem
  unfold fc_HillsReader_init
  refine RC_aload_n dc_HillsReader_init_0 rfl rfl ?_
  refine RC_objInit xoi_HillsReader_3 xoi1 xoi2 (Nat.le_of_ble_eq_true rfl) (Nat.le_of_ble_eq_true rfl) dc_HillsReader_init_1 ?_
  refine RC_aload_n dc_HillsReader_init_4 rfl rfl ?_
  refine RC_aload_n dc_HillsReader_init_5 rfl rfl ?_
  refine RC_chk (fun h1 => ?_)
  refine RC_putR gf_HillsReader_9 (by decide) (Or.inr ⟨rfl, rfl, rfl⟩) rfl (Or.inl ⟨_, rfl⟩) h1.1 h1.2 dc_HillsReader_init_6 ?_
  refine RC_bnM (fun m2 => ?_)
  refine RC_chk (fun h3 => ?_)
  exact RC_vret rfl h3 dc_HillsReader_init_9
set_option maxRecDepth 100000 in
def fc_Law_init (tN : Nat) (th : Nat) (mem : Mm) : Res := if ly_k (mN mem) = (12, 1000) ∧ mN mem < tN then bn (mnw mem (fun _ => 0)) fun m2 => if ly_k th = (2, 4) ∧ th < mN m2 then bn (mst m2 th 0 (((mN mem) : Nat) : Int)) fun m4 => if ly_k (mN m4) = (12, 64) ∧ mN m4 < tN then bn (mnw m4 (fun _ => 0)) fun m6 => if ly_k th = (2, 4) ∧ th < mN m6 then bn (mst m6 th 1 (((mN m4) : Nat) : Int)) fun m8 => if mN m8 = tN then some (0, m8) else none else none else none else none else none
set_option maxRecDepth 100000 in
set_option maxHeartbeats 4000000 in
theorem pc_Law_init {E : EE} (tN : Nat) (th : Nat) (mem : Mm) {r : Int} {mem9 : Mm} (h : fc_Law_init tN th mem = some (r, mem9)) : MetC E (mN mem) tN 1 yn_Law_init cd_Law_init 1 none [rf th] mem r mem9 := by
  refine RC_met (y := yn_Law_init) (by decide +kernel) (Nat.le_of_ble_eq_true rfl) rfl ?_ h
  generalize mN mem = n0
  show RC E n0 tN "<init>" mt_R_Law_init (fc_Law_init tN th mem) 0 [(0, rf th)] [] mem
  unfold fc_Law_init
  refine RC_aload_n dc_Law_init_0 rfl rfl ?_
  refine RC_objInit xoi_Law_3 xoi1 xoi2 (Nat.le_of_ble_eq_true rfl) (Nat.le_of_ble_eq_true rfl) dc_Law_init_1 ?_
  refine RC_aload_n dc_Law_init_4 rfl rfl ?_
  refine RC_sipush dc_Law_init_5 ?_
  refine RC_chk (fun h1 => ?_)
  refine RC_newaI (n := 1000) rfl (by decide) h1.1 h1.2 xar_I dc_Law_init_8 ?_
  refine RC_bnM (fun m2 => ?_)
  refine RC_chk (fun h3 => ?_)
  refine RC_putR gf_Law_9 (by decide) (Or.inr ⟨rfl, rfl, rfl⟩) rfl (Or.inr ⟨_, rfl⟩) h3.1 h3.2 dc_Law_init_10 ?_
  refine RC_bnM (fun m4 => ?_)
  refine RC_aload_n dc_Law_init_13 rfl rfl ?_
  refine RC_bipush dc_Law_init_14 ?_
  refine RC_chk (fun h5 => ?_)
  refine RC_newaI (n := 64) rfl (by decide) h5.1 h5.2 xar_I dc_Law_init_16 ?_
  refine RC_bnM (fun m6 => ?_)
  refine RC_chk (fun h7 => ?_)
  refine RC_putR gf_Law_15 (by decide) (Or.inr ⟨rfl, rfl, rfl⟩) rfl (Or.inr ⟨_, rfl⟩) h7.1 h7.2 dc_Law_init_18 ?_
  refine RC_bnM (fun m8 => ?_)
  refine RC_chk (fun h9 => ?_)
  exact RC_vret rfl h9 dc_Law_init_21
set_option maxRecDepth 100000 in
def fc_Walker_init (tN : Nat) (th : Nat) (mem : Mm) : Res := if ly_k (mN mem) = (12, 4) ∧ mN mem < tN then bn (mnw mem (fun _ => 0)) fun m2 => if ly_k th = (9, 8) ∧ th < mN m2 then bn (mst m2 th 5 (((mN mem) : Nat) : Int)) fun m4 => if ly_k (mN m4) = (12, 6) ∧ mN m4 < tN then bn (mnw m4 (fun _ => 0)) fun m6 => if ly_k th = (9, 8) ∧ th < mN m6 then bn (mst m6 th 6 (((mN m4) : Nat) : Int)) fun m8 => if ly_k (mN m8) = (12, 6) ∧ mN m8 < tN then bn (mnw m8 (fun _ => 0)) fun m10 => if ly_k th = (9, 8) ∧ th < mN m10 then bn (mst m10 th 7 (((mN m8) : Nat) : Int)) fun m12 => if mN m12 = tN then some (0, m12) else none else none else none else none else none else none else none
set_option maxRecDepth 100000 in
set_option maxHeartbeats 4000000 in
theorem pc_Walker_init {E : EE} (tN : Nat) (th : Nat) (mem : Mm) {r : Int} {mem9 : Mm} (h : fc_Walker_init tN th mem = some (r, mem9)) : MetC E (mN mem) tN 1 yn_Walker_init cd_Walker_init 1 none [rf th] mem r mem9 := by
  refine RC_met (y := yn_Walker_init) (by decide +kernel) (Nat.le_of_ble_eq_true rfl) rfl ?_ h
  generalize mN mem = n0
  show RC E n0 tN "<init>" mt_R_Walker_init (fc_Walker_init tN th mem) 0 [(0, rf th)] [] mem
  unfold fc_Walker_init
  refine RC_aload_n dc_Walker_init_0 rfl rfl ?_
  refine RC_objInit xoi_Walker_3 xoi1 xoi2 (Nat.le_of_ble_eq_true rfl) (Nat.le_of_ble_eq_true rfl) dc_Walker_init_1 ?_
  refine RC_aload_n dc_Walker_init_4 rfl rfl ?_
  refine RC_iconst dc_Walker_init_5 ?_
  refine RC_chk (fun h1 => ?_)
  refine RC_newaI (n := 4) rfl (by decide) h1.1 h1.2 xar_I dc_Walker_init_6 ?_
  refine RC_bnM (fun m2 => ?_)
  refine RC_chk (fun h3 => ?_)
  refine RC_putR gf_Walker_9 (by decide) (Or.inr ⟨rfl, rfl, rfl⟩) rfl (Or.inr ⟨_, rfl⟩) h3.1 h3.2 dc_Walker_init_8 ?_
  refine RC_bnM (fun m4 => ?_)
  refine RC_aload_n dc_Walker_init_11 rfl rfl ?_
  refine RC_bipush dc_Walker_init_12 ?_
  refine RC_chk (fun h5 => ?_)
  refine RC_newaI (n := 6) rfl (by decide) h5.1 h5.2 xar_I dc_Walker_init_14 ?_
  refine RC_bnM (fun m6 => ?_)
  refine RC_chk (fun h7 => ?_)
  refine RC_putR gf_Walker_15 (by decide) (Or.inr ⟨rfl, rfl, rfl⟩) rfl (Or.inr ⟨_, rfl⟩) h7.1 h7.2 dc_Walker_init_16 ?_
  refine RC_bnM (fun m8 => ?_)
  refine RC_aload_n dc_Walker_init_19 rfl rfl ?_
  refine RC_bipush dc_Walker_init_20 ?_
  refine RC_chk (fun h9 => ?_)
  refine RC_newaI (n := 6) rfl (by decide) h9.1 h9.2 xar_I dc_Walker_init_22 ?_
  refine RC_bnM (fun m10 => ?_)
  refine RC_chk (fun h11 => ?_)
  refine RC_putR gf_Walker_18 (by decide) (Or.inr ⟨rfl, rfl, rfl⟩) rfl (Or.inr ⟨_, rfl⟩) h11.1 h11.2 dc_Walker_init_24 ?_
  refine RC_bnM (fun m12 => ?_)
  refine RC_chk (fun h13 => ?_)
  exact RC_vret rfl h13 dc_Walker_init_27
set_option maxRecDepth 100000 in
def fc_Lines_init (tN : Nat) (th : Nat) (mem : Mm) : Res := if ly_k (mN mem) = (12, 30) ∧ mN mem < tN then bn (mnw mem (fun _ => 0)) fun m2 => if ly_k th = (3, 4) ∧ th < mN m2 then bn (mst m2 th 1 (((mN mem) : Nat) : Int)) fun m4 => if ly_k (mN m4) = (12, 30) ∧ mN m4 < tN then bn (mnw m4 (fun _ => 0)) fun m6 => if ly_k th = (3, 4) ∧ th < mN m6 then bn (mst m6 th 2 (((mN m4) : Nat) : Int)) fun m8 => if ly_k (mN m8) = (12, 30) ∧ mN m8 < tN then bn (mnw m8 (fun _ => 0)) fun m10 => if ly_k th = (3, 4) ∧ th < mN m10 then bn (mst m10 th 3 (((mN m8) : Nat) : Int)) fun m12 => if mN m12 = tN then some (0, m12) else none else none else none else none else none else none else none
set_option maxRecDepth 100000 in
set_option maxHeartbeats 4000000 in
theorem pc_Lines_init {E : EE} (tN : Nat) (th : Nat) (mem : Mm) {r : Int} {mem9 : Mm} (h : fc_Lines_init tN th mem = some (r, mem9)) : MetC E (mN mem) tN 1 yn_Lines_init cd_Lines_init 1 none [rf th] mem r mem9 := by
  refine RC_met (y := yn_Lines_init) (by decide +kernel) (Nat.le_of_ble_eq_true rfl) rfl ?_ h
  generalize mN mem = n0
  show RC E n0 tN "<init>" mt_R_Lines_init (fc_Lines_init tN th mem) 0 [(0, rf th)] [] mem
  unfold fc_Lines_init
  refine RC_aload_n dc_Lines_init_0 rfl rfl ?_
  refine RC_objInit xoi_Lines_3 xoi1 xoi2 (Nat.le_of_ble_eq_true rfl) (Nat.le_of_ble_eq_true rfl) dc_Lines_init_1 ?_
  refine RC_aload_n dc_Lines_init_4 rfl rfl ?_
  refine RC_bipush dc_Lines_init_5 ?_
  refine RC_chk (fun h1 => ?_)
  refine RC_newaI (n := 30) rfl (by decide) h1.1 h1.2 xar_I dc_Lines_init_7 ?_
  refine RC_bnM (fun m2 => ?_)
  refine RC_chk (fun h3 => ?_)
  refine RC_putR gf_Lines_9 (by decide) (Or.inr ⟨rfl, rfl, rfl⟩) rfl (Or.inr ⟨_, rfl⟩) h3.1 h3.2 dc_Lines_init_9 ?_
  refine RC_bnM (fun m4 => ?_)
  refine RC_aload_n dc_Lines_init_12 rfl rfl ?_
  refine RC_bipush dc_Lines_init_13 ?_
  refine RC_chk (fun h5 => ?_)
  refine RC_newaI (n := 30) rfl (by decide) h5.1 h5.2 xar_I dc_Lines_init_15 ?_
  refine RC_bnM (fun m6 => ?_)
  refine RC_chk (fun h7 => ?_)
  refine RC_putR gf_Lines_15 (by decide) (Or.inr ⟨rfl, rfl, rfl⟩) rfl (Or.inr ⟨_, rfl⟩) h7.1 h7.2 dc_Lines_init_17 ?_
  refine RC_bnM (fun m8 => ?_)
  refine RC_aload_n dc_Lines_init_20 rfl rfl ?_
  refine RC_bipush dc_Lines_init_21 ?_
  refine RC_chk (fun h9 => ?_)
  refine RC_newaI (n := 30) rfl (by decide) h9.1 h9.2 xar_I dc_Lines_init_23 ?_
  refine RC_bnM (fun m10 => ?_)
  refine RC_chk (fun h11 => ?_)
  refine RC_putR gf_Lines_18 (by decide) (Or.inr ⟨rfl, rfl, rfl⟩) rfl (Or.inr ⟨_, rfl⟩) h11.1 h11.2 dc_Lines_init_25 ?_
  refine RC_bnM (fun m12 => ?_)
  refine RC_chk (fun h13 => ?_)
  exact RC_vret rfl h13 dc_Lines_init_28
set_option maxRecDepth 100000 in
def fc_State_init (tN : Nat) (th : Nat) (mem : Mm) : Res := if ly_k (mN mem) = (12, 6) ∧ mN mem < tN then bn (mnw mem (fun _ => 0)) fun m2 => if ly_k th = (6, 6) ∧ th < mN m2 then bn (mst m2 th 4 (((mN mem) : Nat) : Int)) fun m4 => if ly_k (mN m4) = (12, 6) ∧ mN m4 < tN then bn (mnw m4 (fun _ => 0)) fun m6 => if ly_k th = (6, 6) ∧ th < mN m6 then bn (mst m6 th 5 (((mN m4) : Nat) : Int)) fun m8 => if mN m8 = tN then some (0, m8) else none else none else none else none else none
set_option maxRecDepth 100000 in
set_option maxHeartbeats 4000000 in
theorem pc_State_init {E : EE} (tN : Nat) (th : Nat) (mem : Mm) {r : Int} {mem9 : Mm} (h : fc_State_init tN th mem = some (r, mem9)) : MetC E (mN mem) tN 1 yn_State_init cd_State_init 1 none [rf th] mem r mem9 := by
  refine RC_met (y := yn_State_init) (by decide +kernel) (Nat.le_of_ble_eq_true rfl) rfl ?_ h
  generalize mN mem = n0
  show RC E n0 tN "<init>" mt_R_State_init (fc_State_init tN th mem) 0 [(0, rf th)] [] mem
  unfold fc_State_init
  refine RC_aload_n dc_State_init_0 rfl rfl ?_
  refine RC_objInit xoi_State_3 xoi1 xoi2 (Nat.le_of_ble_eq_true rfl) (Nat.le_of_ble_eq_true rfl) dc_State_init_1 ?_
  refine RC_aload_n dc_State_init_4 rfl rfl ?_
  refine RC_bipush dc_State_init_5 ?_
  refine RC_chk (fun h1 => ?_)
  refine RC_newaI (n := 6) rfl (by decide) h1.1 h1.2 xar_I dc_State_init_7 ?_
  refine RC_bnM (fun m2 => ?_)
  refine RC_chk (fun h3 => ?_)
  refine RC_putR gf_State_9 (by decide) (Or.inr ⟨rfl, rfl, rfl⟩) rfl (Or.inr ⟨_, rfl⟩) h3.1 h3.2 dc_State_init_9 ?_
  refine RC_bnM (fun m4 => ?_)
  refine RC_aload_n dc_State_init_12 rfl rfl ?_
  refine RC_bipush dc_State_init_13 ?_
  refine RC_chk (fun h5 => ?_)
  refine RC_newaI (n := 6) rfl (by decide) h5.1 h5.2 xar_I dc_State_init_15 ?_
  refine RC_bnM (fun m6 => ?_)
  refine RC_chk (fun h7 => ?_)
  refine RC_putR gf_State_15 (by decide) (Or.inr ⟨rfl, rfl, rfl⟩) rfl (Or.inr ⟨_, rfl⟩) h7.1 h7.2 dc_State_init_17 ?_
  refine RC_bnM (fun m8 => ?_)
  refine RC_chk (fun h9 => ?_)
  exact RC_vret rfl h9 dc_State_init_20
set_option maxRecDepth 100000 in
def fc_Walk_init (tN : Nat) (th : Nat) (mem : Mm) : Res := if ly_k (mN mem) = (12, 6) ∧ mN mem < tN then bn (mnw mem (fun _ => 0)) fun m2 => if ly_k th = (8, 8) ∧ th < mN m2 then bn (mst m2 th 2 (((mN mem) : Nat) : Int)) fun m4 => if ly_k (mN m4) = (12, 24) ∧ mN m4 < tN then bn (mnw m4 (fun _ => 0)) fun m6 => if ly_k th = (8, 8) ∧ th < mN m6 then bn (mst m6 th 3 (((mN m4) : Nat) : Int)) fun m8 => if ly_k (mN m8) = (12, 24) ∧ mN m8 < tN then bn (mnw m8 (fun _ => 0)) fun m10 => if ly_k th = (8, 8) ∧ th < mN m10 then bn (mst m10 th 4 (((mN m8) : Nat) : Int)) fun m12 => if ly_k (mN m12) = (12, 24) ∧ mN m12 < tN then bn (mnw m12 (fun _ => 0)) fun m14 => if ly_k th = (8, 8) ∧ th < mN m14 then bn (mst m14 th 5 (((mN m12) : Nat) : Int)) fun m16 => if ly_k (mN m16) = (12, 6) ∧ mN m16 < tN then bn (mnw m16 (fun _ => 0)) fun m18 => if ly_k th = (8, 8) ∧ th < mN m18 then bn (mst m18 th 6 (((mN m16) : Nat) : Int)) fun m20 => if mN m20 = tN then some (0, m20) else none else none else none else none else none else none else none else none else none else none else none
set_option maxRecDepth 100000 in
set_option maxHeartbeats 4000000 in
theorem pc_Walk_init {E : EE} (tN : Nat) (th : Nat) (mem : Mm) {r : Int} {mem9 : Mm} (h : fc_Walk_init tN th mem = some (r, mem9)) : MetC E (mN mem) tN 1 yn_Walk_init cd_Walk_init 1 none [rf th] mem r mem9 := by
  refine RC_met (y := yn_Walk_init) (by decide +kernel) (Nat.le_of_ble_eq_true rfl) rfl ?_ h
  generalize mN mem = n0
  show RC E n0 tN "<init>" mt_R_Walk_init (fc_Walk_init tN th mem) 0 [(0, rf th)] [] mem
  unfold fc_Walk_init
  refine RC_aload_n dc_Walk_init_0 rfl rfl ?_
  refine RC_objInit xoi_Walk_3 xoi1 xoi2 (Nat.le_of_ble_eq_true rfl) (Nat.le_of_ble_eq_true rfl) dc_Walk_init_1 ?_
  refine RC_aload_n dc_Walk_init_4 rfl rfl ?_
  refine RC_bipush dc_Walk_init_5 ?_
  refine RC_chk (fun h1 => ?_)
  refine RC_newaI (n := 6) rfl (by decide) h1.1 h1.2 xar_I dc_Walk_init_7 ?_
  refine RC_bnM (fun m2 => ?_)
  refine RC_chk (fun h3 => ?_)
  refine RC_putR gf_Walk_9 (by decide) (Or.inr ⟨rfl, rfl, rfl⟩) rfl (Or.inr ⟨_, rfl⟩) h3.1 h3.2 dc_Walk_init_9 ?_
  refine RC_bnM (fun m4 => ?_)
  refine RC_aload_n dc_Walk_init_12 rfl rfl ?_
  refine RC_bipush dc_Walk_init_13 ?_
  refine RC_chk (fun h5 => ?_)
  refine RC_newaI (n := 24) rfl (by decide) h5.1 h5.2 xar_I dc_Walk_init_15 ?_
  refine RC_bnM (fun m6 => ?_)
  refine RC_chk (fun h7 => ?_)
  refine RC_putR gf_Walk_15 (by decide) (Or.inr ⟨rfl, rfl, rfl⟩) rfl (Or.inr ⟨_, rfl⟩) h7.1 h7.2 dc_Walk_init_17 ?_
  refine RC_bnM (fun m8 => ?_)
  refine RC_aload_n dc_Walk_init_20 rfl rfl ?_
  refine RC_bipush dc_Walk_init_21 ?_
  refine RC_chk (fun h9 => ?_)
  refine RC_newaI (n := 24) rfl (by decide) h9.1 h9.2 xar_I dc_Walk_init_23 ?_
  refine RC_bnM (fun m10 => ?_)
  refine RC_chk (fun h11 => ?_)
  refine RC_putR gf_Walk_18 (by decide) (Or.inr ⟨rfl, rfl, rfl⟩) rfl (Or.inr ⟨_, rfl⟩) h11.1 h11.2 dc_Walk_init_25 ?_
  refine RC_bnM (fun m12 => ?_)
  refine RC_aload_n dc_Walk_init_28 rfl rfl ?_
  refine RC_bipush dc_Walk_init_29 ?_
  refine RC_chk (fun h13 => ?_)
  refine RC_newaI (n := 24) rfl (by decide) h13.1 h13.2 xar_I dc_Walk_init_31 ?_
  refine RC_bnM (fun m14 => ?_)
  refine RC_chk (fun h15 => ?_)
  refine RC_putR gf_Walk_21 (by decide) (Or.inr ⟨rfl, rfl, rfl⟩) rfl (Or.inr ⟨_, rfl⟩) h15.1 h15.2 dc_Walk_init_33 ?_
  refine RC_bnM (fun m16 => ?_)
  refine RC_aload_n dc_Walk_init_36 rfl rfl ?_
  refine RC_bipush dc_Walk_init_37 ?_
  refine RC_chk (fun h17 => ?_)
  refine RC_newaI (n := 6) rfl (by decide) h17.1 h17.2 xar_I dc_Walk_init_39 ?_
  refine RC_bnM (fun m18 => ?_)
  refine RC_chk (fun h19 => ?_)
  refine RC_putR gf_Walk_24 (by decide) (Or.inr ⟨rfl, rfl, rfl⟩) rfl (Or.inr ⟨_, rfl⟩) h19.1 h19.2 dc_Walk_init_41 ?_
  refine RC_bnM (fun m20 => ?_)
  refine RC_chk (fun h21 => ?_)
  exact RC_vret rfl h21 dc_Walk_init_44
set_option maxRecDepth 100000 in
def fc_Sight_init (tN : Nat) (th : Nat) (mem : Mm) : Res := if ly_k (mN mem) = (12, 1440) ∧ mN mem < tN then bn (mnw mem (fun _ => 0)) fun m2 => if ly_k th = (4, 2) ∧ th < mN m2 then bn (mst m2 th 0 (((mN mem) : Nat) : Int)) fun m4 => if ly_k (mN m4) = (13, 1440) ∧ mN m4 < tN then bn (mnw m4 (fun _ => 0)) fun m6 => if ly_k th = (4, 2) ∧ th < mN m6 then bn (mst m6 th 1 (((mN m4) : Nat) : Int)) fun m8 => if mN m8 = tN then some (0, m8) else none else none else none else none else none
set_option maxRecDepth 100000 in
set_option maxHeartbeats 4000000 in
theorem pc_Sight_init {E : EE} (tN : Nat) (th : Nat) (mem : Mm) {r : Int} {mem9 : Mm} (h : fc_Sight_init tN th mem = some (r, mem9)) : MetC E (mN mem) tN 1 yn_Sight_init cd_Sight_init 1 none [rf th] mem r mem9 := by
  refine RC_met (y := yn_Sight_init) (by decide +kernel) (Nat.le_of_ble_eq_true rfl) rfl ?_ h
  generalize mN mem = n0
  show RC E n0 tN "<init>" mt_R_Sight_init (fc_Sight_init tN th mem) 0 [(0, rf th)] [] mem
  unfold fc_Sight_init
  refine RC_aload_n dc_Sight_init_0 rfl rfl ?_
  refine RC_objInit xoi_Sight_3 xoi1 xoi2 (Nat.le_of_ble_eq_true rfl) (Nat.le_of_ble_eq_true rfl) dc_Sight_init_1 ?_
  refine RC_aload_n dc_Sight_init_4 rfl rfl ?_
  refine RC_sipush dc_Sight_init_5 ?_
  refine RC_chk (fun h1 => ?_)
  refine RC_newaI (n := 1440) rfl (by decide) h1.1 h1.2 xar_I dc_Sight_init_8 ?_
  refine RC_bnM (fun m2 => ?_)
  refine RC_chk (fun h3 => ?_)
  refine RC_putR gf_Sight_9 (by decide) (Or.inr ⟨rfl, rfl, rfl⟩) rfl (Or.inr ⟨_, rfl⟩) h3.1 h3.2 dc_Sight_init_10 ?_
  refine RC_bnM (fun m4 => ?_)
  refine RC_aload_n dc_Sight_init_13 rfl rfl ?_
  refine RC_sipush dc_Sight_init_14 ?_
  refine RC_chk (fun h5 => ?_)
  refine RC_newaJ (n := 1440) rfl (by decide) h5.1 h5.2 xar_J dc_Sight_init_17 ?_
  refine RC_bnM (fun m6 => ?_)
  refine RC_chk (fun h7 => ?_)
  refine RC_putR gf_Sight_15 (by decide) (Or.inr ⟨rfl, rfl, rfl⟩) rfl (Or.inr ⟨_, rfl⟩) h7.1 h7.2 dc_Sight_init_19 ?_
  refine RC_bnM (fun m8 => ?_)
  refine RC_chk (fun h9 => ?_)
  exact RC_vret rfl h9 dc_Sight_init_22
def xo_Arrays_fillI_5 (tN : Nat) (p0 : Nat) (p1 : Int) (k5 : Int → Int → Mm → Res) (v2 : Int) (v3 : Int) (mem : Mm) : Res := if v2 < v3 then (if (ly_k p0).1 = 12 ∧ p0 < mN mem ∧ 0 ≤ v2 ∧ v2 < ((ly_k p0).2 : Int) then bn (mst mem p0 v2.toNat p1) fun m2 => k5 (w32 (v2 + 1)) v3 m2 else none) else (if mN mem = tN then some (0, mem) else none)
set_option maxHeartbeats 4000000 in
theorem xb_Arrays_fillI_5 {E : EE} (n0 : Nat) (tN : Nat) (p0 : Nat) (p1 : Int) (k5 : Int → Int → Mm → Res) (H5 : ∀ (v2 : Int) (v3 : Int) (mem : Mm), RC E n0 tN "fill" mt_R_Arrays_fillI (k5 v2 v3 mem) 5 [(0, rf p0), (1, vi p1), (2, vi v2), (3, vi v3)] [] mem) (v2 : Int) (v3 : Int) (mem : Mm) : RC E n0 tN "fill" mt_R_Arrays_fillI (xo_Arrays_fillI_5 tN p0 p1 k5 v2 v3 mem) 5 [(0, rf p0), (1, vi p1), (2, vi v2), (3, vi v3)] [] mem := by
  unfold xo_Arrays_fillI_5
  refine RC_iload_n dc_Arrays_fillI_5 rfl rfl ?_
  refine RC_iload_n dc_Arrays_fillI_6 rfl rfl ?_
  refine RC_icmp_ge (tgt := 20) dc_Arrays_fillI_7 rfl ?_ ?_
  · refine RC_aload_n dc_Arrays_fillI_10 rfl rfl ?_
    refine RC_iload_n dc_Arrays_fillI_11 rfl rfl ?_
    refine RC_iload_n dc_Arrays_fillI_12 rfl rfl ?_
    refine RC_chk (fun h1 => ?_)
    refine RC_iast (Prod.ext h1.1 rfl) h1.2.1 h1.2.2 dc_Arrays_fillI_13 ?_
    refine RC_bnM (fun m2 => ?_)
    refine RC_iinc dc_Arrays_fillI_14 rfl (Nat.le_of_ble_eq_true rfl) ?_
    refine RC_goto (tgt := 5) dc_Arrays_fillI_17 rfl ?_
    refine RC_sub ?_ (H5 (w32 (v2 + 1)) v3 m2)
    exact ⟨rfl, rfl, rfl, rfl, trivial⟩
  · refine RC_chk (fun h3 => ?_)
    exact RC_vret rfl h3 dc_Arrays_fillI_20
def xp_Arrays_fillI_5 (tN : Nat) (p0 : Nat) (p1 : Int)  : Nat → Int → Int → Mm → Res
  | 0 => fun _ _ _ => none
  | n + 1 => xo_Arrays_fillI_5 tN p0 p1  (xp_Arrays_fillI_5 tN p0 p1  n)
theorem xq_Arrays_fillI_5 {E : EE} (n0 : Nat) (tN : Nat) (p0 : Nat) (p1 : Int)   : ∀ (n : Nat) (v2 : Int) (v3 : Int) (mem : Mm), RC E n0 tN "fill" mt_R_Arrays_fillI (xp_Arrays_fillI_5 tN p0 p1  n v2 v3 mem) 5 [(0, rf p0), (1, vi p1), (2, vi v2), (3, vi v3)] [] mem := by
  intro n
  induction n with
  | zero => intro v2 v3 mem; exact RC_none
  | succ n ih => intro v2 v3 mem; exact xb_Arrays_fillI_5 n0 tN p0 p1  (xp_Arrays_fillI_5 tN p0 p1  n)  ih v2 v3 mem
set_option maxRecDepth 100000 in
def fc_Arrays_fillI (tN : Nat) (p0 : Nat) (p1 : Int) (mem : Mm) : Res := if (ly_k p0).1 = 12 ∧ p0 < mN mem then xp_Arrays_fillI_5 tN p0 p1 FU 0 (((ly_k p0).2 : Int)) mem else none
set_option maxRecDepth 100000 in
set_option maxHeartbeats 4000000 in
theorem pc_Arrays_fillI {E : EE} (tN : Nat) (p0 : Nat) (p1 : Int) (mem : Mm) {r : Int} {mem9 : Mm} (h : fc_Arrays_fillI tN p0 p1 mem = some (r, mem9)) : MetC E (mN mem) tN 1 yn_Arrays_fillI cd_Arrays_fillI 4 none [rf p0, vi p1] mem r mem9 := by
  refine RC_met (y := yn_Arrays_fillI) (by decide +kernel) (Nat.le_of_ble_eq_true rfl) rfl ?_ h
  generalize mN mem = n0
  show RC E n0 tN "fill" mt_R_Arrays_fillI (fc_Arrays_fillI tN p0 p1 mem) 0 [(0, rf p0), (1, vi p1)] [] mem
  unfold fc_Arrays_fillI
  refine RC_iconst dc_Arrays_fillI_0 ?_
  refine RC_istore_n dc_Arrays_fillI_1 rfl (Nat.le_of_ble_eq_true rfl) ?_
  refine RC_aload_n dc_Arrays_fillI_2 rfl rfl ?_
  refine RC_chk (fun h1 => ?_)
  refine RC_alen (Prod.ext h1.1 rfl) h1.2 rfl dc_Arrays_fillI_3 ?_
  refine RC_istore_n dc_Arrays_fillI_4 rfl (Nat.le_of_ble_eq_true rfl) ?_
  refine RC_sub ?_ (xq_Arrays_fillI_5 n0 tN p0 p1 FU 0 (((ly_k p0).2 : Int)) mem)
  exact ⟨rfl, rfl, rfl, rfl, trivial⟩
set_option maxRecDepth 100000 in
def fc_Law_put (tN : Nat) (th : Nat) (p1 : Int) (mem : Mm) : Res := if ly_k th = (2, 4) ∧ th < mN mem then if ly_k th = (2, 4) ∧ th < mN mem ∧ 0 ≤ mem th 0 then if (ly_k (mem th 0).toNat).1 = 12 ∧ (mem th 0).toNat < mN mem then if (mem th 2) < (((ly_k (mem th 0).toNat).2 : Int)) then (if ly_k th = (2, 4) ∧ th < mN mem ∧ 0 ≤ mem th 0 then if ly_k th = (2, 4) ∧ th < mN mem then if (ly_k (mem th 0).toNat).1 = 12 ∧ (mem th 0).toNat < mN mem ∧ 0 ≤ (mem th 2) ∧ (mem th 2) < ((ly_k (mem th 0).toNat).2 : Int) then bn (mst mem (mem th 0).toNat (mem th 2).toNat p1) fun m7 => if ly_k th = (2, 4) ∧ th < mN m7 then if ly_k th = (2, 4) ∧ th < mN m7 then bn (mst m7 th 2 (w32 ((m7 th 2) + 1))) fun m10 => if mN m10 = tN then some (0, m10) else none else none else none else none else none else none) else (if mN mem = tN then some (0, mem) else none) else none else none else none
set_option maxRecDepth 100000 in
set_option maxHeartbeats 4000000 in
theorem pc_Law_put {E : EE} (tN : Nat) (th : Nat) (p1 : Int) (mem : Mm) {r : Int} {mem9 : Mm} (h : fc_Law_put tN th p1 mem = some (r, mem9)) : MetC E (mN mem) tN 1 yn_Law_put cd_Law_put 2 none [rf th, vi p1] mem r mem9 := by
  refine RC_met (y := yn_Law_put) (by decide +kernel) (Nat.le_of_ble_eq_true rfl) rfl ?_ h
  generalize mN mem = n0
  show RC E n0 tN "put" mt_R_Law_put (fc_Law_put tN th p1 mem) 0 [(0, rf th), (1, vi p1)] [] mem
  unfold fc_Law_put
  refine RC_aload_n dc_Law_put_0 rfl rfl ?_
  refine RC_chk (fun h1 => ?_)
  refine RC_getI gf_Law_18 h1.1 h1.2 dc_Law_put_1 ?_
  refine RC_aload_n dc_Law_put_4 rfl rfl ?_
  refine RC_chk (fun h2 => ?_)
  refine RC_getR gf_Law_9 (by decide) h2.1 h2.2.1 h2.2.2 dc_Law_put_5 ?_
  refine RC_chk (fun h3 => ?_)
  refine RC_alen (Prod.ext h3.1 rfl) h3.2 rfl dc_Law_put_8 ?_
  refine RC_icmp_ge (tgt := 32) dc_Law_put_9 rfl ?_ ?_
  · refine RC_aload_n dc_Law_put_12 rfl rfl ?_
    refine RC_chk (fun h4 => ?_)
    refine RC_getR gf_Law_9 (by decide) h4.1 h4.2.1 h4.2.2 dc_Law_put_13 ?_
    refine RC_aload_n dc_Law_put_16 rfl rfl ?_
    refine RC_chk (fun h5 => ?_)
    refine RC_getI gf_Law_18 h5.1 h5.2 dc_Law_put_17 ?_
    refine RC_iload_n dc_Law_put_20 rfl rfl ?_
    refine RC_chk (fun h6 => ?_)
    refine RC_iast (Prod.ext h6.1 rfl) h6.2.1 h6.2.2 dc_Law_put_21 ?_
    refine RC_bnM (fun m7 => ?_)
    refine RC_aload_n dc_Law_put_22 rfl rfl ?_
    refine RC_dup dc_Law_put_23 (nt2 _) ?_
    refine RC_chk (fun h8 => ?_)
    refine RC_getI gf_Law_18 h8.1 h8.2 dc_Law_put_24 ?_
    refine RC_iconst dc_Law_put_27 ?_
    refine RC_iadd dc_Law_put_28 ?_
    refine RC_chk (fun h9 => ?_)
    refine RC_putI gf_Law_18 rfl rfl h9.1 h9.2 dc_Law_put_29 ?_
    refine RC_bnM (fun m10 => ?_)
    refine RC_chk (fun h11 => ?_)
    exact RC_vret rfl h11 dc_Law_put_32
  · refine RC_chk (fun h12 => ?_)
    exact RC_vret rfl h12 dc_Law_put_32
set_option maxRecDepth 100000 in
def fc_Law_begin (tN : Nat) (th : Nat) (mem : Mm) : Res := if ly_k th = (2, 4) ∧ th < mN mem then bn (mst mem th 2 0) fun m2 => if (mN m2 + 0) ≤ tN ∧ ly_k th = (2, 4) ∧ th < mN m2 then bd (fc_Law_put (mN m2 + 0) th (-2) m2) fun r3 m4 => if mN m4 = tN then some (0, m4) else none else none else none
set_option maxRecDepth 100000 in
set_option maxHeartbeats 4000000 in
theorem pc_Law_begin {E : EE} (tN : Nat) (th : Nat) (mem : Mm) {r : Int} {mem9 : Mm} (h : fc_Law_begin tN th mem = some (r, mem9)) : MetC E (mN mem) tN 2 yn_Law_begin cd_Law_begin 1 none [rf th] mem r mem9 := by
  refine RC_met (y := yn_Law_begin) (by decide +kernel) (Nat.le_of_ble_eq_true rfl) rfl ?_ h
  generalize mN mem = n0
  show RC E n0 tN "begin" mt_R_Law_begin (fc_Law_begin tN th mem) 0 [(0, rf th)] [] mem
  unfold fc_Law_begin
  refine RC_aload_n dc_Law_begin_0 rfl rfl ?_
  refine RC_iconst dc_Law_begin_1 ?_
  refine RC_chk (fun h1 => ?_)
  refine RC_putI gf_Law_18 rfl rfl h1.1 h1.2 dc_Law_begin_2 ?_
  refine RC_bnM (fun m2 => ?_)
  refine RC_aload_n dc_Law_begin_5 rfl rfl ?_
  refine RC_bipush dc_Law_begin_6 ?_
  refine RC_chk (fun h5 => ?_)
  refine RC_callV (As := [vi (-2)]) (rest := []) (t1 := (mN m2 + 0)) ymi_Law_put mv_Law_put yml_Law_22 h5.2.1 h5.2.2 (by omega) h5.1 (Nat.le_of_ble_eq_true rfl) rfl (Nat.le_of_ble_eq_true rfl) dc_Law_begin_8 (fun rq mq hq => pc_Law_put (mN m2 + 0) th (-2) m2 hq) (fun r3 m4 => ?_)
  refine RC_chk (fun h6 => ?_)
  exact RC_vret rfl h6 dc_Law_begin_11
set_option maxRecDepth 100000 in
def fc_Hills_begin (tN : Nat) (th : Nat) (mem : Mm) : Res := if ly_k th = (0, 15) ∧ th < mN mem then bn (mst mem th 0 0) fun m2 => if ly_k th = (0, 15) ∧ th < mN m2 then bn (mst m2 th 1 0) fun m4 => if ly_k th = (0, 15) ∧ th < mN m4 then bn (mst m4 th 2 0) fun m6 => if ly_k th = (0, 15) ∧ th < mN m6 then bn (mst m6 th 3 0) fun m8 => if ly_k th = (0, 15) ∧ th < mN m8 then bn (mst m8 th 4 0) fun m10 => if ly_k th = (0, 15) ∧ th < mN m10 ∧ 0 ≤ m10 th 8 then if (mN m10 + 0) ≤ tN then bd (fc_Arrays_fillI (mN m10 + 0) (m10 th 8).toNat 0 m10) fun r12 m13 => if ly_k th = (0, 15) ∧ th < mN m13 ∧ 0 ≤ m13 th 14 then if (mN m13 + 0) ≤ tN ∧ ly_k (m13 th 14).toNat = (2, 4) ∧ (m13 th 14).toNat < mN m13 then bd (fc_Law_begin (mN m13 + 0) (m13 th 14).toNat m13) fun r16 m17 => if mN m17 = tN then some (0, m17) else none else none else none else none else none else none else none else none else none else none
set_option maxRecDepth 100000 in
set_option maxHeartbeats 4000000 in
theorem pc_Hills_begin {E : EE} (tN : Nat) (th : Nat) (mem : Mm) {r : Int} {mem9 : Mm} (h : fc_Hills_begin tN th mem = some (r, mem9)) : MetC E (mN mem) tN 3 yn_Hills_begin cd_Hills_begin 1 none [rf th] mem r mem9 := by
  refine RC_met (y := yn_Hills_begin) (by decide +kernel) (Nat.le_of_ble_eq_true rfl) rfl ?_ h
  generalize mN mem = n0
  show RC E n0 tN "begin" mt_R_Hills_begin (fc_Hills_begin tN th mem) 0 [(0, rf th)] [] mem
  unfold fc_Hills_begin
  refine RC_aload_n dc_Hills_begin_0 rfl rfl ?_
  refine RC_iconst dc_Hills_begin_1 ?_
  refine RC_chk (fun h1 => ?_)
  refine RC_putI gf_Hills_54 rfl rfl h1.1 h1.2 dc_Hills_begin_2 ?_
  refine RC_bnM (fun m2 => ?_)
  refine RC_aload_n dc_Hills_begin_5 rfl rfl ?_
  refine RC_iconst dc_Hills_begin_6 ?_
  refine RC_chk (fun h3 => ?_)
  refine RC_putI gf_Hills_58 rfl rfl h3.1 h3.2 dc_Hills_begin_7 ?_
  refine RC_bnM (fun m4 => ?_)
  refine RC_aload_n dc_Hills_begin_10 rfl rfl ?_
  refine RC_iconst dc_Hills_begin_11 ?_
  refine RC_chk (fun h5 => ?_)
  refine RC_putI gf_Hills_61 rfl rfl h5.1 h5.2 dc_Hills_begin_12 ?_
  refine RC_bnM (fun m6 => ?_)
  refine RC_aload_n dc_Hills_begin_15 rfl rfl ?_
  refine RC_iconst dc_Hills_begin_16 ?_
  refine RC_chk (fun h7 => ?_)
  refine RC_putI gf_Hills_64 rfl rfl h7.1 h7.2 dc_Hills_begin_17 ?_
  refine RC_bnM (fun m8 => ?_)
  refine RC_aload_n dc_Hills_begin_20 rfl rfl ?_
  refine RC_iconst dc_Hills_begin_21 ?_
  refine RC_chk (fun h9 => ?_)
  refine RC_putI gf_Hills_67 rfl rfl h9.1 h9.2 dc_Hills_begin_22 ?_
  refine RC_bnM (fun m10 => ?_)
  refine RC_aload_n dc_Hills_begin_25 rfl rfl ?_
  refine RC_chk (fun h11 => ?_)
  refine RC_getR gf_Hills_21 (by decide) h11.1 h11.2.1 h11.2.2 dc_Hills_begin_26 ?_
  refine RC_iconst dc_Hills_begin_29 ?_
  refine RC_chk (fun h14 => ?_)
  refine RC_callS (As := [rf (m10 th 8).toNat, vi 0]) (rest := []) (t1 := (mN m10 + 0)) ymi_Arrays_fillI ms_Arrays_fillI yml_Hills_70 (by omega) h14 (Nat.le_of_ble_eq_true rfl) rfl (Nat.le_of_ble_eq_true rfl) dc_Hills_begin_30 (fun rq mq hq => pc_Arrays_fillI (mN m10 + 0) (m10 th 8).toNat 0 m10 hq) (fun r12 m13 => ?_)
  refine RC_aload_n dc_Hills_begin_33 rfl rfl ?_
  refine RC_chk (fun h15 => ?_)
  refine RC_getR gf_Hills_46 (by decide) h15.1 h15.2.1 h15.2.2 dc_Hills_begin_34 ?_
  refine RC_chk (fun h18 => ?_)
  refine RC_callV (As := []) (rest := []) (t1 := (mN m13 + 0)) ymi_Law_begin mv_Law_begin yml_Hills_76 h18.2.1 h18.2.2 (by omega) h18.1 (Nat.le_of_ble_eq_true rfl) rfl (Nat.le_of_ble_eq_true rfl) dc_Hills_begin_37 (fun rq mq hq => pc_Law_begin (mN m13 + 0) (m13 th 14).toNat m13 hq) (fun r16 m17 => ?_)
  refine RC_chk (fun h19 => ?_)
  exact RC_vret rfl h19 dc_Hills_begin_40
def xo_Hills_init_115 (tN : Nat) (th : Nat)   (mem : Mm) : Res := if (mN mem + 0) ≤ tN ∧ ly_k th = (0, 15) ∧ th < mN mem then bd (fc_Hills_begin (mN mem + 0) th mem) fun r1 m2 => if mN m2 = tN then some (0, m2) else none else none
set_option maxHeartbeats 4000000 in
theorem xb_Hills_init_115 {E : EE} (n0 : Nat) (tN : Nat) (th : Nat)    (mem : Mm) : RC E n0 tN "<init>" mt_R_Hills_init (xo_Hills_init_115 tN th   mem) 115 [(0, rf th)] [] mem := by
  unfold xo_Hills_init_115
  refine RC_aload_n dc_Hills_init_115 rfl rfl ?_
  refine RC_chk (fun h3 => ?_)
  refine RC_callV (As := []) (rest := []) (t1 := (mN mem + 0)) ymi_Hills_begin mv_Hills_begin yml_Hills_51 h3.2.1 h3.2.2 (by omega) h3.1 (Nat.le_of_ble_eq_true rfl) rfl (Nat.le_of_ble_eq_true rfl) dc_Hills_init_116 (fun rq mq hq => pc_Hills_begin (mN mem + 0) th mem hq) (fun r1 m2 => ?_)
  refine RC_chk (fun h4 => ?_)
  exact RC_vret rfl h4 dc_Hills_init_119
def xo_Hills_init_90 (tN : Nat) (th : Nat) (k90 : Int → Mm → Res) (v1 : Int) (mem : Mm) : Res := if v1 < 6 then (if ly_k th = (0, 15) ∧ th < mN mem ∧ 0 ≤ mem th 10 then if ly_k (mN mem) = (9, 8) ∧ mN mem < tN then bn (mnw mem (dfO 9)) fun m3 => if (mN m3 + 3) ≤ tN then bd (fc_Walker_init (mN m3 + 3) (mN mem) m3) fun r4 m5 => if (ly_k (mem th 10).toNat).1 = 18 ∧ (mem th 10).toNat < mN m5 ∧ (ly_k (mN mem)).1 = 9 ∧ (mN mem) < mN m5 ∧ 0 ≤ v1 ∧ v1 < ((ly_k (mem th 10).toNat).2 : Int) then bn (mst m5 (mem th 10).toNat v1.toNat (((mN mem) : Nat) : Int)) fun m8 => k90 (w32 (v1 + 1)) m8 else none else none else none else none) else (xo_Hills_init_115 tN th mem)
set_option maxHeartbeats 4000000 in
theorem xb_Hills_init_90 {E : EE} (n0 : Nat) (tN : Nat) (th : Nat) (k90 : Int → Mm → Res) (H90 : ∀ (v1 : Int) (mem : Mm), RC E n0 tN "<init>" mt_R_Hills_init (k90 v1 mem) 90 [(0, rf th), (1, vi v1)] [] mem) (v1 : Int) (mem : Mm) : RC E n0 tN "<init>" mt_R_Hills_init (xo_Hills_init_90 tN th k90 v1 mem) 90 [(0, rf th), (1, vi v1)] [] mem := by
  unfold xo_Hills_init_90
  refine RC_iload_n dc_Hills_init_90 rfl rfl ?_
  refine RC_bipush dc_Hills_init_91 ?_
  refine RC_icmp_ge (tgt := 115) dc_Hills_init_93 rfl ?_ ?_
  · refine RC_aload_n dc_Hills_init_96 rfl rfl ?_
    refine RC_chk (fun h1 => ?_)
    refine RC_getR gf_Hills_30 (by decide) h1.1 h1.2.1 h1.2.2 dc_Hills_init_97 ?_
    refine RC_iload_n dc_Hills_init_100 rfl rfl ?_
    refine RC_chk (fun h2 => ?_)
    refine RC_new (ci := 9) (n := 8) (by decide) rfl h2.1 h2.2 xcl_Hills_28 xin_Walker xit_Walker dc_Hills_init_101 ?_
    refine RC_bnM (fun m3 => ?_)
    refine RC_dup dc_Hills_init_104 (nt2 _) ?_
    refine RC_chk (fun h6 => ?_)
    refine RC_callIN (As := []) (rest := [rf (mN mem), vi v1, rf (mem th 10).toNat]) (t1 := (mN m3 + 3)) ymi_Walker_init yin_Walker_init ymn_Hills_50 (by omega) h6 (Nat.le_of_ble_eq_true rfl) rfl (Nat.le_of_ble_eq_true rfl) dc_Hills_init_105 (fun rq mq hq => pc_Walker_init (mN m3 + 3) (mN mem) m3 hq) (fun r4 m5 => ?_)
    refine RC_chk (fun h7 => ?_)
    refine RC_aast (kd := 18) (ci := 9) (by decide) (Prod.ext h7.1 rfl) h7.2.1 (Prod.ext h7.2.2.1 rfl) h7.2.2.2.1 h7.2.2.2.2 dc_Hills_init_108 ?_
    refine RC_bnM (fun m8 => ?_)
    refine RC_iinc dc_Hills_init_109 rfl (Nat.le_of_ble_eq_true rfl) ?_
    refine RC_goto (tgt := 90) dc_Hills_init_112 rfl ?_
    refine RC_sub ?_ (H90 (w32 (v1 + 1)) m8)
    exact ⟨rfl, rfl, trivial⟩
  · refine RC_sub ?_ (xb_Hills_init_115 n0 tN th mem)
    exact ⟨rfl, trivial⟩
def xp_Hills_init_90 (tN : Nat) (th : Nat)  : Nat → Int → Mm → Res
  | 0 => fun _ _ => none
  | n + 1 => xo_Hills_init_90 tN th  (xp_Hills_init_90 tN th  n)
theorem xq_Hills_init_90 {E : EE} (n0 : Nat) (tN : Nat) (th : Nat)   : ∀ (n : Nat) (v1 : Int) (mem : Mm), RC E n0 tN "<init>" mt_R_Hills_init (xp_Hills_init_90 tN th  n v1 mem) 90 [(0, rf th), (1, vi v1)] [] mem := by
  intro n
  induction n with
  | zero => intro v1 mem; exact RC_none
  | succ n ih => intro v1 mem; exact xb_Hills_init_90 n0 tN th  (xp_Hills_init_90 tN th  n)  ih v1 mem
set_option maxRecDepth 100000 in
def fc_Hills_init (tN : Nat) (th : Nat) (mem : Mm) : Res := if ly_k (mN mem) = (13, 6) ∧ mN mem < tN then bn (mnw mem (fun _ => 0)) fun m2 => if ly_k th = (0, 15) ∧ th < mN m2 then bn (mst m2 th 5 (((mN mem) : Nat) : Int)) fun m4 => if ly_k (mN m4) = (13, 6) ∧ mN m4 < tN then bn (mnw m4 (fun _ => 0)) fun m6 => if ly_k th = (0, 15) ∧ th < mN m6 then bn (mst m6 th 6 (((mN m4) : Nat) : Int)) fun m8 => if ly_k (mN m8) = (13, 6) ∧ mN m8 < tN then bn (mnw m8 (fun _ => 0)) fun m10 => if ly_k th = (0, 15) ∧ th < mN m10 then bn (mst m10 th 7 (((mN m8) : Nat) : Int)) fun m12 => if ly_k (mN m12) = (12, 36) ∧ mN m12 < tN then bn (mnw m12 (fun _ => 0)) fun m14 => if ly_k th = (0, 15) ∧ th < mN m14 then bn (mst m14 th 8 (((mN m12) : Nat) : Int)) fun m16 => if ly_k (mN m16) = (12, 36) ∧ mN m16 < tN then bn (mnw m16 (fun _ => 0)) fun m18 => if ly_k th = (0, 15) ∧ th < mN m18 then bn (mst m18 th 9 (((mN m16) : Nat) : Int)) fun m20 => if ly_k (mN m20) = (18, 6) ∧ mN m20 < tN then bn (mnw m20 (fun _ => -1)) fun m22 => if ly_k th = (0, 15) ∧ th < mN m22 then bn (mst m22 th 10 (((mN m20) : Nat) : Int)) fun m24 => if ly_k (mN m24) = (12, 6) ∧ mN m24 < tN then bn (mnw m24 (fun _ => 0)) fun m26 => if ly_k th = (0, 15) ∧ th < mN m26 then bn (mst m26 th 11 (((mN m24) : Nat) : Int)) fun m28 => if ly_k (mN m28) = (12, 6) ∧ mN m28 < tN then bn (mnw m28 (fun _ => 0)) fun m30 => if ly_k th = (0, 15) ∧ th < mN m30 then bn (mst m30 th 12 (((mN m28) : Nat) : Int)) fun m32 => if ly_k (mN m32) = (12, 6) ∧ mN m32 < tN then bn (mnw m32 (fun _ => 0)) fun m34 => if ly_k th = (0, 15) ∧ th < mN m34 then bn (mst m34 th 13 (((mN m32) : Nat) : Int)) fun m36 => if ly_k (mN m36) = (2, 4) ∧ mN m36 < tN then bn (mnw m36 (dfO 2)) fun m38 => if (mN m38 + 2) ≤ tN then bd (fc_Law_init (mN m38 + 2) (mN m36) m38) fun r39 m40 => if ly_k th = (0, 15) ∧ th < mN m40 then bn (mst m40 th 14 (((mN m36) : Nat) : Int)) fun m43 => xp_Hills_init_90 tN th FU 0 m43 else none else none else none else none else none else none else none else none else none else none else none else none else none else none else none else none else none else none else none else none else none
set_option maxRecDepth 100000 in
set_option maxHeartbeats 4000000 in
theorem pc_Hills_init {E : EE} (tN : Nat) (th : Nat) (mem : Mm) {r : Int} {mem9 : Mm} (h : fc_Hills_init tN th mem = some (r, mem9)) : MetC E (mN mem) tN 4 yn_Hills_init cd_Hills_init 2 none [rf th] mem r mem9 := by
  refine RC_met (y := yn_Hills_init) (by decide +kernel) (Nat.le_of_ble_eq_true rfl) rfl ?_ h
  generalize mN mem = n0
  show RC E n0 tN "<init>" mt_R_Hills_init (fc_Hills_init tN th mem) 0 [(0, rf th)] [] mem
  unfold fc_Hills_init
  refine RC_aload_n dc_Hills_init_0 rfl rfl ?_
  refine RC_objInit xoi_Hills_3 xoi1 xoi2 (Nat.le_of_ble_eq_true rfl) (Nat.le_of_ble_eq_true rfl) dc_Hills_init_1 ?_
  refine RC_aload_n dc_Hills_init_4 rfl rfl ?_
  refine RC_bipush dc_Hills_init_5 ?_
  refine RC_chk (fun h1 => ?_)
  refine RC_newaJ (n := 6) rfl (by decide) h1.1 h1.2 xar_J dc_Hills_init_7 ?_
  refine RC_bnM (fun m2 => ?_)
  refine RC_chk (fun h3 => ?_)
  refine RC_putR gf_Hills_9 (by decide) (Or.inr ⟨rfl, rfl, rfl⟩) rfl (Or.inr ⟨_, rfl⟩) h3.1 h3.2 dc_Hills_init_9 ?_
  refine RC_bnM (fun m4 => ?_)
  refine RC_aload_n dc_Hills_init_12 rfl rfl ?_
  refine RC_bipush dc_Hills_init_13 ?_
  refine RC_chk (fun h5 => ?_)
  refine RC_newaJ (n := 6) rfl (by decide) h5.1 h5.2 xar_J dc_Hills_init_15 ?_
  refine RC_bnM (fun m6 => ?_)
  refine RC_chk (fun h7 => ?_)
  refine RC_putR gf_Hills_15 (by decide) (Or.inr ⟨rfl, rfl, rfl⟩) rfl (Or.inr ⟨_, rfl⟩) h7.1 h7.2 dc_Hills_init_17 ?_
  refine RC_bnM (fun m8 => ?_)
  refine RC_aload_n dc_Hills_init_20 rfl rfl ?_
  refine RC_bipush dc_Hills_init_21 ?_
  refine RC_chk (fun h9 => ?_)
  refine RC_newaJ (n := 6) rfl (by decide) h9.1 h9.2 xar_J dc_Hills_init_23 ?_
  refine RC_bnM (fun m10 => ?_)
  refine RC_chk (fun h11 => ?_)
  refine RC_putR gf_Hills_18 (by decide) (Or.inr ⟨rfl, rfl, rfl⟩) rfl (Or.inr ⟨_, rfl⟩) h11.1 h11.2 dc_Hills_init_25 ?_
  refine RC_bnM (fun m12 => ?_)
  refine RC_aload_n dc_Hills_init_28 rfl rfl ?_
  refine RC_bipush dc_Hills_init_29 ?_
  refine RC_chk (fun h13 => ?_)
  refine RC_newaI (n := 36) rfl (by decide) h13.1 h13.2 xar_I dc_Hills_init_31 ?_
  refine RC_bnM (fun m14 => ?_)
  refine RC_chk (fun h15 => ?_)
  refine RC_putR gf_Hills_21 (by decide) (Or.inr ⟨rfl, rfl, rfl⟩) rfl (Or.inr ⟨_, rfl⟩) h15.1 h15.2 dc_Hills_init_33 ?_
  refine RC_bnM (fun m16 => ?_)
  refine RC_aload_n dc_Hills_init_36 rfl rfl ?_
  refine RC_bipush dc_Hills_init_37 ?_
  refine RC_chk (fun h17 => ?_)
  refine RC_newaI (n := 36) rfl (by decide) h17.1 h17.2 xar_I dc_Hills_init_39 ?_
  refine RC_bnM (fun m18 => ?_)
  refine RC_chk (fun h19 => ?_)
  refine RC_putR gf_Hills_25 (by decide) (Or.inr ⟨rfl, rfl, rfl⟩) rfl (Or.inr ⟨_, rfl⟩) h19.1 h19.2 dc_Hills_init_41 ?_
  refine RC_bnM (fun m20 => ?_)
  refine RC_aload_n dc_Hills_init_44 rfl rfl ?_
  refine RC_bipush dc_Hills_init_45 ?_
  refine RC_chk (fun h21 => ?_)
  refine RC_anewW (n := 6) rfl (by decide) h21.1 h21.2 xcl_Hills_28 dc_Hills_init_47 ?_
  refine RC_bnM (fun m22 => ?_)
  refine RC_chk (fun h23 => ?_)
  refine RC_putR gf_Hills_30 (by decide) (Or.inr ⟨rfl, rfl, rfl⟩) rfl (Or.inr ⟨_, rfl⟩) h23.1 h23.2 dc_Hills_init_50 ?_
  refine RC_bnM (fun m24 => ?_)
  refine RC_aload_n dc_Hills_init_53 rfl rfl ?_
  refine RC_bipush dc_Hills_init_54 ?_
  refine RC_chk (fun h25 => ?_)
  refine RC_newaI (n := 6) rfl (by decide) h25.1 h25.2 xar_I dc_Hills_init_56 ?_
  refine RC_bnM (fun m26 => ?_)
  refine RC_chk (fun h27 => ?_)
  refine RC_putR gf_Hills_34 (by decide) (Or.inr ⟨rfl, rfl, rfl⟩) rfl (Or.inr ⟨_, rfl⟩) h27.1 h27.2 dc_Hills_init_58 ?_
  refine RC_bnM (fun m28 => ?_)
  refine RC_aload_n dc_Hills_init_61 rfl rfl ?_
  refine RC_bipush dc_Hills_init_62 ?_
  refine RC_chk (fun h29 => ?_)
  refine RC_newaI (n := 6) rfl (by decide) h29.1 h29.2 xar_I dc_Hills_init_64 ?_
  refine RC_bnM (fun m30 => ?_)
  refine RC_chk (fun h31 => ?_)
  refine RC_putR gf_Hills_37 (by decide) (Or.inr ⟨rfl, rfl, rfl⟩) rfl (Or.inr ⟨_, rfl⟩) h31.1 h31.2 dc_Hills_init_66 ?_
  refine RC_bnM (fun m32 => ?_)
  refine RC_aload_n dc_Hills_init_69 rfl rfl ?_
  refine RC_bipush dc_Hills_init_70 ?_
  refine RC_chk (fun h33 => ?_)
  refine RC_newaI (n := 6) rfl (by decide) h33.1 h33.2 xar_I dc_Hills_init_72 ?_
  refine RC_bnM (fun m34 => ?_)
  refine RC_chk (fun h35 => ?_)
  refine RC_putR gf_Hills_40 (by decide) (Or.inr ⟨rfl, rfl, rfl⟩) rfl (Or.inr ⟨_, rfl⟩) h35.1 h35.2 dc_Hills_init_74 ?_
  refine RC_bnM (fun m36 => ?_)
  refine RC_aload_n dc_Hills_init_77 rfl rfl ?_
  refine RC_chk (fun h37 => ?_)
  refine RC_new (ci := 2) (n := 4) (by decide) rfl h37.1 h37.2 xcl_Hills_43 xin_Law xit_Law dc_Hills_init_78 ?_
  refine RC_bnM (fun m38 => ?_)
  refine RC_dup dc_Hills_init_81 (nt2 _) ?_
  refine RC_chk (fun h41 => ?_)
  refine RC_callIN (As := []) (rest := [rf (mN m36), rf th]) (t1 := (mN m38 + 2)) ymi_Law_init yin_Law_init ymn_Hills_45 (by omega) h41 (Nat.le_of_ble_eq_true rfl) rfl (Nat.le_of_ble_eq_true rfl) dc_Hills_init_82 (fun rq mq hq => pc_Law_init (mN m38 + 2) (mN m36) m38 hq) (fun r39 m40 => ?_)
  refine RC_chk (fun h42 => ?_)
  refine RC_putR gf_Hills_46 (by decide) (Or.inr ⟨rfl, rfl, rfl⟩) rfl (Or.inl ⟨_, rfl⟩) h42.1 h42.2 dc_Hills_init_85 ?_
  refine RC_bnM (fun m43 => ?_)
  refine RC_iconst dc_Hills_init_88 ?_
  refine RC_istore_n dc_Hills_init_89 rfl (Nat.le_of_ble_eq_true rfl) ?_
  refine RC_sub ?_ (xq_Hills_init_90 n0 tN th FU 0 m43)
  exact ⟨rfl, rfl, trivial⟩
set_option maxRecDepth 100000 in
def fc_Standing_init (tN : Nat) (th : Nat) (mem : Mm) : Res := if ly_k (mN mem) = (6, 6) ∧ mN mem < tN then bn (mnw mem (dfO 6)) fun m2 => if (mN m2 + 2) ≤ tN then bd (fc_State_init (mN m2 + 2) (mN mem) m2) fun r3 m4 => if ly_k th = (5, 8) ∧ th < mN m4 then bn (mst m4 th 1 (((mN mem) : Nat) : Int)) fun m7 => if ly_k (mN m7) = (3, 4) ∧ mN m7 < tN then bn (mnw m7 (dfO 3)) fun m9 => if (mN m9 + 3) ≤ tN then bd (fc_Lines_init (mN m9 + 3) (mN m7) m9) fun r10 m11 => if ly_k th = (5, 8) ∧ th < mN m11 then bn (mst m11 th 2 (((mN m7) : Nat) : Int)) fun m14 => if ly_k (mN m14) = (12, 8) ∧ mN m14 < tN then bn (mnw m14 (fun _ => 0)) fun m16 => if ly_k th = (5, 8) ∧ th < mN m16 then bn (mst m16 th 4 (((mN m14) : Nat) : Int)) fun m18 => if ly_k (mN m18) = (12, 8) ∧ mN m18 < tN then bn (mnw m18 (fun _ => 0)) fun m20 => if ly_k th = (5, 8) ∧ th < mN m20 then bn (mst m20 th 5 (((mN m18) : Nat) : Int)) fun m22 => if ly_k (mN m22) = (12, 6) ∧ mN m22 < tN then bn (mnw m22 (fun _ => 0)) fun m24 => if ly_k th = (5, 8) ∧ th < mN m24 then bn (mst m24 th 7 (((mN m22) : Nat) : Int)) fun m26 => if mN m26 = tN then some (0, m26) else none else none else none else none else none else none else none else none else none else none else none else none else none
set_option maxRecDepth 100000 in
set_option maxHeartbeats 4000000 in
theorem pc_Standing_init {E : EE} (tN : Nat) (th : Nat) (mem : Mm) {r : Int} {mem9 : Mm} (h : fc_Standing_init tN th mem = some (r, mem9)) : MetC E (mN mem) tN 2 yn_Standing_init cd_Standing_init 1 none [rf th] mem r mem9 := by
  refine RC_met (y := yn_Standing_init) (by decide +kernel) (Nat.le_of_ble_eq_true rfl) rfl ?_ h
  generalize mN mem = n0
  show RC E n0 tN "<init>" mt_R_Standing_init (fc_Standing_init tN th mem) 0 [(0, rf th)] [] mem
  unfold fc_Standing_init
  refine RC_aload_n dc_Standing_init_0 rfl rfl ?_
  refine RC_objInit xoi_Standing_3 xoi1 xoi2 (Nat.le_of_ble_eq_true rfl) (Nat.le_of_ble_eq_true rfl) dc_Standing_init_1 ?_
  refine RC_aload_n dc_Standing_init_4 rfl rfl ?_
  refine RC_chk (fun h1 => ?_)
  refine RC_new (ci := 6) (n := 6) (by decide) rfl h1.1 h1.2 xcl_Standing_9 xin_State xit_State dc_Standing_init_5 ?_
  refine RC_bnM (fun m2 => ?_)
  refine RC_dup dc_Standing_init_8 (nt2 _) ?_
  refine RC_chk (fun h5 => ?_)
  refine RC_callIN (As := []) (rest := [rf (mN mem), rf th]) (t1 := (mN m2 + 2)) ymi_State_init yin_State_init ymn_Standing_11 (by omega) h5 (Nat.le_of_ble_eq_true rfl) rfl (Nat.le_of_ble_eq_true rfl) dc_Standing_init_9 (fun rq mq hq => pc_State_init (mN m2 + 2) (mN mem) m2 hq) (fun r3 m4 => ?_)
  refine RC_chk (fun h6 => ?_)
  refine RC_putR gf_Standing_12 (by decide) (Or.inr ⟨rfl, rfl, rfl⟩) rfl (Or.inl ⟨_, rfl⟩) h6.1 h6.2 dc_Standing_init_12 ?_
  refine RC_bnM (fun m7 => ?_)
  refine RC_aload_n dc_Standing_init_15 rfl rfl ?_
  refine RC_chk (fun h8 => ?_)
  refine RC_new (ci := 3) (n := 4) (by decide) rfl h8.1 h8.2 xcl_Standing_18 xin_Lines xit_Lines dc_Standing_init_16 ?_
  refine RC_bnM (fun m9 => ?_)
  refine RC_dup dc_Standing_init_19 (nt2 _) ?_
  refine RC_chk (fun h12 => ?_)
  refine RC_callIN (As := []) (rest := [rf (mN m7), rf th]) (t1 := (mN m9 + 3)) ymi_Lines_init yin_Lines_init ymn_Standing_20 (by omega) h12 (Nat.le_of_ble_eq_true rfl) rfl (Nat.le_of_ble_eq_true rfl) dc_Standing_init_20 (fun rq mq hq => pc_Lines_init (mN m9 + 3) (mN m7) m9 hq) (fun r10 m11 => ?_)
  refine RC_chk (fun h13 => ?_)
  refine RC_putR gf_Standing_21 (by decide) (Or.inr ⟨rfl, rfl, rfl⟩) rfl (Or.inl ⟨_, rfl⟩) h13.1 h13.2 dc_Standing_init_23 ?_
  refine RC_bnM (fun m14 => ?_)
  refine RC_aload_n dc_Standing_init_26 rfl rfl ?_
  refine RC_bipush dc_Standing_init_27 ?_
  refine RC_chk (fun h15 => ?_)
  refine RC_newaI (n := 8) rfl (by decide) h15.1 h15.2 xar_I dc_Standing_init_29 ?_
  refine RC_bnM (fun m16 => ?_)
  refine RC_chk (fun h17 => ?_)
  refine RC_putR gf_Standing_25 (by decide) (Or.inr ⟨rfl, rfl, rfl⟩) rfl (Or.inr ⟨_, rfl⟩) h17.1 h17.2 dc_Standing_init_31 ?_
  refine RC_bnM (fun m18 => ?_)
  refine RC_aload_n dc_Standing_init_34 rfl rfl ?_
  refine RC_bipush dc_Standing_init_35 ?_
  refine RC_chk (fun h19 => ?_)
  refine RC_newaI (n := 8) rfl (by decide) h19.1 h19.2 xar_I dc_Standing_init_37 ?_
  refine RC_bnM (fun m20 => ?_)
  refine RC_chk (fun h21 => ?_)
  refine RC_putR gf_Standing_29 (by decide) (Or.inr ⟨rfl, rfl, rfl⟩) rfl (Or.inr ⟨_, rfl⟩) h21.1 h21.2 dc_Standing_init_39 ?_
  refine RC_bnM (fun m22 => ?_)
  refine RC_aload_n dc_Standing_init_42 rfl rfl ?_
  refine RC_bipush dc_Standing_init_43 ?_
  refine RC_chk (fun h23 => ?_)
  refine RC_newaI (n := 6) rfl (by decide) h23.1 h23.2 xar_I dc_Standing_init_45 ?_
  refine RC_bnM (fun m24 => ?_)
  refine RC_chk (fun h25 => ?_)
  refine RC_putR gf_Standing_32 (by decide) (Or.inr ⟨rfl, rfl, rfl⟩) rfl (Or.inr ⟨_, rfl⟩) h25.1 h25.2 dc_Standing_init_47 ?_
  refine RC_bnM (fun m26 => ?_)
  refine RC_chk (fun h27 => ?_)
  exact RC_vret rfl h27 dc_Standing_init_50
def xo_Clock_init_184 (tN : Nat) (th : Nat) (k184 : Int → Mm → Res) (v1 : Int) (mem : Mm) : Res := if v1 < 16 then (if ly_k th = (10, 19) ∧ th < mN mem ∧ 0 ≤ mem th 7 then if ly_k (mN mem) = (6, 6) ∧ mN mem < tN then bn (mnw mem (dfO 6)) fun m3 => if (mN m3 + 2) ≤ tN then bd (fc_State_init (mN m3 + 2) (mN mem) m3) fun r4 m5 => if (ly_k (mem th 7).toNat).1 = 17 ∧ (mem th 7).toNat < mN m5 ∧ (ly_k (mN mem)).1 = 6 ∧ (mN mem) < mN m5 ∧ 0 ≤ v1 ∧ v1 < ((ly_k (mem th 7).toNat).2 : Int) then bn (mst m5 (mem th 7).toNat v1.toNat (((mN mem) : Nat) : Int)) fun m8 => k184 (w32 (v1 + 1)) m8 else none else none else none else none) else (if mN mem = tN then some (0, mem) else none)
set_option maxHeartbeats 4000000 in
theorem xb_Clock_init_184 {E : EE} (n0 : Nat) (tN : Nat) (th : Nat) (k184 : Int → Mm → Res) (H184 : ∀ (v1 : Int) (mem : Mm), RC E n0 tN "<init>" mt_R_Clock_init (k184 v1 mem) 184 [(0, rf th), (1, vi v1)] [] mem) (v1 : Int) (mem : Mm) : RC E n0 tN "<init>" mt_R_Clock_init (xo_Clock_init_184 tN th k184 v1 mem) 184 [(0, rf th), (1, vi v1)] [] mem := by
  unfold xo_Clock_init_184
  refine RC_iload_n dc_Clock_init_184 rfl rfl ?_
  refine RC_bipush dc_Clock_init_185 ?_
  refine RC_icmp_ge (tgt := 209) dc_Clock_init_187 rfl ?_ ?_
  · refine RC_aload_n dc_Clock_init_190 rfl rfl ?_
    refine RC_chk (fun h1 => ?_)
    refine RC_getR gf_Clock_55 (by decide) h1.1 h1.2.1 h1.2.2 dc_Clock_init_191 ?_
    refine RC_iload_n dc_Clock_init_194 rfl rfl ?_
    refine RC_chk (fun h2 => ?_)
    refine RC_new (ci := 6) (n := 6) (by decide) rfl h2.1 h2.2 xcl_Clock_53 xin_State xit_State dc_Clock_init_195 ?_
    refine RC_bnM (fun m3 => ?_)
    refine RC_dup dc_Clock_init_198 (nt2 _) ?_
    refine RC_chk (fun h6 => ?_)
    refine RC_callIN (As := []) (rest := [rf (mN mem), vi v1, rf (mem th 7).toNat]) (t1 := (mN m3 + 2)) ymi_State_init yin_State_init ymn_Clock_59 (by omega) h6 (Nat.le_of_ble_eq_true rfl) rfl (Nat.le_of_ble_eq_true rfl) dc_Clock_init_199 (fun rq mq hq => pc_State_init (mN m3 + 2) (mN mem) m3 hq) (fun r4 m5 => ?_)
    refine RC_chk (fun h7 => ?_)
    refine RC_aast (kd := 17) (ci := 6) (by decide) (Prod.ext h7.1 rfl) h7.2.1 (Prod.ext h7.2.2.1 rfl) h7.2.2.2.1 h7.2.2.2.2 dc_Clock_init_202 ?_
    refine RC_bnM (fun m8 => ?_)
    refine RC_iinc dc_Clock_init_203 rfl (Nat.le_of_ble_eq_true rfl) ?_
    refine RC_goto (tgt := 184) dc_Clock_init_206 rfl ?_
    refine RC_sub ?_ (H184 (w32 (v1 + 1)) m8)
    exact ⟨rfl, rfl, trivial⟩
  · refine RC_chk (fun h9 => ?_)
    exact RC_vret rfl h9 dc_Clock_init_209
def xp_Clock_init_184 (tN : Nat) (th : Nat)  : Nat → Int → Mm → Res
  | 0 => fun _ _ => none
  | n + 1 => xo_Clock_init_184 tN th  (xp_Clock_init_184 tN th  n)
theorem xq_Clock_init_184 {E : EE} (n0 : Nat) (tN : Nat) (th : Nat)   : ∀ (n : Nat) (v1 : Int) (mem : Mm), RC E n0 tN "<init>" mt_R_Clock_init (xp_Clock_init_184 tN th  n v1 mem) 184 [(0, rf th), (1, vi v1)] [] mem := by
  intro n
  induction n with
  | zero => intro v1 mem; exact RC_none
  | succ n ih => intro v1 mem; exact xb_Clock_init_184 n0 tN th  (xp_Clock_init_184 tN th  n)  ih v1 mem
def xo_Clock_init_182 (tN : Nat) (th : Nat)   (mem : Mm) : Res := xp_Clock_init_184 tN th FU 0 mem
set_option maxHeartbeats 4000000 in
theorem xb_Clock_init_182 {E : EE} (n0 : Nat) (tN : Nat) (th : Nat)    (mem : Mm) : RC E n0 tN "<init>" mt_R_Clock_init (xo_Clock_init_182 tN th   mem) 182 [(0, rf th)] [] mem := by
  unfold xo_Clock_init_182
  refine RC_iconst dc_Clock_init_182 ?_
  refine RC_istore_n dc_Clock_init_183 rfl (Nat.le_of_ble_eq_true rfl) ?_
  refine RC_sub ?_ (xq_Clock_init_184 n0 tN th FU 0 mem)
  exact ⟨rfl, rfl, trivial⟩
def xo_Clock_init_158 (tN : Nat) (th : Nat) (k158 : Int → Mm → Res) (v1 : Int) (mem : Mm) : Res := if v1 < 4 then (if ly_k th = (10, 19) ∧ th < mN mem ∧ 0 ≤ mem th 6 then if ly_k (mN mem) = (5, 8) ∧ mN mem < tN then bn (mnw mem (dfO 5)) fun m3 => if (mN m3 + 10) ≤ tN then bd (fc_Standing_init (mN m3 + 10) (mN mem) m3) fun r4 m5 => if (ly_k (mem th 6).toNat).1 = 16 ∧ (mem th 6).toNat < mN m5 ∧ (ly_k (mN mem)).1 = 5 ∧ (mN mem) < mN m5 ∧ 0 ≤ v1 ∧ v1 < ((ly_k (mem th 6).toNat).2 : Int) then bn (mst m5 (mem th 6).toNat v1.toNat (((mN mem) : Nat) : Int)) fun m8 => k158 (w32 (v1 + 1)) m8 else none else none else none else none) else (xo_Clock_init_182 tN th mem)
set_option maxHeartbeats 4000000 in
theorem xb_Clock_init_158 {E : EE} (n0 : Nat) (tN : Nat) (th : Nat) (k158 : Int → Mm → Res) (H158 : ∀ (v1 : Int) (mem : Mm), RC E n0 tN "<init>" mt_R_Clock_init (k158 v1 mem) 158 [(0, rf th), (1, vi v1)] [] mem) (v1 : Int) (mem : Mm) : RC E n0 tN "<init>" mt_R_Clock_init (xo_Clock_init_158 tN th k158 v1 mem) 158 [(0, rf th), (1, vi v1)] [] mem := by
  unfold xo_Clock_init_158
  refine RC_iload_n dc_Clock_init_158 rfl rfl ?_
  refine RC_iconst dc_Clock_init_159 ?_
  refine RC_icmp_ge (tgt := 182) dc_Clock_init_160 rfl ?_ ?_
  · refine RC_aload_n dc_Clock_init_163 rfl rfl ?_
    refine RC_chk (fun h1 => ?_)
    refine RC_getR gf_Clock_49 (by decide) h1.1 h1.2.1 h1.2.2 dc_Clock_init_164 ?_
    refine RC_iload_n dc_Clock_init_167 rfl rfl ?_
    refine RC_chk (fun h2 => ?_)
    refine RC_new (ci := 5) (n := 8) (by decide) rfl h2.1 h2.2 xcl_Clock_42 xin_Standing xit_Standing dc_Clock_init_168 ?_
    refine RC_bnM (fun m3 => ?_)
    refine RC_dup dc_Clock_init_171 (nt2 _) ?_
    refine RC_chk (fun h6 => ?_)
    refine RC_callIN (As := []) (rest := [rf (mN mem), vi v1, rf (mem th 6).toNat]) (t1 := (mN m3 + 10)) ymi_Standing_init yin_Standing_init ymn_Clock_44 (by omega) h6 (Nat.le_of_ble_eq_true rfl) rfl (Nat.le_of_ble_eq_true rfl) dc_Clock_init_172 (fun rq mq hq => pc_Standing_init (mN m3 + 10) (mN mem) m3 hq) (fun r4 m5 => ?_)
    refine RC_chk (fun h7 => ?_)
    refine RC_aast (kd := 16) (ci := 5) (by decide) (Prod.ext h7.1 rfl) h7.2.1 (Prod.ext h7.2.2.1 rfl) h7.2.2.2.1 h7.2.2.2.2 dc_Clock_init_175 ?_
    refine RC_bnM (fun m8 => ?_)
    refine RC_iinc dc_Clock_init_176 rfl (Nat.le_of_ble_eq_true rfl) ?_
    refine RC_goto (tgt := 158) dc_Clock_init_179 rfl ?_
    refine RC_sub ?_ (H158 (w32 (v1 + 1)) m8)
    exact ⟨rfl, rfl, trivial⟩
  · refine RC_sub ?_ (xb_Clock_init_182 n0 tN th mem)
    exact ⟨rfl, trivial⟩
def xp_Clock_init_158 (tN : Nat) (th : Nat)  : Nat → Int → Mm → Res
  | 0 => fun _ _ => none
  | n + 1 => xo_Clock_init_158 tN th  (xp_Clock_init_158 tN th  n)
theorem xq_Clock_init_158 {E : EE} (n0 : Nat) (tN : Nat) (th : Nat)   : ∀ (n : Nat) (v1 : Int) (mem : Mm), RC E n0 tN "<init>" mt_R_Clock_init (xp_Clock_init_158 tN th  n v1 mem) 158 [(0, rf th), (1, vi v1)] [] mem := by
  intro n
  induction n with
  | zero => intro v1 mem; exact RC_none
  | succ n ih => intro v1 mem; exact xb_Clock_init_158 n0 tN th  (xp_Clock_init_158 tN th  n)  ih v1 mem
set_option maxRecDepth 100000 in
def fc_Clock_init (tN : Nat) (th : Nat) (mem : Mm) : Res := if ly_k (mN mem) = (7, 9) ∧ mN mem < tN then bn (mnw mem (dfO 7)) fun m2 => if (mN m2 + 1) ≤ tN then bd (fc_Tape_init (mN m2 + 1) (mN mem) m2) fun r3 m4 => if ly_k th = (10, 19) ∧ th < mN m4 then bn (mst m4 th 0 (((mN mem) : Nat) : Int)) fun m7 => if ly_k (mN m7) = (1, 3) ∧ mN m7 < tN then bn (mnw m7 (dfO 1)) fun m9 => if ly_k th = (10, 19) ∧ th < mN m9 ∧ 0 ≤ m9 th 0 then if (mN m9 + 0) ≤ tN then bd (fc_HillsReader_init (mN m9 + 0) (mN m7) (m9 th 0).toNat m9) fun r11 m12 => if ly_k th = (10, 19) ∧ th < mN m12 then bn (mst m12 th 1 (((mN m7) : Nat) : Int)) fun m15 => if ly_k (mN m15) = (0, 15) ∧ mN m15 < tN then bn (mnw m15 (dfO 0)) fun m17 => if (mN m17 + 36) ≤ tN then bd (fc_Hills_init (mN m17 + 36) (mN m15) m17) fun r18 m19 => if ly_k th = (10, 19) ∧ th < mN m19 then bn (mst m19 th 2 (((mN m15) : Nat) : Int)) fun m22 => if ly_k (mN m22) = (0, 15) ∧ mN m22 < tN then bn (mnw m22 (dfO 0)) fun m24 => if (mN m24 + 36) ≤ tN then bd (fc_Hills_init (mN m24 + 36) (mN m22) m24) fun r25 m26 => if ly_k th = (10, 19) ∧ th < mN m26 then bn (mst m26 th 3 (((mN m22) : Nat) : Int)) fun m29 => if ly_k (mN m29) = (3, 4) ∧ mN m29 < tN then bn (mnw m29 (dfO 3)) fun m31 => if (mN m31 + 3) ≤ tN then bd (fc_Lines_init (mN m31 + 3) (mN m29) m31) fun r32 m33 => if ly_k th = (10, 19) ∧ th < mN m33 then bn (mst m33 th 4 (((mN m29) : Nat) : Int)) fun m36 => if ly_k (mN m36) = (5, 8) ∧ mN m36 < tN then bn (mnw m36 (dfO 5)) fun m38 => if (mN m38 + 10) ≤ tN then bd (fc_Standing_init (mN m38 + 10) (mN m36) m38) fun r39 m40 => if ly_k th = (10, 19) ∧ th < mN m40 then bn (mst m40 th 5 (((mN m36) : Nat) : Int)) fun m43 => if ly_k (mN m43) = (16, 4) ∧ mN m43 < tN then bn (mnw m43 (fun _ => -1)) fun m45 => if ly_k th = (10, 19) ∧ th < mN m45 then bn (mst m45 th 6 (((mN m43) : Nat) : Int)) fun m47 => if ly_k (mN m47) = (17, 16) ∧ mN m47 < tN then bn (mnw m47 (fun _ => -1)) fun m49 => if ly_k th = (10, 19) ∧ th < mN m49 then bn (mst m49 th 7 (((mN m47) : Nat) : Int)) fun m51 => if ly_k (mN m51) = (6, 6) ∧ mN m51 < tN then bn (mnw m51 (dfO 6)) fun m53 => if (mN m53 + 2) ≤ tN then bd (fc_State_init (mN m53 + 2) (mN m51) m53) fun r54 m55 => if ly_k th = (10, 19) ∧ th < mN m55 then bn (mst m55 th 10 (((mN m51) : Nat) : Int)) fun m58 => if ly_k (mN m58) = (8, 8) ∧ mN m58 < tN then bn (mnw m58 (dfO 8)) fun m60 => if (mN m60 + 5) ≤ tN then bd (fc_Walk_init (mN m60 + 5) (mN m58) m60) fun r61 m62 => if ly_k th = (10, 19) ∧ th < mN m62 then bn (mst m62 th 11 (((mN m58) : Nat) : Int)) fun m65 => if ly_k (mN m65) = (4, 2) ∧ mN m65 < tN then bn (mnw m65 (dfO 4)) fun m67 => if (mN m67 + 2) ≤ tN then bd (fc_Sight_init (mN m67 + 2) (mN m65) m67) fun r68 m69 => if ly_k th = (10, 19) ∧ th < mN m69 then bn (mst m69 th 12 (((mN m65) : Nat) : Int)) fun m72 => if ly_k (mN m72) = (12, 64) ∧ mN m72 < tN then bn (mnw m72 (fun _ => 0)) fun m74 => if ly_k th = (10, 19) ∧ th < mN m74 then bn (mst m74 th 13 (((mN m72) : Nat) : Int)) fun m76 => if ly_k (mN m76) = (12, 6) ∧ mN m76 < tN then bn (mnw m76 (fun _ => 0)) fun m78 => if ly_k th = (10, 19) ∧ th < mN m78 then bn (mst m78 th 14 (((mN m76) : Nat) : Int)) fun m80 => if ly_k (mN m80) = (12, 6) ∧ mN m80 < tN then bn (mnw m80 (fun _ => 0)) fun m82 => if ly_k th = (10, 19) ∧ th < mN m82 then bn (mst m82 th 15 (((mN m80) : Nat) : Int)) fun m84 => if ly_k (mN m84) = (12, 6) ∧ mN m84 < tN then bn (mnw m84 (fun _ => 0)) fun m86 => if ly_k th = (10, 19) ∧ th < mN m86 then bn (mst m86 th 16 (((mN m84) : Nat) : Int)) fun m88 => xp_Clock_init_158 tN th FU 0 m88 else none else none else none else none else none else none else none else none else none else none else none else none else none else none else none else none else none else none else none else none else none else none else none else none else none else none else none else none else none else none else none else none else none else none else none else none else none else none else none else none
set_option maxRecDepth 100000 in
set_option maxHeartbeats 4000000 in
theorem pc_Clock_init {E : EE} (tN : Nat) (th : Nat) (mem : Mm) {r : Int} {mem9 : Mm} (h : fc_Clock_init tN th mem = some (r, mem9)) : MetC E (mN mem) tN 5 yn_Clock_init cd_Clock_init 2 none [rf th] mem r mem9 := by
  refine RC_met (y := yn_Clock_init) (by decide +kernel) (Nat.le_of_ble_eq_true rfl) rfl ?_ h
  generalize mN mem = n0
  show RC E n0 tN "<init>" mt_R_Clock_init (fc_Clock_init tN th mem) 0 [(0, rf th)] [] mem
  unfold fc_Clock_init
  refine RC_aload_n dc_Clock_init_0 rfl rfl ?_
  refine RC_objInit xoi_Clock_1 xoi1 xoi2 (Nat.le_of_ble_eq_true rfl) (Nat.le_of_ble_eq_true rfl) dc_Clock_init_1 ?_
  refine RC_aload_n dc_Clock_init_4 rfl rfl ?_
  refine RC_chk (fun h1 => ?_)
  refine RC_new (ci := 7) (n := 9) (by decide) rfl h1.1 h1.2 xcl_Clock_7 xin_Tape xit_Tape dc_Clock_init_5 ?_
  refine RC_bnM (fun m2 => ?_)
  refine RC_dup dc_Clock_init_8 (nt2 _) ?_
  refine RC_chk (fun h5 => ?_)
  refine RC_callIN (As := []) (rest := [rf (mN mem), rf th]) (t1 := (mN m2 + 1)) ymi_Tape_init yin_Tape_init ymn_Clock_9 (by omega) h5 (Nat.le_of_ble_eq_true rfl) rfl (Nat.le_of_ble_eq_true rfl) dc_Clock_init_9 (fun rq mq hq => pc_Tape_init (mN m2 + 1) (mN mem) m2 hq) (fun r3 m4 => ?_)
  refine RC_chk (fun h6 => ?_)
  refine RC_putR gf_Clock_10 (by decide) (Or.inr ⟨rfl, rfl, rfl⟩) rfl (Or.inl ⟨_, rfl⟩) h6.1 h6.2 dc_Clock_init_12 ?_
  refine RC_bnM (fun m7 => ?_)
  refine RC_aload_n dc_Clock_init_15 rfl rfl ?_
  refine RC_chk (fun h8 => ?_)
  refine RC_new (ci := 1) (n := 3) (by decide) rfl h8.1 h8.2 xcl_Clock_16 xin_HillsReader xit_HillsReader dc_Clock_init_16 ?_
  refine RC_bnM (fun m9 => ?_)
  refine RC_dup dc_Clock_init_19 (nt2 _) ?_
  refine RC_aload_n dc_Clock_init_20 rfl rfl ?_
  refine RC_chk (fun h10 => ?_)
  refine RC_getR gf_Clock_10 (by decide) h10.1 h10.2.1 h10.2.2 dc_Clock_init_21 ?_
  refine RC_chk (fun h13 => ?_)
  refine RC_callI (As := [rf (m9 th 0).toNat]) (rest := [rf (mN m7), rf th]) (t1 := (mN m9 + 0)) ymi_HillsReader_init yin_HillsReader_init yml_Clock_18 (by omega) h13 (Nat.le_of_ble_eq_true rfl) rfl (Nat.le_of_ble_eq_true rfl) dc_Clock_init_24 (fun rq mq hq => pc_HillsReader_init (mN m9 + 0) (mN m7) (m9 th 0).toNat m9 hq) (fun r11 m12 => ?_)
  refine RC_chk (fun h14 => ?_)
  refine RC_putR gf_Clock_21 (by decide) (Or.inr ⟨rfl, rfl, rfl⟩) rfl (Or.inl ⟨_, rfl⟩) h14.1 h14.2 dc_Clock_init_27 ?_
  refine RC_bnM (fun m15 => ?_)
  refine RC_aload_n dc_Clock_init_30 rfl rfl ?_
  refine RC_chk (fun h16 => ?_)
  refine RC_new (ci := 0) (n := 15) (by decide) rfl h16.1 h16.2 xcl_Clock_25 xin_Hills xit_Hills dc_Clock_init_31 ?_
  refine RC_bnM (fun m17 => ?_)
  refine RC_dup dc_Clock_init_34 (nt2 _) ?_
  refine RC_chk (fun h20 => ?_)
  refine RC_callI (As := []) (rest := [rf (mN m15), rf th]) (t1 := (mN m17 + 36)) ymi_Hills_init yin_Hills_init yml_Clock_27 (by omega) h20 (Nat.le_of_ble_eq_true rfl) rfl (Nat.le_of_ble_eq_true rfl) dc_Clock_init_35 (fun rq mq hq => pc_Hills_init (mN m17 + 36) (mN m15) m17 hq) (fun r18 m19 => ?_)
  refine RC_chk (fun h21 => ?_)
  refine RC_putR gf_Clock_28 (by decide) (Or.inl rfl) rfl (Or.inl ⟨_, rfl⟩) h21.1 h21.2 dc_Clock_init_38 ?_
  refine RC_bnM (fun m22 => ?_)
  refine RC_aload_n dc_Clock_init_41 rfl rfl ?_
  refine RC_chk (fun h23 => ?_)
  refine RC_new (ci := 0) (n := 15) (by decide) rfl h23.1 h23.2 xcl_Clock_25 xin_Hills xit_Hills dc_Clock_init_42 ?_
  refine RC_bnM (fun m24 => ?_)
  refine RC_dup dc_Clock_init_45 (nt2 _) ?_
  refine RC_chk (fun h27 => ?_)
  refine RC_callI (As := []) (rest := [rf (mN m22), rf th]) (t1 := (mN m24 + 36)) ymi_Hills_init yin_Hills_init yml_Clock_27 (by omega) h27 (Nat.le_of_ble_eq_true rfl) rfl (Nat.le_of_ble_eq_true rfl) dc_Clock_init_46 (fun rq mq hq => pc_Hills_init (mN m24 + 36) (mN m22) m24 hq) (fun r25 m26 => ?_)
  refine RC_chk (fun h28 => ?_)
  refine RC_putR gf_Clock_32 (by decide) (Or.inl rfl) rfl (Or.inl ⟨_, rfl⟩) h28.1 h28.2 dc_Clock_init_49 ?_
  refine RC_bnM (fun m29 => ?_)
  refine RC_aload_n dc_Clock_init_52 rfl rfl ?_
  refine RC_chk (fun h30 => ?_)
  refine RC_new (ci := 3) (n := 4) (by decide) rfl h30.1 h30.2 xcl_Clock_35 xin_Lines xit_Lines dc_Clock_init_53 ?_
  refine RC_bnM (fun m31 => ?_)
  refine RC_dup dc_Clock_init_56 (nt2 _) ?_
  refine RC_chk (fun h34 => ?_)
  refine RC_callIN (As := []) (rest := [rf (mN m29), rf th]) (t1 := (mN m31 + 3)) ymi_Lines_init yin_Lines_init ymn_Clock_37 (by omega) h34 (Nat.le_of_ble_eq_true rfl) rfl (Nat.le_of_ble_eq_true rfl) dc_Clock_init_57 (fun rq mq hq => pc_Lines_init (mN m31 + 3) (mN m29) m31 hq) (fun r32 m33 => ?_)
  refine RC_chk (fun h35 => ?_)
  refine RC_putR gf_Clock_38 (by decide) (Or.inr ⟨rfl, rfl, rfl⟩) rfl (Or.inl ⟨_, rfl⟩) h35.1 h35.2 dc_Clock_init_60 ?_
  refine RC_bnM (fun m36 => ?_)
  refine RC_aload_n dc_Clock_init_63 rfl rfl ?_
  refine RC_chk (fun h37 => ?_)
  refine RC_new (ci := 5) (n := 8) (by decide) rfl h37.1 h37.2 xcl_Clock_42 xin_Standing xit_Standing dc_Clock_init_64 ?_
  refine RC_bnM (fun m38 => ?_)
  refine RC_dup dc_Clock_init_67 (nt2 _) ?_
  refine RC_chk (fun h41 => ?_)
  refine RC_callIN (As := []) (rest := [rf (mN m36), rf th]) (t1 := (mN m38 + 10)) ymi_Standing_init yin_Standing_init ymn_Clock_44 (by omega) h41 (Nat.le_of_ble_eq_true rfl) rfl (Nat.le_of_ble_eq_true rfl) dc_Clock_init_68 (fun rq mq hq => pc_Standing_init (mN m38 + 10) (mN m36) m38 hq) (fun r39 m40 => ?_)
  refine RC_chk (fun h42 => ?_)
  refine RC_putR gf_Clock_45 (by decide) (Or.inr ⟨rfl, rfl, rfl⟩) rfl (Or.inl ⟨_, rfl⟩) h42.1 h42.2 dc_Clock_init_71 ?_
  refine RC_bnM (fun m43 => ?_)
  refine RC_aload_n dc_Clock_init_74 rfl rfl ?_
  refine RC_iconst dc_Clock_init_75 ?_
  refine RC_chk (fun h44 => ?_)
  refine RC_anewD (n := 4) rfl (by decide) h44.1 h44.2 xcl_Clock_42 dc_Clock_init_76 ?_
  refine RC_bnM (fun m45 => ?_)
  refine RC_chk (fun h46 => ?_)
  refine RC_putR gf_Clock_49 (by decide) (Or.inr ⟨rfl, rfl, rfl⟩) rfl (Or.inr ⟨_, rfl⟩) h46.1 h46.2 dc_Clock_init_79 ?_
  refine RC_bnM (fun m47 => ?_)
  refine RC_aload_n dc_Clock_init_82 rfl rfl ?_
  refine RC_bipush dc_Clock_init_83 ?_
  refine RC_chk (fun h48 => ?_)
  refine RC_anewS (n := 16) rfl (by decide) h48.1 h48.2 xcl_Clock_53 dc_Clock_init_85 ?_
  refine RC_bnM (fun m49 => ?_)
  refine RC_chk (fun h50 => ?_)
  refine RC_putR gf_Clock_55 (by decide) (Or.inr ⟨rfl, rfl, rfl⟩) rfl (Or.inr ⟨_, rfl⟩) h50.1 h50.2 dc_Clock_init_88 ?_
  refine RC_bnM (fun m51 => ?_)
  refine RC_aload_n dc_Clock_init_91 rfl rfl ?_
  refine RC_chk (fun h52 => ?_)
  refine RC_new (ci := 6) (n := 6) (by decide) rfl h52.1 h52.2 xcl_Clock_53 xin_State xit_State dc_Clock_init_92 ?_
  refine RC_bnM (fun m53 => ?_)
  refine RC_dup dc_Clock_init_95 (nt2 _) ?_
  refine RC_chk (fun h56 => ?_)
  refine RC_callIN (As := []) (rest := [rf (mN m51), rf th]) (t1 := (mN m53 + 2)) ymi_State_init yin_State_init ymn_Clock_59 (by omega) h56 (Nat.le_of_ble_eq_true rfl) rfl (Nat.le_of_ble_eq_true rfl) dc_Clock_init_96 (fun rq mq hq => pc_State_init (mN m53 + 2) (mN m51) m53 hq) (fun r54 m55 => ?_)
  refine RC_chk (fun h57 => ?_)
  refine RC_putR gf_Clock_60 (by decide) (Or.inr ⟨rfl, rfl, rfl⟩) rfl (Or.inl ⟨_, rfl⟩) h57.1 h57.2 dc_Clock_init_99 ?_
  refine RC_bnM (fun m58 => ?_)
  refine RC_aload_n dc_Clock_init_102 rfl rfl ?_
  refine RC_chk (fun h59 => ?_)
  refine RC_new (ci := 8) (n := 8) (by decide) rfl h59.1 h59.2 xcl_Clock_64 xin_Walk xit_Walk dc_Clock_init_103 ?_
  refine RC_bnM (fun m60 => ?_)
  refine RC_dup dc_Clock_init_106 (nt2 _) ?_
  refine RC_chk (fun h63 => ?_)
  refine RC_callIN (As := []) (rest := [rf (mN m58), rf th]) (t1 := (mN m60 + 5)) ymi_Walk_init yin_Walk_init ymn_Clock_66 (by omega) h63 (Nat.le_of_ble_eq_true rfl) rfl (Nat.le_of_ble_eq_true rfl) dc_Clock_init_107 (fun rq mq hq => pc_Walk_init (mN m60 + 5) (mN m58) m60 hq) (fun r61 m62 => ?_)
  refine RC_chk (fun h64 => ?_)
  refine RC_putR gf_Clock_67 (by decide) (Or.inr ⟨rfl, rfl, rfl⟩) rfl (Or.inl ⟨_, rfl⟩) h64.1 h64.2 dc_Clock_init_110 ?_
  refine RC_bnM (fun m65 => ?_)
  refine RC_aload_n dc_Clock_init_113 rfl rfl ?_
  refine RC_chk (fun h66 => ?_)
  refine RC_new (ci := 4) (n := 2) (by decide) rfl h66.1 h66.2 xcl_Clock_71 xin_Sight xit_Sight dc_Clock_init_114 ?_
  refine RC_bnM (fun m67 => ?_)
  refine RC_dup dc_Clock_init_117 (nt2 _) ?_
  refine RC_chk (fun h70 => ?_)
  refine RC_callIN (As := []) (rest := [rf (mN m65), rf th]) (t1 := (mN m67 + 2)) ymi_Sight_init yin_Sight_init ymn_Clock_73 (by omega) h70 (Nat.le_of_ble_eq_true rfl) rfl (Nat.le_of_ble_eq_true rfl) dc_Clock_init_118 (fun rq mq hq => pc_Sight_init (mN m67 + 2) (mN m65) m67 hq) (fun r68 m69 => ?_)
  refine RC_chk (fun h71 => ?_)
  refine RC_putR gf_Clock_74 (by decide) (Or.inr ⟨rfl, rfl, rfl⟩) rfl (Or.inl ⟨_, rfl⟩) h71.1 h71.2 dc_Clock_init_121 ?_
  refine RC_bnM (fun m72 => ?_)
  refine RC_aload_n dc_Clock_init_124 rfl rfl ?_
  refine RC_bipush dc_Clock_init_125 ?_
  refine RC_chk (fun h73 => ?_)
  refine RC_newaI (n := 64) rfl (by decide) h73.1 h73.2 xar_I dc_Clock_init_127 ?_
  refine RC_bnM (fun m74 => ?_)
  refine RC_chk (fun h75 => ?_)
  refine RC_putR gf_Clock_78 (by decide) (Or.inr ⟨rfl, rfl, rfl⟩) rfl (Or.inr ⟨_, rfl⟩) h75.1 h75.2 dc_Clock_init_129 ?_
  refine RC_bnM (fun m76 => ?_)
  refine RC_aload_n dc_Clock_init_132 rfl rfl ?_
  refine RC_bipush dc_Clock_init_133 ?_
  refine RC_chk (fun h77 => ?_)
  refine RC_newaI (n := 6) rfl (by decide) h77.1 h77.2 xar_I dc_Clock_init_135 ?_
  refine RC_bnM (fun m78 => ?_)
  refine RC_chk (fun h79 => ?_)
  refine RC_putR gf_Clock_82 (by decide) (Or.inr ⟨rfl, rfl, rfl⟩) rfl (Or.inr ⟨_, rfl⟩) h79.1 h79.2 dc_Clock_init_137 ?_
  refine RC_bnM (fun m80 => ?_)
  refine RC_aload_n dc_Clock_init_140 rfl rfl ?_
  refine RC_bipush dc_Clock_init_141 ?_
  refine RC_chk (fun h81 => ?_)
  refine RC_newaI (n := 6) rfl (by decide) h81.1 h81.2 xar_I dc_Clock_init_143 ?_
  refine RC_bnM (fun m82 => ?_)
  refine RC_chk (fun h83 => ?_)
  refine RC_putR gf_Clock_85 (by decide) (Or.inr ⟨rfl, rfl, rfl⟩) rfl (Or.inr ⟨_, rfl⟩) h83.1 h83.2 dc_Clock_init_145 ?_
  refine RC_bnM (fun m84 => ?_)
  refine RC_aload_n dc_Clock_init_148 rfl rfl ?_
  refine RC_bipush dc_Clock_init_149 ?_
  refine RC_chk (fun h85 => ?_)
  refine RC_newaI (n := 6) rfl (by decide) h85.1 h85.2 xar_I dc_Clock_init_151 ?_
  refine RC_bnM (fun m86 => ?_)
  refine RC_chk (fun h87 => ?_)
  refine RC_putR gf_Clock_88 (by decide) (Or.inr ⟨rfl, rfl, rfl⟩) rfl (Or.inr ⟨_, rfl⟩) h87.1 h87.2 dc_Clock_init_153 ?_
  refine RC_bnM (fun m88 => ?_)
  refine RC_iconst dc_Clock_init_156 ?_
  refine RC_istore_n dc_Clock_init_157 rfl (Nat.le_of_ble_eq_true rfl) ?_
  refine RC_sub ?_ (xq_Clock_init_158 n0 tN th FU 0 m88)
  exact ⟨rfl, rfl, trivial⟩
def xo_Model_forgets_9 (tN : Nat) (th : Nat) (k9 : Int → Mm → Res) (v1 : Int) (mem : Mm) : Res := if v1 < 6 then (if ly_k th = (11, 72) ∧ th < mN mem ∧ 0 ≤ mem th 52 then if (ly_k (mem th 52).toNat).1 = 12 ∧ (mem th 52).toNat < mN mem ∧ 0 ≤ v1 ∧ v1 < ((ly_k (mem th 52).toNat).2 : Int) then bn (mst mem (mem th 52).toNat v1.toNat (-2)) fun m3 => k9 (w32 (v1 + 1)) m3 else none else none) else (if mN mem = tN then some (0, mem) else none)
set_option maxHeartbeats 4000000 in
theorem xb_Model_forgets_9 {E : EE} (n0 : Nat) (tN : Nat) (th : Nat) (k9 : Int → Mm → Res) (H9 : ∀ (v1 : Int) (mem : Mm), RC E n0 tN "forgets" mt_R_Model_forgets (k9 v1 mem) 9 [(0, rf th), (1, vi v1)] [] mem) (v1 : Int) (mem : Mm) : RC E n0 tN "forgets" mt_R_Model_forgets (xo_Model_forgets_9 tN th k9 v1 mem) 9 [(0, rf th), (1, vi v1)] [] mem := by
  unfold xo_Model_forgets_9
  refine RC_iload_n dc_Model_forgets_9 rfl rfl ?_
  refine RC_bipush dc_Model_forgets_10 ?_
  refine RC_icmp_ge (tgt := 29) dc_Model_forgets_12 rfl ?_ ?_
  · refine RC_aload_n dc_Model_forgets_15 rfl rfl ?_
    refine RC_chk (fun h1 => ?_)
    refine RC_getR gf_Model_132 (by decide) h1.1 h1.2.1 h1.2.2 dc_Model_forgets_16 ?_
    refine RC_iload_n dc_Model_forgets_19 rfl rfl ?_
    refine RC_bipush dc_Model_forgets_20 ?_
    refine RC_chk (fun h2 => ?_)
    refine RC_iast (Prod.ext h2.1 rfl) h2.2.1 h2.2.2 dc_Model_forgets_22 ?_
    refine RC_bnM (fun m3 => ?_)
    refine RC_iinc dc_Model_forgets_23 rfl (Nat.le_of_ble_eq_true rfl) ?_
    refine RC_goto (tgt := 9) dc_Model_forgets_26 rfl ?_
    refine RC_sub ?_ (H9 (w32 (v1 + 1)) m3)
    exact ⟨rfl, rfl, trivial⟩
  · refine RC_chk (fun h4 => ?_)
    exact RC_vret rfl h4 dc_Model_forgets_29
def xp_Model_forgets_9 (tN : Nat) (th : Nat)  : Nat → Int → Mm → Res
  | 0 => fun _ _ => none
  | n + 1 => xo_Model_forgets_9 tN th  (xp_Model_forgets_9 tN th  n)
theorem xq_Model_forgets_9 {E : EE} (n0 : Nat) (tN : Nat) (th : Nat)   : ∀ (n : Nat) (v1 : Int) (mem : Mm), RC E n0 tN "forgets" mt_R_Model_forgets (xp_Model_forgets_9 tN th  n v1 mem) 9 [(0, rf th), (1, vi v1)] [] mem := by
  intro n
  induction n with
  | zero => intro v1 mem; exact RC_none
  | succ n ih => intro v1 mem; exact xb_Model_forgets_9 n0 tN th  (xp_Model_forgets_9 tN th  n)  ih v1 mem
set_option maxRecDepth 100000 in
def fc_Model_forgets (tN : Nat) (th : Nat) (mem : Mm) : Res := if ly_k th = (11, 72) ∧ th < mN mem ∧ 0 ≤ mem th 48 then if (ly_k (mem th 48).toNat).1 = 12 ∧ (mem th 48).toNat < mN mem ∧ 0 ≤ (0 : Int) ∧ (0 : Int) < ((ly_k (mem th 48).toNat).2 : Int) then bn (mst mem (mem th 48).toNat (0 : Int).toNat 0) fun m3 => xp_Model_forgets_9 tN th FU 0 m3 else none else none
set_option maxRecDepth 100000 in
set_option maxHeartbeats 4000000 in
theorem pc_Model_forgets {E : EE} (tN : Nat) (th : Nat) (mem : Mm) {r : Int} {mem9 : Mm} (h : fc_Model_forgets tN th mem = some (r, mem9)) : MetC E (mN mem) tN 1 yn_Model_forgets cd_Model_forgets 2 none [rf th] mem r mem9 := by
  refine RC_met (y := yn_Model_forgets) (by decide +kernel) (Nat.le_of_ble_eq_true rfl) rfl ?_ h
  generalize mN mem = n0
  show RC E n0 tN "forgets" mt_R_Model_forgets (fc_Model_forgets tN th mem) 0 [(0, rf th)] [] mem
  unfold fc_Model_forgets
  refine RC_aload_n dc_Model_forgets_0 rfl rfl ?_
  refine RC_chk (fun h1 => ?_)
  refine RC_getR gf_Model_120 (by decide) h1.1 h1.2.1 h1.2.2 dc_Model_forgets_1 ?_
  refine RC_iconst dc_Model_forgets_4 ?_
  refine RC_iconst dc_Model_forgets_5 ?_
  refine RC_chk (fun h2 => ?_)
  refine RC_iast (Prod.ext h2.1 rfl) h2.2.1 h2.2.2 dc_Model_forgets_6 ?_
  refine RC_bnM (fun m3 => ?_)
  refine RC_iconst dc_Model_forgets_7 ?_
  refine RC_istore_n dc_Model_forgets_8 rfl (Nat.le_of_ble_eq_true rfl) ?_
  refine RC_sub ?_ (xq_Model_forgets_9 n0 tN th FU 0 m3)
  exact ⟨rfl, rfl, trivial⟩
set_option maxRecDepth 100000 in
def fc_Model_init (tN : Nat) (th : Nat) (mem : Mm) : Res := if ly_k (mN mem) = (12, 1000) ∧ mN mem < tN then bn (mnw mem (fun _ => 0)) fun m2 => if ly_k th = (11, 72) ∧ th < mN m2 then bn (mst m2 th 2 (((mN mem) : Nat) : Int)) fun m4 => if ly_k (mN m4) = (12, 10) ∧ mN m4 < tN then bn (mnw m4 (fun _ => 0)) fun m6 => if ly_k th = (11, 72) ∧ th < mN m6 then bn (mst m6 th 10 (((mN m4) : Nat) : Int)) fun m8 => if ly_k (mN m8) = (13, 12) ∧ mN m8 < tN then bn (mnw m8 (fun _ => 0)) fun m10 => if ly_k th = (11, 72) ∧ th < mN m10 then bn (mst m10 th 11 (((mN m8) : Nat) : Int)) fun m12 => if ly_k (mN m12) = (13, 12) ∧ mN m12 < tN then bn (mnw m12 (fun _ => 0)) fun m14 => if ly_k th = (11, 72) ∧ th < mN m14 then bn (mst m14 th 12 (((mN m12) : Nat) : Int)) fun m16 => if ly_k (mN m16) = (13, 12) ∧ mN m16 < tN then bn (mnw m16 (fun _ => 0)) fun m18 => if ly_k th = (11, 72) ∧ th < mN m18 then bn (mst m18 th 13 (((mN m16) : Nat) : Int)) fun m20 => if ly_k (mN m20) = (12, 72) ∧ mN m20 < tN then bn (mnw m20 (fun _ => 0)) fun m22 => if ly_k th = (11, 72) ∧ th < mN m22 then bn (mst m22 th 14 (((mN m20) : Nat) : Int)) fun m24 => if ly_k (mN m24) = (12, 12) ∧ mN m24 < tN then bn (mnw m24 (fun _ => 0)) fun m26 => if ly_k th = (11, 72) ∧ th < mN m26 then bn (mst m26 th 15 (((mN m24) : Nat) : Int)) fun m28 => if ly_k (mN m28) = (12, 12) ∧ mN m28 < tN then bn (mnw m28 (fun _ => 0)) fun m30 => if ly_k th = (11, 72) ∧ th < mN m30 then bn (mst m30 th 16 (((mN m28) : Nat) : Int)) fun m32 => if ly_k (mN m32) = (12, 12) ∧ mN m32 < tN then bn (mnw m32 (fun _ => 0)) fun m34 => if ly_k th = (11, 72) ∧ th < mN m34 then bn (mst m34 th 17 (((mN m32) : Nat) : Int)) fun m36 => if ly_k (mN m36) = (12, 12) ∧ mN m36 < tN then bn (mnw m36 (fun _ => 0)) fun m38 => if ly_k th = (11, 72) ∧ th < mN m38 then bn (mst m38 th 18 (((mN m36) : Nat) : Int)) fun m40 => if ly_k (mN m40) = (12, 48) ∧ mN m40 < tN then bn (mnw m40 (fun _ => 0)) fun m42 => if ly_k th = (11, 72) ∧ th < mN m42 then bn (mst m42 th 19 (((mN m40) : Nat) : Int)) fun m44 => if ly_k (mN m44) = (12, 12) ∧ mN m44 < tN then bn (mnw m44 (fun _ => 0)) fun m46 => if ly_k th = (11, 72) ∧ th < mN m46 then bn (mst m46 th 20 (((mN m44) : Nat) : Int)) fun m48 => if ly_k (mN m48) = (12, 72) ∧ mN m48 < tN then bn (mnw m48 (fun _ => 0)) fun m50 => if ly_k th = (11, 72) ∧ th < mN m50 then bn (mst m50 th 21 (((mN m48) : Nat) : Int)) fun m52 => if ly_k (mN m52) = (12, 72) ∧ mN m52 < tN then bn (mnw m52 (fun _ => 0)) fun m54 => if ly_k th = (11, 72) ∧ th < mN m54 then bn (mst m54 th 22 (((mN m52) : Nat) : Int)) fun m56 => if ly_k (mN m56) = (12, 12) ∧ mN m56 < tN then bn (mnw m56 (fun _ => 0)) fun m58 => if ly_k th = (11, 72) ∧ th < mN m58 then bn (mst m58 th 23 (((mN m56) : Nat) : Int)) fun m60 => if ly_k (mN m60) = (12, 12) ∧ mN m60 < tN then bn (mnw m60 (fun _ => 0)) fun m62 => if ly_k th = (11, 72) ∧ th < mN m62 then bn (mst m62 th 24 (((mN m60) : Nat) : Int)) fun m64 => if ly_k (mN m64) = (12, 12) ∧ mN m64 < tN then bn (mnw m64 (fun _ => 0)) fun m66 => if ly_k th = (11, 72) ∧ th < mN m66 then bn (mst m66 th 25 (((mN m64) : Nat) : Int)) fun m68 => if ly_k (mN m68) = (12, 2) ∧ mN m68 < tN then bn (mnw m68 (fun _ => 0)) fun m70 => if ly_k th = (11, 72) ∧ th < mN m70 then bn (mst m70 th 26 (((mN m68) : Nat) : Int)) fun m72 => if ly_k (mN m72) = (12, 2) ∧ mN m72 < tN then bn (mnw m72 (fun _ => 0)) fun m74 => if ly_k th = (11, 72) ∧ th < mN m74 then bn (mst m74 th 27 (((mN m72) : Nat) : Int)) fun m76 => if ly_k (mN m76) = (12, 2000) ∧ mN m76 < tN then bn (mnw m76 (fun _ => 0)) fun m78 => if ly_k th = (11, 72) ∧ th < mN m78 then bn (mst m78 th 28 (((mN m76) : Nat) : Int)) fun m80 => if ly_k (mN m80) = (12, 7) ∧ mN m80 < tN then bn (mnw m80 (fun _ => 0)) fun m82 => if ly_k th = (11, 72) ∧ th < mN m82 then bn (mst m82 th 30 (((mN m80) : Nat) : Int)) fun m84 => if ly_k (mN m84) = (15, 7) ∧ mN m84 < tN then bn (mnw m84 (fun _ => 0)) fun m86 => if ly_k th = (11, 72) ∧ th < mN m86 then bn (mst m86 th 31 (((mN m84) : Nat) : Int)) fun m88 => if ly_k (mN m88) = (12, 7) ∧ mN m88 < tN then bn (mnw m88 (fun _ => 0)) fun m90 => if ly_k th = (11, 72) ∧ th < mN m90 then bn (mst m90 th 32 (((mN m88) : Nat) : Int)) fun m92 => if ly_k (mN m92) = (12, 7) ∧ mN m92 < tN then bn (mnw m92 (fun _ => 0)) fun m94 => if ly_k th = (11, 72) ∧ th < mN m94 then bn (mst m94 th 33 (((mN m92) : Nat) : Int)) fun m96 => if ly_k (mN m96) = (12, 7) ∧ mN m96 < tN then bn (mnw m96 (fun _ => 0)) fun m98 => if ly_k th = (11, 72) ∧ th < mN m98 then bn (mst m98 th 34 (((mN m96) : Nat) : Int)) fun m100 => if ly_k (mN m100) = (12, 7) ∧ mN m100 < tN then bn (mnw m100 (fun _ => 0)) fun m102 => if ly_k th = (11, 72) ∧ th < mN m102 then bn (mst m102 th 35 (((mN m100) : Nat) : Int)) fun m104 => if ly_k (mN m104) = (12, 7) ∧ mN m104 < tN then bn (mnw m104 (fun _ => 0)) fun m106 => if ly_k th = (11, 72) ∧ th < mN m106 then bn (mst m106 th 36 (((mN m104) : Nat) : Int)) fun m108 => if ly_k (mN m108) = (12, 7) ∧ mN m108 < tN then bn (mnw m108 (fun _ => 0)) fun m110 => if ly_k th = (11, 72) ∧ th < mN m110 then bn (mst m110 th 37 (((mN m108) : Nat) : Int)) fun m112 => if ly_k (mN m112) = (12, 7) ∧ mN m112 < tN then bn (mnw m112 (fun _ => 0)) fun m114 => if ly_k th = (11, 72) ∧ th < mN m114 then bn (mst m114 th 38 (((mN m112) : Nat) : Int)) fun m116 => if ly_k (mN m116) = (12, 7) ∧ mN m116 < tN then bn (mnw m116 (fun _ => 0)) fun m118 => if ly_k th = (11, 72) ∧ th < mN m118 then bn (mst m118 th 39 (((mN m116) : Nat) : Int)) fun m120 => if ly_k (mN m120) = (12, 7) ∧ mN m120 < tN then bn (mnw m120 (fun _ => 0)) fun m122 => if ly_k th = (11, 72) ∧ th < mN m122 then bn (mst m122 th 40 (((mN m120) : Nat) : Int)) fun m124 => if ly_k (mN m124) = (12, 20) ∧ mN m124 < tN then bn (mnw m124 (fun _ => 0)) fun m126 => if ly_k th = (11, 72) ∧ th < mN m126 then bn (mst m126 th 41 (((mN m124) : Nat) : Int)) fun m128 => if ly_k (mN m128) = (12, 6) ∧ mN m128 < tN then bn (mnw m128 (fun _ => 0)) fun m130 => if ly_k th = (11, 72) ∧ th < mN m130 then bn (mst m130 th 44 (((mN m128) : Nat) : Int)) fun m132 => if ly_k (mN m132) = (12, 180) ∧ mN m132 < tN then bn (mnw m132 (fun _ => 0)) fun m134 => if ly_k th = (11, 72) ∧ th < mN m134 then bn (mst m134 th 45 (((mN m132) : Nat) : Int)) fun m136 => if ly_k (mN m136) = (12, 180) ∧ mN m136 < tN then bn (mnw m136 (fun _ => 0)) fun m138 => if ly_k th = (11, 72) ∧ th < mN m138 then bn (mst m138 th 46 (((mN m136) : Nat) : Int)) fun m140 => if ly_k (mN m140) = (12, 180) ∧ mN m140 < tN then bn (mnw m140 (fun _ => 0)) fun m142 => if ly_k th = (11, 72) ∧ th < mN m142 then bn (mst m142 th 47 (((mN m140) : Nat) : Int)) fun m144 => if ly_k (mN m144) = (12, 5) ∧ mN m144 < tN then bn (mnw m144 (fun _ => 0)) fun m146 => if ly_k th = (11, 72) ∧ th < mN m146 then bn (mst m146 th 48 (((mN m144) : Nat) : Int)) fun m148 => if ly_k (mN m148) = (12, 40) ∧ mN m148 < tN then bn (mnw m148 (fun _ => 0)) fun m150 => if ly_k th = (11, 72) ∧ th < mN m150 then bn (mst m150 th 49 (((mN m148) : Nat) : Int)) fun m152 => if ly_k (mN m152) = (12, 40) ∧ mN m152 < tN then bn (mnw m152 (fun _ => 0)) fun m154 => if ly_k th = (11, 72) ∧ th < mN m154 then bn (mst m154 th 50 (((mN m152) : Nat) : Int)) fun m156 => if ly_k (mN m156) = (15, 40) ∧ mN m156 < tN then bn (mnw m156 (fun _ => 0)) fun m158 => if ly_k th = (11, 72) ∧ th < mN m158 then bn (mst m158 th 51 (((mN m156) : Nat) : Int)) fun m160 => if ly_k (mN m160) = (12, 30) ∧ mN m160 < tN then bn (mnw m160 (fun _ => 0)) fun m162 => if ly_k th = (11, 72) ∧ th < mN m162 then bn (mst m162 th 52 (((mN m160) : Nat) : Int)) fun m164 => if ly_k (mN m164) = (12, 16) ∧ mN m164 < tN then bn (mnw m164 (fun _ => 0)) fun m166 => if ly_k th = (11, 72) ∧ th < mN m166 then bn (mst m166 th 53 (((mN m164) : Nat) : Int)) fun m168 => if ly_k (mN m168) = (12, 16) ∧ mN m168 < tN then bn (mnw m168 (fun _ => 0)) fun m170 => if ly_k th = (11, 72) ∧ th < mN m170 then bn (mst m170 th 54 (((mN m168) : Nat) : Int)) fun m172 => if ly_k (mN m172) = (12, 64) ∧ mN m172 < tN then bn (mnw m172 (fun _ => 0)) fun m174 => if ly_k th = (11, 72) ∧ th < mN m174 then bn (mst m174 th 55 (((mN m172) : Nat) : Int)) fun m176 => if ly_k (mN m176) = (12, 256) ∧ mN m176 < tN then bn (mnw m176 (fun _ => 0)) fun m178 => if ly_k th = (11, 72) ∧ th < mN m178 then bn (mst m178 th 56 (((mN m176) : Nat) : Int)) fun m180 => if ly_k (mN m180) = (15, 4) ∧ mN m180 < tN then bn (mnw m180 (fun _ => 0)) fun m182 => if ly_k th = (11, 72) ∧ th < mN m182 then bn (mst m182 th 57 (((mN m180) : Nat) : Int)) fun m184 => if ly_k (mN m184) = (12, 36) ∧ mN m184 < tN then bn (mnw m184 (fun _ => 0)) fun m186 => if ly_k th = (11, 72) ∧ th < mN m186 then bn (mst m186 th 59 (((mN m184) : Nat) : Int)) fun m188 => if ly_k (mN m188) = (12, 1440) ∧ mN m188 < tN then bn (mnw m188 (fun _ => 0)) fun m190 => if ly_k th = (11, 72) ∧ th < mN m190 then bn (mst m190 th 60 (((mN m188) : Nat) : Int)) fun m192 => if ly_k (mN m192) = (12, 6) ∧ mN m192 < tN then bn (mnw m192 (fun _ => 0)) fun m194 => if ly_k th = (11, 72) ∧ th < mN m194 then bn (mst m194 th 61 (((mN m192) : Nat) : Int)) fun m196 => if ly_k (mN m196) = (12, 6) ∧ mN m196 < tN then bn (mnw m196 (fun _ => 0)) fun m198 => if ly_k th = (11, 72) ∧ th < mN m198 then bn (mst m198 th 62 (((mN m196) : Nat) : Int)) fun m200 => if ly_k (mN m200) = (15, 6) ∧ mN m200 < tN then bn (mnw m200 (fun _ => 0)) fun m202 => if ly_k th = (11, 72) ∧ th < mN m202 then bn (mst m202 th 63 (((mN m200) : Nat) : Int)) fun m204 => if ly_k (mN m204) = (12, 64) ∧ mN m204 < tN then bn (mnw m204 (fun _ => 0)) fun m206 => if ly_k th = (11, 72) ∧ th < mN m206 then bn (mst m206 th 65 (((mN m204) : Nat) : Int)) fun m208 => if ly_k (mN m208) = (12, 6) ∧ mN m208 < tN then bn (mnw m208 (fun _ => 0)) fun m210 => if ly_k th = (11, 72) ∧ th < mN m210 then bn (mst m210 th 66 (((mN m208) : Nat) : Int)) fun m212 => if ly_k (mN m212) = (12, 6) ∧ mN m212 < tN then bn (mnw m212 (fun _ => 0)) fun m214 => if ly_k th = (11, 72) ∧ th < mN m214 then bn (mst m214 th 67 (((mN m212) : Nat) : Int)) fun m216 => if ly_k (mN m216) = (12, 6) ∧ mN m216 < tN then bn (mnw m216 (fun _ => 0)) fun m218 => if ly_k th = (11, 72) ∧ th < mN m218 then bn (mst m218 th 69 (((mN m216) : Nat) : Int)) fun m220 => if ly_k (mN m220) = (13, 1440) ∧ mN m220 < tN then bn (mnw m220 (fun _ => 0)) fun m222 => if ly_k th = (11, 72) ∧ th < mN m222 then bn (mst m222 th 70 (((mN m220) : Nat) : Int)) fun m224 => if (mN m224 + 0) ≤ tN ∧ ly_k th = (11, 72) ∧ th < mN m224 then bd (fc_Model_forgets (mN m224 + 0) th m224) fun r225 m226 => if mN m226 = tN then some (0, m226) else none else none else none else none else none else none else none else none else none else none else none else none else none else none else none else none else none else none else none else none else none else none else none else none else none else none else none else none else none else none else none else none else none else none else none else none else none else none else none else none else none else none else none else none else none else none else none else none else none else none else none else none else none else none else none else none else none else none else none else none else none else none else none else none else none else none else none else none else none else none else none else none else none else none else none else none else none else none else none else none else none else none else none else none else none else none else none else none else none else none else none else none else none else none else none else none else none else none else none else none else none else none else none else none else none else none else none else none else none else none else none else none else none else none
set_option maxRecDepth 100000 in
set_option maxHeartbeats 4000000 in
theorem pc_Model_init {E : EE} (tN : Nat) (th : Nat) (mem : Mm) {r : Int} {mem9 : Mm} (h : fc_Model_init tN th mem = some (r, mem9)) : MetC E (mN mem) tN 2 yn_Model_init cd_Model_init 1 none [rf th] mem r mem9 := by
  refine RC_met (y := yn_Model_init) (by decide +kernel) (Nat.le_of_ble_eq_true rfl) rfl ?_ h
  generalize mN mem = n0
  show RC E n0 tN "<init>" mt_R_Model_init (fc_Model_init tN th mem) 0 [(0, rf th)] [] mem
  unfold fc_Model_init
  refine RC_aload_n dc_Model_init_0 rfl rfl ?_
  refine RC_objInit xoi_Model_1 xoi1 xoi2 (Nat.le_of_ble_eq_true rfl) (Nat.le_of_ble_eq_true rfl) dc_Model_init_1 ?_
  refine RC_aload_n dc_Model_init_4 rfl rfl ?_
  refine RC_sipush dc_Model_init_5 ?_
  refine RC_chk (fun h1 => ?_)
  refine RC_newaI (n := 1000) rfl (by decide) h1.1 h1.2 xar_I dc_Model_init_8 ?_
  refine RC_bnM (fun m2 => ?_)
  refine RC_chk (fun h3 => ?_)
  refine RC_putR gf_Model_7 (by decide) (Or.inr ⟨rfl, rfl, rfl⟩) rfl (Or.inr ⟨_, rfl⟩) h3.1 h3.2 dc_Model_init_10 ?_
  refine RC_bnM (fun m4 => ?_)
  refine RC_aload_n dc_Model_init_13 rfl rfl ?_
  refine RC_bipush dc_Model_init_14 ?_
  refine RC_chk (fun h5 => ?_)
  refine RC_newaI (n := 10) rfl (by decide) h5.1 h5.2 xar_I dc_Model_init_16 ?_
  refine RC_bnM (fun m6 => ?_)
  refine RC_chk (fun h7 => ?_)
  refine RC_putR gf_Model_13 (by decide) (Or.inr ⟨rfl, rfl, rfl⟩) rfl (Or.inr ⟨_, rfl⟩) h7.1 h7.2 dc_Model_init_18 ?_
  refine RC_bnM (fun m8 => ?_)
  refine RC_aload_n dc_Model_init_21 rfl rfl ?_
  refine RC_bipush dc_Model_init_22 ?_
  refine RC_chk (fun h9 => ?_)
  refine RC_newaJ (n := 12) rfl (by decide) h9.1 h9.2 xar_J dc_Model_init_24 ?_
  refine RC_bnM (fun m10 => ?_)
  refine RC_chk (fun h11 => ?_)
  refine RC_putR gf_Model_16 (by decide) (Or.inr ⟨rfl, rfl, rfl⟩) rfl (Or.inr ⟨_, rfl⟩) h11.1 h11.2 dc_Model_init_26 ?_
  refine RC_bnM (fun m12 => ?_)
  refine RC_aload_n dc_Model_init_29 rfl rfl ?_
  refine RC_bipush dc_Model_init_30 ?_
  refine RC_chk (fun h13 => ?_)
  refine RC_newaJ (n := 12) rfl (by decide) h13.1 h13.2 xar_J dc_Model_init_32 ?_
  refine RC_bnM (fun m14 => ?_)
  refine RC_chk (fun h15 => ?_)
  refine RC_putR gf_Model_20 (by decide) (Or.inr ⟨rfl, rfl, rfl⟩) rfl (Or.inr ⟨_, rfl⟩) h15.1 h15.2 dc_Model_init_34 ?_
  refine RC_bnM (fun m16 => ?_)
  refine RC_aload_n dc_Model_init_37 rfl rfl ?_
  refine RC_bipush dc_Model_init_38 ?_
  refine RC_chk (fun h17 => ?_)
  refine RC_newaJ (n := 12) rfl (by decide) h17.1 h17.2 xar_J dc_Model_init_40 ?_
  refine RC_bnM (fun m18 => ?_)
  refine RC_chk (fun h19 => ?_)
  refine RC_putR gf_Model_23 (by decide) (Or.inr ⟨rfl, rfl, rfl⟩) rfl (Or.inr ⟨_, rfl⟩) h19.1 h19.2 dc_Model_init_42 ?_
  refine RC_bnM (fun m20 => ?_)
  refine RC_aload_n dc_Model_init_45 rfl rfl ?_
  refine RC_bipush dc_Model_init_46 ?_
  refine RC_chk (fun h21 => ?_)
  refine RC_newaI (n := 72) rfl (by decide) h21.1 h21.2 xar_I dc_Model_init_48 ?_
  refine RC_bnM (fun m22 => ?_)
  refine RC_chk (fun h23 => ?_)
  refine RC_putR gf_Model_26 (by decide) (Or.inr ⟨rfl, rfl, rfl⟩) rfl (Or.inr ⟨_, rfl⟩) h23.1 h23.2 dc_Model_init_50 ?_
  refine RC_bnM (fun m24 => ?_)
  refine RC_aload_n dc_Model_init_53 rfl rfl ?_
  refine RC_bipush dc_Model_init_54 ?_
  refine RC_chk (fun h25 => ?_)
  refine RC_newaI (n := 12) rfl (by decide) h25.1 h25.2 xar_I dc_Model_init_56 ?_
  refine RC_bnM (fun m26 => ?_)
  refine RC_chk (fun h27 => ?_)
  refine RC_putR gf_Model_29 (by decide) (Or.inr ⟨rfl, rfl, rfl⟩) rfl (Or.inr ⟨_, rfl⟩) h27.1 h27.2 dc_Model_init_58 ?_
  refine RC_bnM (fun m28 => ?_)
  refine RC_aload_n dc_Model_init_61 rfl rfl ?_
  refine RC_bipush dc_Model_init_62 ?_
  refine RC_chk (fun h29 => ?_)
  refine RC_newaI (n := 12) rfl (by decide) h29.1 h29.2 xar_I dc_Model_init_64 ?_
  refine RC_bnM (fun m30 => ?_)
  refine RC_chk (fun h31 => ?_)
  refine RC_putR gf_Model_32 (by decide) (Or.inr ⟨rfl, rfl, rfl⟩) rfl (Or.inr ⟨_, rfl⟩) h31.1 h31.2 dc_Model_init_66 ?_
  refine RC_bnM (fun m32 => ?_)
  refine RC_aload_n dc_Model_init_69 rfl rfl ?_
  refine RC_bipush dc_Model_init_70 ?_
  refine RC_chk (fun h33 => ?_)
  refine RC_newaI (n := 12) rfl (by decide) h33.1 h33.2 xar_I dc_Model_init_72 ?_
  refine RC_bnM (fun m34 => ?_)
  refine RC_chk (fun h35 => ?_)
  refine RC_putR gf_Model_35 (by decide) (Or.inr ⟨rfl, rfl, rfl⟩) rfl (Or.inr ⟨_, rfl⟩) h35.1 h35.2 dc_Model_init_74 ?_
  refine RC_bnM (fun m36 => ?_)
  refine RC_aload_n dc_Model_init_77 rfl rfl ?_
  refine RC_bipush dc_Model_init_78 ?_
  refine RC_chk (fun h37 => ?_)
  refine RC_newaI (n := 12) rfl (by decide) h37.1 h37.2 xar_I dc_Model_init_80 ?_
  refine RC_bnM (fun m38 => ?_)
  refine RC_chk (fun h39 => ?_)
  refine RC_putR gf_Model_38 (by decide) (Or.inr ⟨rfl, rfl, rfl⟩) rfl (Or.inr ⟨_, rfl⟩) h39.1 h39.2 dc_Model_init_82 ?_
  refine RC_bnM (fun m40 => ?_)
  refine RC_aload_n dc_Model_init_85 rfl rfl ?_
  refine RC_bipush dc_Model_init_86 ?_
  refine RC_chk (fun h41 => ?_)
  refine RC_newaI (n := 48) rfl (by decide) h41.1 h41.2 xar_I dc_Model_init_88 ?_
  refine RC_bnM (fun m42 => ?_)
  refine RC_chk (fun h43 => ?_)
  refine RC_putR gf_Model_41 (by decide) (Or.inr ⟨rfl, rfl, rfl⟩) rfl (Or.inr ⟨_, rfl⟩) h43.1 h43.2 dc_Model_init_90 ?_
  refine RC_bnM (fun m44 => ?_)
  refine RC_aload_n dc_Model_init_93 rfl rfl ?_
  refine RC_bipush dc_Model_init_94 ?_
  refine RC_chk (fun h45 => ?_)
  refine RC_newaI (n := 12) rfl (by decide) h45.1 h45.2 xar_I dc_Model_init_96 ?_
  refine RC_bnM (fun m46 => ?_)
  refine RC_chk (fun h47 => ?_)
  refine RC_putR gf_Model_44 (by decide) (Or.inr ⟨rfl, rfl, rfl⟩) rfl (Or.inr ⟨_, rfl⟩) h47.1 h47.2 dc_Model_init_98 ?_
  refine RC_bnM (fun m48 => ?_)
  refine RC_aload_n dc_Model_init_101 rfl rfl ?_
  refine RC_bipush dc_Model_init_102 ?_
  refine RC_chk (fun h49 => ?_)
  refine RC_newaI (n := 72) rfl (by decide) h49.1 h49.2 xar_I dc_Model_init_104 ?_
  refine RC_bnM (fun m50 => ?_)
  refine RC_chk (fun h51 => ?_)
  refine RC_putR gf_Model_47 (by decide) (Or.inr ⟨rfl, rfl, rfl⟩) rfl (Or.inr ⟨_, rfl⟩) h51.1 h51.2 dc_Model_init_106 ?_
  refine RC_bnM (fun m52 => ?_)
  refine RC_aload_n dc_Model_init_109 rfl rfl ?_
  refine RC_bipush dc_Model_init_110 ?_
  refine RC_chk (fun h53 => ?_)
  refine RC_newaI (n := 72) rfl (by decide) h53.1 h53.2 xar_I dc_Model_init_112 ?_
  refine RC_bnM (fun m54 => ?_)
  refine RC_chk (fun h55 => ?_)
  refine RC_putR gf_Model_50 (by decide) (Or.inr ⟨rfl, rfl, rfl⟩) rfl (Or.inr ⟨_, rfl⟩) h55.1 h55.2 dc_Model_init_114 ?_
  refine RC_bnM (fun m56 => ?_)
  refine RC_aload_n dc_Model_init_117 rfl rfl ?_
  refine RC_bipush dc_Model_init_118 ?_
  refine RC_chk (fun h57 => ?_)
  refine RC_newaI (n := 12) rfl (by decide) h57.1 h57.2 xar_I dc_Model_init_120 ?_
  refine RC_bnM (fun m58 => ?_)
  refine RC_chk (fun h59 => ?_)
  refine RC_putR gf_Model_53 (by decide) (Or.inr ⟨rfl, rfl, rfl⟩) rfl (Or.inr ⟨_, rfl⟩) h59.1 h59.2 dc_Model_init_122 ?_
  refine RC_bnM (fun m60 => ?_)
  refine RC_aload_n dc_Model_init_125 rfl rfl ?_
  refine RC_bipush dc_Model_init_126 ?_
  refine RC_chk (fun h61 => ?_)
  refine RC_newaI (n := 12) rfl (by decide) h61.1 h61.2 xar_I dc_Model_init_128 ?_
  refine RC_bnM (fun m62 => ?_)
  refine RC_chk (fun h63 => ?_)
  refine RC_putR gf_Model_56 (by decide) (Or.inr ⟨rfl, rfl, rfl⟩) rfl (Or.inr ⟨_, rfl⟩) h63.1 h63.2 dc_Model_init_130 ?_
  refine RC_bnM (fun m64 => ?_)
  refine RC_aload_n dc_Model_init_133 rfl rfl ?_
  refine RC_bipush dc_Model_init_134 ?_
  refine RC_chk (fun h65 => ?_)
  refine RC_newaI (n := 12) rfl (by decide) h65.1 h65.2 xar_I dc_Model_init_136 ?_
  refine RC_bnM (fun m66 => ?_)
  refine RC_chk (fun h67 => ?_)
  refine RC_putR gf_Model_59 (by decide) (Or.inr ⟨rfl, rfl, rfl⟩) rfl (Or.inr ⟨_, rfl⟩) h67.1 h67.2 dc_Model_init_138 ?_
  refine RC_bnM (fun m68 => ?_)
  refine RC_aload_n dc_Model_init_141 rfl rfl ?_
  refine RC_iconst dc_Model_init_142 ?_
  refine RC_chk (fun h69 => ?_)
  refine RC_newaI (n := 2) rfl (by decide) h69.1 h69.2 xar_I dc_Model_init_143 ?_
  refine RC_bnM (fun m70 => ?_)
  refine RC_chk (fun h71 => ?_)
  refine RC_putR gf_Model_62 (by decide) (Or.inr ⟨rfl, rfl, rfl⟩) rfl (Or.inr ⟨_, rfl⟩) h71.1 h71.2 dc_Model_init_145 ?_
  refine RC_bnM (fun m72 => ?_)
  refine RC_aload_n dc_Model_init_148 rfl rfl ?_
  refine RC_iconst dc_Model_init_149 ?_
  refine RC_chk (fun h73 => ?_)
  refine RC_newaI (n := 2) rfl (by decide) h73.1 h73.2 xar_I dc_Model_init_150 ?_
  refine RC_bnM (fun m74 => ?_)
  refine RC_chk (fun h75 => ?_)
  refine RC_putR gf_Model_65 (by decide) (Or.inr ⟨rfl, rfl, rfl⟩) rfl (Or.inr ⟨_, rfl⟩) h75.1 h75.2 dc_Model_init_152 ?_
  refine RC_bnM (fun m76 => ?_)
  refine RC_aload_n dc_Model_init_155 rfl rfl ?_
  refine RC_sipush dc_Model_init_156 ?_
  refine RC_chk (fun h77 => ?_)
  refine RC_newaI (n := 2000) rfl (by decide) h77.1 h77.2 xar_I dc_Model_init_159 ?_
  refine RC_bnM (fun m78 => ?_)
  refine RC_chk (fun h79 => ?_)
  refine RC_putR gf_Model_68 (by decide) (Or.inr ⟨rfl, rfl, rfl⟩) rfl (Or.inr ⟨_, rfl⟩) h79.1 h79.2 dc_Model_init_161 ?_
  refine RC_bnM (fun m80 => ?_)
  refine RC_aload_n dc_Model_init_164 rfl rfl ?_
  refine RC_bipush dc_Model_init_165 ?_
  refine RC_chk (fun h81 => ?_)
  refine RC_newaI (n := 7) rfl (by decide) h81.1 h81.2 xar_I dc_Model_init_167 ?_
  refine RC_bnM (fun m82 => ?_)
  refine RC_chk (fun h83 => ?_)
  refine RC_putR gf_Model_71 (by decide) (Or.inr ⟨rfl, rfl, rfl⟩) rfl (Or.inr ⟨_, rfl⟩) h83.1 h83.2 dc_Model_init_169 ?_
  refine RC_bnM (fun m84 => ?_)
  refine RC_aload_n dc_Model_init_172 rfl rfl ?_
  refine RC_bipush dc_Model_init_173 ?_
  refine RC_chk (fun h85 => ?_)
  refine RC_newaZ (n := 7) rfl (by decide) h85.1 h85.2 xar_Z dc_Model_init_175 ?_
  refine RC_bnM (fun m86 => ?_)
  refine RC_chk (fun h87 => ?_)
  refine RC_putR gf_Model_74 (by decide) (Or.inr ⟨rfl, rfl, rfl⟩) rfl (Or.inr ⟨_, rfl⟩) h87.1 h87.2 dc_Model_init_177 ?_
  refine RC_bnM (fun m88 => ?_)
  refine RC_aload_n dc_Model_init_180 rfl rfl ?_
  refine RC_bipush dc_Model_init_181 ?_
  refine RC_chk (fun h89 => ?_)
  refine RC_newaI (n := 7) rfl (by decide) h89.1 h89.2 xar_I dc_Model_init_183 ?_
  refine RC_bnM (fun m90 => ?_)
  refine RC_chk (fun h91 => ?_)
  refine RC_putR gf_Model_78 (by decide) (Or.inr ⟨rfl, rfl, rfl⟩) rfl (Or.inr ⟨_, rfl⟩) h91.1 h91.2 dc_Model_init_185 ?_
  refine RC_bnM (fun m92 => ?_)
  refine RC_aload_n dc_Model_init_188 rfl rfl ?_
  refine RC_bipush dc_Model_init_189 ?_
  refine RC_chk (fun h93 => ?_)
  refine RC_newaI (n := 7) rfl (by decide) h93.1 h93.2 xar_I dc_Model_init_191 ?_
  refine RC_bnM (fun m94 => ?_)
  refine RC_chk (fun h95 => ?_)
  refine RC_putR gf_Model_81 (by decide) (Or.inr ⟨rfl, rfl, rfl⟩) rfl (Or.inr ⟨_, rfl⟩) h95.1 h95.2 dc_Model_init_193 ?_
  refine RC_bnM (fun m96 => ?_)
  refine RC_aload_n dc_Model_init_196 rfl rfl ?_
  refine RC_bipush dc_Model_init_197 ?_
  refine RC_chk (fun h97 => ?_)
  refine RC_newaI (n := 7) rfl (by decide) h97.1 h97.2 xar_I dc_Model_init_199 ?_
  refine RC_bnM (fun m98 => ?_)
  refine RC_chk (fun h99 => ?_)
  refine RC_putR gf_Model_84 (by decide) (Or.inr ⟨rfl, rfl, rfl⟩) rfl (Or.inr ⟨_, rfl⟩) h99.1 h99.2 dc_Model_init_201 ?_
  refine RC_bnM (fun m100 => ?_)
  refine RC_aload_n dc_Model_init_204 rfl rfl ?_
  refine RC_bipush dc_Model_init_205 ?_
  refine RC_chk (fun h101 => ?_)
  refine RC_newaI (n := 7) rfl (by decide) h101.1 h101.2 xar_I dc_Model_init_207 ?_
  refine RC_bnM (fun m102 => ?_)
  refine RC_chk (fun h103 => ?_)
  refine RC_putR gf_Model_87 (by decide) (Or.inr ⟨rfl, rfl, rfl⟩) rfl (Or.inr ⟨_, rfl⟩) h103.1 h103.2 dc_Model_init_209 ?_
  refine RC_bnM (fun m104 => ?_)
  refine RC_aload_n dc_Model_init_212 rfl rfl ?_
  refine RC_bipush dc_Model_init_213 ?_
  refine RC_chk (fun h105 => ?_)
  refine RC_newaI (n := 7) rfl (by decide) h105.1 h105.2 xar_I dc_Model_init_215 ?_
  refine RC_bnM (fun m106 => ?_)
  refine RC_chk (fun h107 => ?_)
  refine RC_putR gf_Model_90 (by decide) (Or.inr ⟨rfl, rfl, rfl⟩) rfl (Or.inr ⟨_, rfl⟩) h107.1 h107.2 dc_Model_init_217 ?_
  refine RC_bnM (fun m108 => ?_)
  refine RC_aload_n dc_Model_init_220 rfl rfl ?_
  refine RC_bipush dc_Model_init_221 ?_
  refine RC_chk (fun h109 => ?_)
  refine RC_newaI (n := 7) rfl (by decide) h109.1 h109.2 xar_I dc_Model_init_223 ?_
  refine RC_bnM (fun m110 => ?_)
  refine RC_chk (fun h111 => ?_)
  refine RC_putR gf_Model_93 (by decide) (Or.inr ⟨rfl, rfl, rfl⟩) rfl (Or.inr ⟨_, rfl⟩) h111.1 h111.2 dc_Model_init_225 ?_
  refine RC_bnM (fun m112 => ?_)
  refine RC_aload_n dc_Model_init_228 rfl rfl ?_
  refine RC_bipush dc_Model_init_229 ?_
  refine RC_chk (fun h113 => ?_)
  refine RC_newaI (n := 7) rfl (by decide) h113.1 h113.2 xar_I dc_Model_init_231 ?_
  refine RC_bnM (fun m114 => ?_)
  refine RC_chk (fun h115 => ?_)
  refine RC_putR gf_Model_96 (by decide) (Or.inr ⟨rfl, rfl, rfl⟩) rfl (Or.inr ⟨_, rfl⟩) h115.1 h115.2 dc_Model_init_233 ?_
  refine RC_bnM (fun m116 => ?_)
  refine RC_aload_n dc_Model_init_236 rfl rfl ?_
  refine RC_bipush dc_Model_init_237 ?_
  refine RC_chk (fun h117 => ?_)
  refine RC_newaI (n := 7) rfl (by decide) h117.1 h117.2 xar_I dc_Model_init_239 ?_
  refine RC_bnM (fun m118 => ?_)
  refine RC_chk (fun h119 => ?_)
  refine RC_putR gf_Model_99 (by decide) (Or.inr ⟨rfl, rfl, rfl⟩) rfl (Or.inr ⟨_, rfl⟩) h119.1 h119.2 dc_Model_init_241 ?_
  refine RC_bnM (fun m120 => ?_)
  refine RC_aload_n dc_Model_init_244 rfl rfl ?_
  refine RC_bipush dc_Model_init_245 ?_
  refine RC_chk (fun h121 => ?_)
  refine RC_newaI (n := 7) rfl (by decide) h121.1 h121.2 xar_I dc_Model_init_247 ?_
  refine RC_bnM (fun m122 => ?_)
  refine RC_chk (fun h123 => ?_)
  refine RC_putR gf_Model_102 (by decide) (Or.inr ⟨rfl, rfl, rfl⟩) rfl (Or.inr ⟨_, rfl⟩) h123.1 h123.2 dc_Model_init_249 ?_
  refine RC_bnM (fun m124 => ?_)
  refine RC_aload_n dc_Model_init_252 rfl rfl ?_
  refine RC_bipush dc_Model_init_253 ?_
  refine RC_chk (fun h125 => ?_)
  refine RC_newaI (n := 20) rfl (by decide) h125.1 h125.2 xar_I dc_Model_init_255 ?_
  refine RC_bnM (fun m126 => ?_)
  refine RC_chk (fun h127 => ?_)
  refine RC_putR gf_Model_105 (by decide) (Or.inr ⟨rfl, rfl, rfl⟩) rfl (Or.inr ⟨_, rfl⟩) h127.1 h127.2 dc_Model_init_257 ?_
  refine RC_bnM (fun m128 => ?_)
  refine RC_aload_n dc_Model_init_260 rfl rfl ?_
  refine RC_bipush dc_Model_init_261 ?_
  refine RC_chk (fun h129 => ?_)
  refine RC_newaI (n := 6) rfl (by decide) h129.1 h129.2 xar_I dc_Model_init_263 ?_
  refine RC_bnM (fun m130 => ?_)
  refine RC_chk (fun h131 => ?_)
  refine RC_putR gf_Model_108 (by decide) (Or.inr ⟨rfl, rfl, rfl⟩) rfl (Or.inr ⟨_, rfl⟩) h131.1 h131.2 dc_Model_init_265 ?_
  refine RC_bnM (fun m132 => ?_)
  refine RC_aload_n dc_Model_init_268 rfl rfl ?_
  refine RC_sipush dc_Model_init_269 ?_
  refine RC_chk (fun h133 => ?_)
  refine RC_newaI (n := 180) rfl (by decide) h133.1 h133.2 xar_I dc_Model_init_272 ?_
  refine RC_bnM (fun m134 => ?_)
  refine RC_chk (fun h135 => ?_)
  refine RC_putR gf_Model_111 (by decide) (Or.inr ⟨rfl, rfl, rfl⟩) rfl (Or.inr ⟨_, rfl⟩) h135.1 h135.2 dc_Model_init_274 ?_
  refine RC_bnM (fun m136 => ?_)
  refine RC_aload_n dc_Model_init_277 rfl rfl ?_
  refine RC_sipush dc_Model_init_278 ?_
  refine RC_chk (fun h137 => ?_)
  refine RC_newaI (n := 180) rfl (by decide) h137.1 h137.2 xar_I dc_Model_init_281 ?_
  refine RC_bnM (fun m138 => ?_)
  refine RC_chk (fun h139 => ?_)
  refine RC_putR gf_Model_114 (by decide) (Or.inr ⟨rfl, rfl, rfl⟩) rfl (Or.inr ⟨_, rfl⟩) h139.1 h139.2 dc_Model_init_283 ?_
  refine RC_bnM (fun m140 => ?_)
  refine RC_aload_n dc_Model_init_286 rfl rfl ?_
  refine RC_sipush dc_Model_init_287 ?_
  refine RC_chk (fun h141 => ?_)
  refine RC_newaI (n := 180) rfl (by decide) h141.1 h141.2 xar_I dc_Model_init_290 ?_
  refine RC_bnM (fun m142 => ?_)
  refine RC_chk (fun h143 => ?_)
  refine RC_putR gf_Model_117 (by decide) (Or.inr ⟨rfl, rfl, rfl⟩) rfl (Or.inr ⟨_, rfl⟩) h143.1 h143.2 dc_Model_init_292 ?_
  refine RC_bnM (fun m144 => ?_)
  refine RC_aload_n dc_Model_init_295 rfl rfl ?_
  refine RC_iconst dc_Model_init_296 ?_
  refine RC_chk (fun h145 => ?_)
  refine RC_newaI (n := 5) rfl (by decide) h145.1 h145.2 xar_I dc_Model_init_297 ?_
  refine RC_bnM (fun m146 => ?_)
  refine RC_chk (fun h147 => ?_)
  refine RC_putR gf_Model_120 (by decide) (Or.inr ⟨rfl, rfl, rfl⟩) rfl (Or.inr ⟨_, rfl⟩) h147.1 h147.2 dc_Model_init_299 ?_
  refine RC_bnM (fun m148 => ?_)
  refine RC_aload_n dc_Model_init_302 rfl rfl ?_
  refine RC_bipush dc_Model_init_303 ?_
  refine RC_chk (fun h149 => ?_)
  refine RC_newaI (n := 40) rfl (by decide) h149.1 h149.2 xar_I dc_Model_init_305 ?_
  refine RC_bnM (fun m150 => ?_)
  refine RC_chk (fun h151 => ?_)
  refine RC_putR gf_Model_123 (by decide) (Or.inr ⟨rfl, rfl, rfl⟩) rfl (Or.inr ⟨_, rfl⟩) h151.1 h151.2 dc_Model_init_307 ?_
  refine RC_bnM (fun m152 => ?_)
  refine RC_aload_n dc_Model_init_310 rfl rfl ?_
  refine RC_bipush dc_Model_init_311 ?_
  refine RC_chk (fun h153 => ?_)
  refine RC_newaI (n := 40) rfl (by decide) h153.1 h153.2 xar_I dc_Model_init_313 ?_
  refine RC_bnM (fun m154 => ?_)
  refine RC_chk (fun h155 => ?_)
  refine RC_putR gf_Model_126 (by decide) (Or.inr ⟨rfl, rfl, rfl⟩) rfl (Or.inr ⟨_, rfl⟩) h155.1 h155.2 dc_Model_init_315 ?_
  refine RC_bnM (fun m156 => ?_)
  refine RC_aload_n dc_Model_init_318 rfl rfl ?_
  refine RC_bipush dc_Model_init_319 ?_
  refine RC_chk (fun h157 => ?_)
  refine RC_newaZ (n := 40) rfl (by decide) h157.1 h157.2 xar_Z dc_Model_init_321 ?_
  refine RC_bnM (fun m158 => ?_)
  refine RC_chk (fun h159 => ?_)
  refine RC_putR gf_Model_129 (by decide) (Or.inr ⟨rfl, rfl, rfl⟩) rfl (Or.inr ⟨_, rfl⟩) h159.1 h159.2 dc_Model_init_323 ?_
  refine RC_bnM (fun m160 => ?_)
  refine RC_aload_n dc_Model_init_326 rfl rfl ?_
  refine RC_bipush dc_Model_init_327 ?_
  refine RC_chk (fun h161 => ?_)
  refine RC_newaI (n := 30) rfl (by decide) h161.1 h161.2 xar_I dc_Model_init_329 ?_
  refine RC_bnM (fun m162 => ?_)
  refine RC_chk (fun h163 => ?_)
  refine RC_putR gf_Model_132 (by decide) (Or.inr ⟨rfl, rfl, rfl⟩) rfl (Or.inr ⟨_, rfl⟩) h163.1 h163.2 dc_Model_init_331 ?_
  refine RC_bnM (fun m164 => ?_)
  refine RC_aload_n dc_Model_init_334 rfl rfl ?_
  refine RC_bipush dc_Model_init_335 ?_
  refine RC_chk (fun h165 => ?_)
  refine RC_newaI (n := 16) rfl (by decide) h165.1 h165.2 xar_I dc_Model_init_337 ?_
  refine RC_bnM (fun m166 => ?_)
  refine RC_chk (fun h167 => ?_)
  refine RC_putR gf_Model_135 (by decide) (Or.inr ⟨rfl, rfl, rfl⟩) rfl (Or.inr ⟨_, rfl⟩) h167.1 h167.2 dc_Model_init_339 ?_
  refine RC_bnM (fun m168 => ?_)
  refine RC_aload_n dc_Model_init_342 rfl rfl ?_
  refine RC_bipush dc_Model_init_343 ?_
  refine RC_chk (fun h169 => ?_)
  refine RC_newaI (n := 16) rfl (by decide) h169.1 h169.2 xar_I dc_Model_init_345 ?_
  refine RC_bnM (fun m170 => ?_)
  refine RC_chk (fun h171 => ?_)
  refine RC_putR gf_Model_138 (by decide) (Or.inr ⟨rfl, rfl, rfl⟩) rfl (Or.inr ⟨_, rfl⟩) h171.1 h171.2 dc_Model_init_347 ?_
  refine RC_bnM (fun m172 => ?_)
  refine RC_aload_n dc_Model_init_350 rfl rfl ?_
  refine RC_bipush dc_Model_init_351 ?_
  refine RC_chk (fun h173 => ?_)
  refine RC_newaI (n := 64) rfl (by decide) h173.1 h173.2 xar_I dc_Model_init_353 ?_
  refine RC_bnM (fun m174 => ?_)
  refine RC_chk (fun h175 => ?_)
  refine RC_putR gf_Model_141 (by decide) (Or.inr ⟨rfl, rfl, rfl⟩) rfl (Or.inr ⟨_, rfl⟩) h175.1 h175.2 dc_Model_init_355 ?_
  refine RC_bnM (fun m176 => ?_)
  refine RC_aload_n dc_Model_init_358 rfl rfl ?_
  refine RC_sipush dc_Model_init_359 ?_
  refine RC_chk (fun h177 => ?_)
  refine RC_newaI (n := 256) rfl (by decide) h177.1 h177.2 xar_I dc_Model_init_362 ?_
  refine RC_bnM (fun m178 => ?_)
  refine RC_chk (fun h179 => ?_)
  refine RC_putR gf_Model_144 (by decide) (Or.inr ⟨rfl, rfl, rfl⟩) rfl (Or.inr ⟨_, rfl⟩) h179.1 h179.2 dc_Model_init_364 ?_
  refine RC_bnM (fun m180 => ?_)
  refine RC_aload_n dc_Model_init_367 rfl rfl ?_
  refine RC_iconst dc_Model_init_368 ?_
  refine RC_chk (fun h181 => ?_)
  refine RC_newaZ (n := 4) rfl (by decide) h181.1 h181.2 xar_Z dc_Model_init_369 ?_
  refine RC_bnM (fun m182 => ?_)
  refine RC_chk (fun h183 => ?_)
  refine RC_putR gf_Model_147 (by decide) (Or.inr ⟨rfl, rfl, rfl⟩) rfl (Or.inr ⟨_, rfl⟩) h183.1 h183.2 dc_Model_init_371 ?_
  refine RC_bnM (fun m184 => ?_)
  refine RC_aload_n dc_Model_init_374 rfl rfl ?_
  refine RC_bipush dc_Model_init_375 ?_
  refine RC_chk (fun h185 => ?_)
  refine RC_newaI (n := 36) rfl (by decide) h185.1 h185.2 xar_I dc_Model_init_377 ?_
  refine RC_bnM (fun m186 => ?_)
  refine RC_chk (fun h187 => ?_)
  refine RC_putR gf_Model_150 (by decide) (Or.inr ⟨rfl, rfl, rfl⟩) rfl (Or.inr ⟨_, rfl⟩) h187.1 h187.2 dc_Model_init_379 ?_
  refine RC_bnM (fun m188 => ?_)
  refine RC_aload_n dc_Model_init_382 rfl rfl ?_
  refine RC_sipush dc_Model_init_383 ?_
  refine RC_chk (fun h189 => ?_)
  refine RC_newaI (n := 1440) rfl (by decide) h189.1 h189.2 xar_I dc_Model_init_386 ?_
  refine RC_bnM (fun m190 => ?_)
  refine RC_chk (fun h191 => ?_)
  refine RC_putR gf_Model_153 (by decide) (Or.inr ⟨rfl, rfl, rfl⟩) rfl (Or.inr ⟨_, rfl⟩) h191.1 h191.2 dc_Model_init_388 ?_
  refine RC_bnM (fun m192 => ?_)
  refine RC_aload_n dc_Model_init_391 rfl rfl ?_
  refine RC_bipush dc_Model_init_392 ?_
  refine RC_chk (fun h193 => ?_)
  refine RC_newaI (n := 6) rfl (by decide) h193.1 h193.2 xar_I dc_Model_init_394 ?_
  refine RC_bnM (fun m194 => ?_)
  refine RC_chk (fun h195 => ?_)
  refine RC_putR gf_Model_156 (by decide) (Or.inr ⟨rfl, rfl, rfl⟩) rfl (Or.inr ⟨_, rfl⟩) h195.1 h195.2 dc_Model_init_396 ?_
  refine RC_bnM (fun m196 => ?_)
  refine RC_aload_n dc_Model_init_399 rfl rfl ?_
  refine RC_bipush dc_Model_init_400 ?_
  refine RC_chk (fun h197 => ?_)
  refine RC_newaI (n := 6) rfl (by decide) h197.1 h197.2 xar_I dc_Model_init_402 ?_
  refine RC_bnM (fun m198 => ?_)
  refine RC_chk (fun h199 => ?_)
  refine RC_putR gf_Model_159 (by decide) (Or.inr ⟨rfl, rfl, rfl⟩) rfl (Or.inr ⟨_, rfl⟩) h199.1 h199.2 dc_Model_init_404 ?_
  refine RC_bnM (fun m200 => ?_)
  refine RC_aload_n dc_Model_init_407 rfl rfl ?_
  refine RC_bipush dc_Model_init_408 ?_
  refine RC_chk (fun h201 => ?_)
  refine RC_newaZ (n := 6) rfl (by decide) h201.1 h201.2 xar_Z dc_Model_init_410 ?_
  refine RC_bnM (fun m202 => ?_)
  refine RC_chk (fun h203 => ?_)
  refine RC_putR gf_Model_162 (by decide) (Or.inr ⟨rfl, rfl, rfl⟩) rfl (Or.inr ⟨_, rfl⟩) h203.1 h203.2 dc_Model_init_412 ?_
  refine RC_bnM (fun m204 => ?_)
  refine RC_aload_n dc_Model_init_415 rfl rfl ?_
  refine RC_bipush dc_Model_init_416 ?_
  refine RC_chk (fun h205 => ?_)
  refine RC_newaI (n := 64) rfl (by decide) h205.1 h205.2 xar_I dc_Model_init_418 ?_
  refine RC_bnM (fun m206 => ?_)
  refine RC_chk (fun h207 => ?_)
  refine RC_putR gf_Model_165 (by decide) (Or.inr ⟨rfl, rfl, rfl⟩) rfl (Or.inr ⟨_, rfl⟩) h207.1 h207.2 dc_Model_init_420 ?_
  refine RC_bnM (fun m208 => ?_)
  refine RC_aload_n dc_Model_init_423 rfl rfl ?_
  refine RC_bipush dc_Model_init_424 ?_
  refine RC_chk (fun h209 => ?_)
  refine RC_newaI (n := 6) rfl (by decide) h209.1 h209.2 xar_I dc_Model_init_426 ?_
  refine RC_bnM (fun m210 => ?_)
  refine RC_chk (fun h211 => ?_)
  refine RC_putR gf_Model_168 (by decide) (Or.inr ⟨rfl, rfl, rfl⟩) rfl (Or.inr ⟨_, rfl⟩) h211.1 h211.2 dc_Model_init_428 ?_
  refine RC_bnM (fun m212 => ?_)
  refine RC_aload_n dc_Model_init_431 rfl rfl ?_
  refine RC_bipush dc_Model_init_432 ?_
  refine RC_chk (fun h213 => ?_)
  refine RC_newaI (n := 6) rfl (by decide) h213.1 h213.2 xar_I dc_Model_init_434 ?_
  refine RC_bnM (fun m214 => ?_)
  refine RC_chk (fun h215 => ?_)
  refine RC_putR gf_Model_171 (by decide) (Or.inr ⟨rfl, rfl, rfl⟩) rfl (Or.inr ⟨_, rfl⟩) h215.1 h215.2 dc_Model_init_436 ?_
  refine RC_bnM (fun m216 => ?_)
  refine RC_aload_n dc_Model_init_439 rfl rfl ?_
  refine RC_bipush dc_Model_init_440 ?_
  refine RC_chk (fun h217 => ?_)
  refine RC_newaI (n := 6) rfl (by decide) h217.1 h217.2 xar_I dc_Model_init_442 ?_
  refine RC_bnM (fun m218 => ?_)
  refine RC_chk (fun h219 => ?_)
  refine RC_putR gf_Model_174 (by decide) (Or.inr ⟨rfl, rfl, rfl⟩) rfl (Or.inr ⟨_, rfl⟩) h219.1 h219.2 dc_Model_init_444 ?_
  refine RC_bnM (fun m220 => ?_)
  refine RC_aload_n dc_Model_init_447 rfl rfl ?_
  refine RC_sipush dc_Model_init_448 ?_
  refine RC_chk (fun h221 => ?_)
  refine RC_newaJ (n := 1440) rfl (by decide) h221.1 h221.2 xar_J dc_Model_init_451 ?_
  refine RC_bnM (fun m222 => ?_)
  refine RC_chk (fun h223 => ?_)
  refine RC_putR gf_Model_177 (by decide) (Or.inr ⟨rfl, rfl, rfl⟩) rfl (Or.inr ⟨_, rfl⟩) h223.1 h223.2 dc_Model_init_453 ?_
  refine RC_bnM (fun m224 => ?_)
  refine RC_aload_n dc_Model_init_456 rfl rfl ?_
  refine RC_chk (fun h227 => ?_)
  refine RC_callV (As := []) (rest := []) (t1 := (mN m224 + 0)) ymi_Model_forgets mv_Model_forgets yml_Model_180 h227.2.1 h227.2.2 (by omega) h227.1 (Nat.le_of_ble_eq_true rfl) rfl (Nat.le_of_ble_eq_true rfl) dc_Model_init_457 (fun rq mq hq => pc_Model_forgets (mN m224 + 0) th m224 hq) (fun r225 m226 => ?_)
  refine RC_chk (fun h228 => ?_)
  exact RC_vret rfl h228 dc_Model_init_460
