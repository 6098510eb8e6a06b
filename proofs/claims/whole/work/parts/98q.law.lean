/-! HillClockLaw.rests: catches the throw. -/
section Lr
def yn_Law_rests : MethodName := ⟨"HillClockLaw", "rests", "(LHillClock;IIII[J)I"⟩
abbrev cd_Law_rests : ByteArray := method_3_code
abbrev mt_Law_rests : MT := ("HillClockLaw", cd_Law_rests, 7, (some .int), 7)
def hh_Law_rests : List (Nat × Nat × Nat × Nat) := [(0, 14, 17, 13)]
theorem cw_Law_rests : Cond.codeWith yn_Law_rests cd_Law_rests 7 (some .int) hh_Law_rests ∈ TBL := tb_i6 28 (by decide +kernel) (by decide +kernel)
theorem ms_Law_rests : Cond.static yn_Law_rests ∈ TBL := tb_i6 27 (by decide +kernel) (by decide +kernel)
theorem ml_Law_126 : Cond.methodLink "HillClockLaw" 126 yn_Law_rests ∈ TBL := tb_i6 26 (by decide +kernel) (by decide +kernel)
theorem ml_Law_7 : Cond.methodLink "HillClockLaw" 7 yn_Clock_rests ∈ TBL := tb_i6 30 (by decide +kernel) (by decide +kernel)
theorem kl_Law_13 : Cond.classLink "HillClockLaw" 13 exN ∈ TBL := tb_i6 29 (by decide +kernel) (by decide +kernel)
theorem in_Law : Cond.initialized "HillClockLaw" ∈ TBL := tb_i1 0 (by decide +kernel) (by decide +kernel)
theorem mi_Clock_rests : MI yn_Clock_rests cd_Clock_rests 8 (some .int) 4 := ⟨tb_i6 33 (by decide +kernel) (by decide +kernel), tb_i1 1 (by decide +kernel) (by decide +kernel), by decide +kernel, by decide +kernel, by decide +kernel, by decide⟩
theorem mv_Clock_rests : MV yn_Clock_rests 10 := ⟨tb_i6 31 (by decide +kernel) (by decide +kernel), tb_i6 32 (by decide +kernel) (by decide +kernel), by decide, rfl⟩
theorem dc_Law_rests_0 : decode cd_Law_rests 0 = .ok (.aload 5, 2) := by decide +kernel
theorem dc_Law_rests_2 : decode cd_Law_rests 2 = .ok (.iconst 0, 1) := by decide +kernel
theorem dc_Law_rests_3 : decode cd_Law_rests 3 = .ok (.aload_n 0, 1) := by decide +kernel
theorem dc_Law_rests_4 : decode cd_Law_rests 4 = .ok (.iload_n 1, 1) := by decide +kernel
theorem dc_Law_rests_5 : decode cd_Law_rests 5 = .ok (.iload_n 2, 1) := by decide +kernel
theorem dc_Law_rests_6 : decode cd_Law_rests 6 = .ok (.iload_n 3, 1) := by decide +kernel
theorem dc_Law_rests_7 : decode cd_Law_rests 7 = .ok (.iload 4, 2) := by decide +kernel
theorem dc_Law_rests_9 : decode cd_Law_rests 9 = .ok (.invokevirtual 7, 3) := by decide +kernel
theorem dc_Law_rests_12 : decode cd_Law_rests 12 = .ok (.i2l, 1) := by decide +kernel
theorem dc_Law_rests_13 : decode cd_Law_rests 13 = .ok (.lastore, 1) := by decide +kernel
theorem dc_Law_rests_14 : decode cd_Law_rests 14 = .ok (.goto 7, 3) := by decide +kernel
theorem dc_Law_rests_17 : decode cd_Law_rests 17 = .ok (.astore 6, 2) := by decide +kernel
theorem dc_Law_rests_19 : decode cd_Law_rests 19 = .ok (.iconst 1, 1) := by decide +kernel
theorem dc_Law_rests_20 : decode cd_Law_rests 20 = .ok (.ireturn, 1) := by decide +kernel
theorem dc_Law_rests_21 : decode cd_Law_rests 21 = .ok (.iconst 0, 1) := by decide +kernel
theorem dc_Law_rests_22 : decode cd_Law_rests 22 = .ok (.ireturn, 1) := by decide +kernel
def ZL (E : EE) : ZT := fun r mem' _ _ _ s _ args below _ _ => vx_MQ below (QR E (some .int) r mem') (fun _ _ _ => False) args s 1 6 (nw E)
def FL (E : EE) : FT := fun _ _ R s _ _ _ _ c => R = rmY 7 ∧ c.exceptionTable.toList = tableOf hh_Law_rests ∧ exF E s ∧ (eL E).stackTraces = false
theorem RG_iretL {E : EE} {pc : Nat} {lv : List (Nat × VV)} {mem : Mm} {x : Int} (hd : decode cd_Law_rests pc = .ok (.ireturn, 1)) : RG E mt_Law_rests 1 6 (FL E) (ZL E) (some (x, mem)) pc lv [vi x] mem := by
  intro r mem' ho p e R s m args below meth c hF hFx H locs ls hL hs hw hS
  cases ho
  have hk : meth.locks = false := hF.2.2.2.2.2.2.1
  refine vx_ret (W.iret hF.1 hF.2.1 hF.2.2.2.1 (fun t ht hW => ⟨?_, ?_, by rw [ht]; exact hw, hS.F ht⟩) hS.2.2 hd)
  · rfl
  · exact okS_h hs
def fn_Law_rests (p1 p2 p3 p4 : Int) (mem : Mm) : Res := match fn_Clock_rests p1 p2 p3 p4 mem with
  | none => none
  | some (r1, m1) => if r1 = THR then some (1, m1) else some (0, mst m1 260 0 r1)
theorem rg_Law_rests {E : EE} (p1 p2 p3 p4 : Int) (mem : Mm) {r1 : Int} {m1 : Mm} (h1 : fn_Clock_rests p1 p2 p3 p4 mem = some (r1, m1)) (hst : (eL E).stackTraces = false) : RG E mt_Law_rests 0 0 (FL E) (ZL E) (fn_Law_rests p1 p2 p3 p4 mem) 0 [(0, rf 0), (1, vi p1), (2, vi p2), (3, vi p3), (4, vi p4), (5, rf 260)] [] mem := by
  refine RG_aload dc_Law_rests_0 rfl ?_
  refine RG_iconst dc_Law_rests_2 ?_
  refine RG_aload_n dc_Law_rests_3 rfl rfl ?_
  refine RG_iload_n dc_Law_rests_4 rfl rfl ?_
  refine RG_iload_n dc_Law_rests_5 rfl rfl ?_
  refine RG_iload_n dc_Law_rests_6 rfl rfl ?_
  refine RG_iload dc_Law_rests_7 rfl ?_
  refine RG_callVY (As := [vi p1, vi p2, vi p3, vi p4]) (rest := [vi 0, rf 260]) (a := 0) mi_Clock_rests mv_Clock_rests ml_Law_7 rfl ?_ rfl (by decide) dc_Law_rests_9 (pf_Clock_rests hst p1 p2 p3 p4 mem h1) ?_ ?_
  · intro p e R s m args below meth c hx
    obtain ⟨rfl, -, hx, -⟩ := hx
    exact ⟨by decide, by decide, by decide, by decide, hx⟩
  · intro hne hok
    unfold fn_Law_rests
    rw [h1]
    simp only [if_neg hne]
    refine RG_i2l dc_Law_rests_12 ?_
    refine RG_last (a := 260) (n := 1) rfl (by decide) (by decide) (by decide) dc_Law_rests_13 ?_
    refine RG_goto (tgt := 21) dc_Law_rests_14 rfl ?_
    refine RG_iconst dc_Law_rests_21 ?_
    exact RG_iretL dc_Law_rests_22
  · intro he r mem' ho p e R s m args below meth c hF hFx H locs ls q ce hL hw hS hce hcv hcl
    have hw2 := ex_words hF hFx.2.2.1
    have ho2 : some ((1 : Int), m1) = some (r, mem') := by
      rw [← ho]
      unfold fn_Law_rests
      rw [h1]
      simp only [if_pos he]
    refine vx_catch (own := "HillClockLaw") (name := exN) (E := exN) hF.2.2.2.2.1 [] (ExceptionTableEntry.mk 0 14 17 13) [] hFx.2.1 (fun z hz => by cases hz) (by decide) (by decide) (hF.2.2.2.2.2.1 _ kl_Law_13) (hw2 _ (by decide +kernel)) hce hcv hcl ?_
    have hg : RG E mt_Law_rests 1 6 (FL E) (ZL E) (some ((1 : Int), m1)) 19 [] [] m1 := by
      refine RG_iconst dc_Law_rests_19 ?_
      exact RG_iretL dc_Law_rests_20
    refine lv_astore hF.1 hF.2.1 dc_Law_rests_17 (LO_has hL) (by decide) rfl (fun ls' h' => ?_)
    exact hg r mem' ho2 p e R s m args below meth c hF hFx H locs ls' ⟨h'.1, h'.2.1, fun i v hv => by cases hv⟩ (fun v hv => by cases hv) hw hS
def MetL (E : EE) (as : List VV) (mem : Mm) (r : Int) (mem' : Mm) : Prop :=
  vx_Met (eL E) yn_Law_rests (.codeWith yn_Law_rests cd_Law_rests 7 (some .int) hh_Law_rests :: TBL) (rmY 7) (va_Pc (as.map (cv E)) (fun U => okS as ∧ Wd E mem U.heap ∧ EV E U ∧ exF E U)) (QR E (some .int) r mem') (fun _ _ _ => False) 1 6 (nw E)
theorem pf_Law_rests {E : EE} (hst : (eL E).stackTraces = false) (p1 p2 p3 p4 : Int) (mem : Mm) {r : Int} {mem9 : Mm} (h : fn_Law_rests p1 p2 p3 p4 mem = some (r, mem9)) : MetL E [rf 0, vi p1, vi p2, vi p3, vi p4, rf 260] mem r mem9 := by
  refine vx_ofWH (cc := cd_Law_rests) (maxL := 7) (ret := some .int) (hh := hh_Law_rests) (by decide +kernel) rfl ?_
  intro p e s m args below meth c s₁ B hml hv
  obtain ⟨rfl, hoA, hw, hev, hx⟩ := hv
  have hl := lv_entry ([rf 0, vi p1, vi p2, vi p3, vi p4, rf 260].map (cv E)) (n := 7) (by rw [sl_len]; exact Nat.le_of_ble_eq_true rfl)
  have hts : ∀ w ∈ (Cond.codeWith yn_Law_rests cd_Law_rests 7 (some .int) hh_Law_rests :: TBL), w.before (([rf 0, vi p1, vi p2, vi p3, vi p4, rf 260].map (cv E)).toArray) s = true := fun w hw => atoms_spec (ws := .codeWith yn_Law_rests cd_Law_rests 7 (some .int) hh_Law_rests :: TBL) B.pre w hw
  have ht : c.exceptionTable.toList = tableOf hh_Law_rests := vx_table (x := yn_Law_rests) B (hts _ List.mem_cons_self)
  obtain ⟨r1, m1, h1⟩ : ∃ r1 m1, fn_Clock_rests p1 p2 p3 p4 mem = some (r1, m1) := by
    cases h9 : fn_Clock_rests p1 p2 p3 p4 mem with
    | none => unfold fn_Law_rests at h; rw [h9] at h; cases h
    | some q => exact ⟨q.1, q.2, rfl⟩
  rw [lg_entry_eq]
  exact rg_Law_rests p1 p2 p3 p4 mem h1 hst r mem9 h p e _ s m _ below meth c ⟨B.exec, B.bytes, hml, B.returns, findClass_of_methodNamed B.named, fun w hw => hts w (List.mem_cons_of_mem _ hw), B.notSynchronized, hev⟩ ⟨rfl, ht, hx, hst⟩ s.heap [] _ ⟨hl.1, hl.2.1, fun i v hg => ⟨hl.2.2 _ (args_mem E [rf 0, vi p1, vi p2, vi p3, vi p4, rf 260] 0 i v (lget_mem hg)), hoA v (args_ok [rf 0, vi p1, vi p2, vi p3, vi p4, rf 260] 0 i v (lget_mem hg))⟩⟩ (fun v hv => by cases hv) hw va_S.rf
end Lr
