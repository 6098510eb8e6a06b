/-! The class's rests, its contract. -/
section Pfr
theorem pf_Clock_rests {E : EE} (hst : (eL E).stackTraces = false) (p1 p2 p3 p4 : Int) (mem : Mm) {r : Int} {mem9 : Mm} (h : fn_Clock_rests p1 p2 p3 p4 mem = some (r, mem9)) : MetY E 6 yn_Clock_rests cd_Clock_rests 8 [rf 0, vi p1, vi p2, vi p3, vi p4] mem r mem9 := by
  refine vx_ofW (cc := cd_Clock_rests) (maxL := 8) (ret := some .int) (by decide +kernel) rfl ?_
  intro p e s m args below meth c s₁ B hml ht hv
  obtain ⟨rfl, hoA, hw, hev, hx⟩ := hv
  have hl := lv_entry ([rf 0, vi p1, vi p2, vi p3, vi p4].map (cv E)) (n := 8) (by rw [sl_len]; exact Nat.le_of_ble_eq_true rfl)
  rw [lg_entry_eq]
  exact rg_Clock_rests p1 p2 p3 p4 mem r mem9 h p e _ s m _ below meth c ⟨B.exec, B.bytes, hml, B.returns, findClass_of_methodNamed B.named, fun w hw => atoms_spec (ws := .code yn_Clock_rests cd_Clock_rests 8 (some .int) :: TBL) B.pre w (List.mem_cons_of_mem _ hw), B.notSynchronized, hev⟩ ⟨rfl, ht, hx, hst⟩ s.heap [] _ ⟨hl.1, hl.2.1, fun i v hg => ⟨hl.2.2 _ (args_mem E [rf 0, vi p1, vi p2, vi p3, vi p4] 0 i v (lget_mem hg)), hoA v (args_ok [rf 0, vi p1, vi p2, vi p3, vi p4] 0 i v (lget_mem hg))⟩⟩ (fun v hv => by cases hv) hw va_S.rf
end Pfr
