/-! Rows of a method that may throw. -/
section Er
def THR : Int := -9
def rmY (d : Nat) : Room := { frames := d, cells := 1, slots := 6, locals := 40 * d }
def QY (E : EE) (r : Int) (mem' : Mm) : Array Value → State → Outcome → State → Prop := fun a st o t => r ≠ THR ∧ QR E (some .int) r mem' a st o t
def XY (E : EE) (r : Int) (mem' : Mm) : String → State → State → Prop := fun cls st t => r = THR ∧ cls = exN ∧ Wd E mem' t.heap ∧ va_F (nw E) st t
def ZY (E : EE) : ZT := fun r mem' _ _ _ s _ args below _ _ => vx_MQ below (QY E r mem') (XY E r mem') args s 1 6 (nw E)
def FY (E : EE) (d : Nat) : FT := fun _ _ R s _ _ _ _ c => R = rmY d ∧ (∀ x ∈ c.exceptionTable.toList, False) ∧ exF E s ∧ (eL E).stackTraces = false
def MetY (E : EE) (d : Nat) (y : MethodName) (bytes : ByteArray) (maxL : Nat) (as : List VV) (mem : Mm) (r : Int) (mem' : Mm) : Prop :=
  vx_Met (eL E) y (.code y bytes maxL (some .int) :: TBL) (rmY d) (va_Pc (as.map (cv E)) (fun U => okS as ∧ Wd E mem U.heap ∧ EV E U ∧ exF E U)) (QY E r mem') (XY E r mem') 1 6 (nw E)
theorem W_wide {p : Program} {l : Launch} {e : Env} {R : Room} {s : State} {m : MethodId} {args : Array Value} {below : List Frame} {meth : Method} {c : Code} {H : Heap} {locs : List Loc} {cells slots k n : Nat} {Q : State → Prop} {g : JFrame} (h1 : cells ≤ k) (h2 : slots ≤ n) (kk : W p l e R s m args below meth c H locs k n Q g) : W p l e R s m args below meth c H locs cells slots Q g := fun T hT X => kk T hT (stand_widen X h1 h2)
variable {E : EE} {M : MT} {pc d : Nat} {lv : List (Nat × VV)} {mem : Mm}
theorem RG_iretY {x : Int} (hr : M.2.2.2.1 = some .int) (hx : x ≠ THR) (hd : decode M.2.1 pc = .ok (.ireturn, 1)) : RG E M 0 0 (FY E d) (ZY E) (some (x, mem)) pc lv [vi x] mem := by
  intro r mem' ho p e R s m args below meth c hF hFx H locs ls hL hs hw hS
  cases ho
  have hk : meth.locks = false := hF.2.2.2.2.2.2.1
  refine vx_ret (W_wide (k := 1) (n := 6) (by decide) (by decide) (W.iret hF.1 hF.2.1 (hF.2.2.2.1.trans hr) (fun t ht hW => ⟨hx, ?_, ?_, by rw [ht]; exact hw, hS.F ht⟩) hS.2.2 hd))
  · rfl
  · exact okS_h hs
end Er
