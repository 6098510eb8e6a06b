/-! The words of the throw. -/
section Ew
def exN : String := "java/util/NoSuchElementException"
def exU : List String := ["java/lang/RuntimeException", "java/lang/Exception"]
def exL : List Cond := Cond.classLink "HillClock" 308 exN :: Cond.initialized exN :: vx_at0 "HillClock" 310 exN exU
set_option maxRecDepth 100000 in
theorem ex_mem : (exL.all fun w => tables_1.any fun v => decide (v = w)) = true := by decide +kernel
theorem ex_in : ∀ w ∈ exL, w ∈ tables_1 := fun w hw => by
  have h := List.all_eq_true.mp ex_mem w hw
  obtain ⟨v, v1, v2⟩ := List.any_eq_true.mp h
  have e : v = w := of_decide_eq_true v2
  rw [← e]; exact v1
theorem ex_ot : (exL.all vx_ot) = true := by decide +kernel
def exB : Cond → Bool
  | .declares _ => true
  | .castable _ _ => true
  | _ => false
theorem ex_gb : (exL.all fun w => goodWord w || exB w) = true := by decide +kernel
/-- the words of the throw that must ride, and the two statics -/
def exF (E : EE) (U : State) : Prop := (∀ w ∈ exL, exB w = true → va_Nw w U) ∧ vx_Zq Bundle.tN "UNASSIGNED_STACK" Bundle.steD (nw E) U U.heap ∧ vx_Zq Bundle.tN "SUPPRESSED_SENTINEL" Bundle.listD (nw E) U U.heap
theorem exB_warm {w : Cond} {s U : State} (hW : s.WarmedH U.vm) (h : exB w = true) (hZ : va_Nw w s) : va_Nw w U := by
  cases w <;> first | exact va_Nw.warmD hW hZ | exact va_Nw.warmC hW hZ | (exact absurd h (by decide)) | cases h
end Ew
