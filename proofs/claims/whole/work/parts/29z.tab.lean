section Tab
variable {E : EE} {M : MT} {o o1 o2 : Res} {pc : Nat} {lv : List (Nat × VV)} {st : List VV} {mem : Mm}
theorem RO_tab5 {dflt lo hi : Int} {offs : Array Int} {len : Nat} {x : Int} {o10 o11 o12 o13 o14 od : Res} {t0 t1 t2 t3 t4 td : Nat} (hd : decode M.2.1 pc = .ok (.tableswitch dflt lo hi offs, len)) (hh : hi + 1 = lo + 5) (htd : (pc : Int) + dflt = (td : Int)) (hto : offs.toList.map (fun z => (pc : Int) + z) = ([t0, t1, t2, t3, t4] : List Nat).map (fun z : Nat => (z : Int))) (k0 : RO E M o10 t0 lv st mem) (k1 : RO E M o11 t1 lv st mem) (k2 : RO E M o12 t2 lv st mem) (k3 : RO E M o13 t3 lv st mem) (k4 : RO E M o14 t4 lv st mem) (kd : RO E M od td lv st mem) : RO E M (swi x lo [o10, o11, o12, o13, o14] od) pc lv (vi x :: st) mem :=
  RO_table (ts := [t0, t1, t2, t3, t4]) hd hh htd hto (fun i t q ht hq => match i, ht, hq with
  | 0, ht, hq => by simp at ht hq; subst ht; subst hq; exact k0
  | 1, ht, hq => by simp at ht hq; subst ht; subst hq; exact k1
  | 2, ht, hq => by simp at ht hq; subst ht; subst hq; exact k2
  | 3, ht, hq => by simp at ht hq; subst ht; subst hq; exact k3
  | 4, ht, hq => by simp at ht hq; subst ht; subst hq; exact k4
  | i + 5, ht, hq => by simp at ht) rfl kd
theorem RO_tab6 {dflt lo hi : Int} {offs : Array Int} {len : Nat} {x : Int} {o10 o11 o12 o13 o14 o15 od : Res} {t0 t1 t2 t3 t4 t5 td : Nat} (hd : decode M.2.1 pc = .ok (.tableswitch dflt lo hi offs, len)) (hh : hi + 1 = lo + 6) (htd : (pc : Int) + dflt = (td : Int)) (hto : offs.toList.map (fun z => (pc : Int) + z) = ([t0, t1, t2, t3, t4, t5] : List Nat).map (fun z : Nat => (z : Int))) (k0 : RO E M o10 t0 lv st mem) (k1 : RO E M o11 t1 lv st mem) (k2 : RO E M o12 t2 lv st mem) (k3 : RO E M o13 t3 lv st mem) (k4 : RO E M o14 t4 lv st mem) (k5 : RO E M o15 t5 lv st mem) (kd : RO E M od td lv st mem) : RO E M (swi x lo [o10, o11, o12, o13, o14, o15] od) pc lv (vi x :: st) mem :=
  RO_table (ts := [t0, t1, t2, t3, t4, t5]) hd hh htd hto (fun i t q ht hq => match i, ht, hq with
  | 0, ht, hq => by simp at ht hq; subst ht; subst hq; exact k0
  | 1, ht, hq => by simp at ht hq; subst ht; subst hq; exact k1
  | 2, ht, hq => by simp at ht hq; subst ht; subst hq; exact k2
  | 3, ht, hq => by simp at ht hq; subst ht; subst hq; exact k3
  | 4, ht, hq => by simp at ht hq; subst ht; subst hq; exact k4
  | 5, ht, hq => by simp at ht hq; subst ht; subst hq; exact k5
  | i + 6, ht, hq => by simp at ht) rfl kd
theorem RO_tab7 {dflt lo hi : Int} {offs : Array Int} {len : Nat} {x : Int} {o10 o11 o12 o13 o14 o15 o16 od : Res} {t0 t1 t2 t3 t4 t5 t6 td : Nat} (hd : decode M.2.1 pc = .ok (.tableswitch dflt lo hi offs, len)) (hh : hi + 1 = lo + 7) (htd : (pc : Int) + dflt = (td : Int)) (hto : offs.toList.map (fun z => (pc : Int) + z) = ([t0, t1, t2, t3, t4, t5, t6] : List Nat).map (fun z : Nat => (z : Int))) (k0 : RO E M o10 t0 lv st mem) (k1 : RO E M o11 t1 lv st mem) (k2 : RO E M o12 t2 lv st mem) (k3 : RO E M o13 t3 lv st mem) (k4 : RO E M o14 t4 lv st mem) (k5 : RO E M o15 t5 lv st mem) (k6 : RO E M o16 t6 lv st mem) (kd : RO E M od td lv st mem) : RO E M (swi x lo [o10, o11, o12, o13, o14, o15, o16] od) pc lv (vi x :: st) mem :=
  RO_table (ts := [t0, t1, t2, t3, t4, t5, t6]) hd hh htd hto (fun i t q ht hq => match i, ht, hq with
  | 0, ht, hq => by simp at ht hq; subst ht; subst hq; exact k0
  | 1, ht, hq => by simp at ht hq; subst ht; subst hq; exact k1
  | 2, ht, hq => by simp at ht hq; subst ht; subst hq; exact k2
  | 3, ht, hq => by simp at ht hq; subst ht; subst hq; exact k3
  | 4, ht, hq => by simp at ht hq; subst ht; subst hq; exact k4
  | 5, ht, hq => by simp at ht hq; subst ht; subst hq; exact k5
  | 6, ht, hq => by simp at ht hq; subst ht; subst hq; exact k6
  | i + 7, ht, hq => by simp at ht) rfl kd
end Tab
theorem gn_Sight_25 : Cond.fieldLinkNest "HillClock$Sight" 25 (ly_cn 8) (ly_T 8 2).2.1 (ly_T 8 2).2.2.1 "HillClock" ∈ nsW := by decide +kernel
theorem gn_Sight_30 : Cond.fieldLinkNest "HillClock$Sight" 30 (ly_cn 8) (ly_T 8 4).2.1 (ly_T 8 4).2.2.1 "HillClock" ∈ nsW := by decide +kernel
theorem gn_Sight_33 : Cond.fieldLinkNest "HillClock$Sight" 33 (ly_cn 8) (ly_T 8 5).2.1 (ly_T 8 5).2.2.1 "HillClock" ∈ nsW := by decide +kernel
theorem gn_Sight_36 : Cond.fieldLinkNest "HillClock$Sight" 36 (ly_cn 8) (ly_T 8 3).2.1 (ly_T 8 3).2.2.1 "HillClock" ∈ nsW := by decide +kernel
theorem mn_HillsReader_19 : Cond.methodLinkNest "HillClock$HillsReader" 19 yn_Hills_begin "HillClock" ∈ nsW := by decide +kernel
theorem mn_HillsReader_264 : Cond.methodLinkNest "HillClock$HillsReader" 264 yn_Law_readLevel "HillClock" ∈ nsW := by decide +kernel
