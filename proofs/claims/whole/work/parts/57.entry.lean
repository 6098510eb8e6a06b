theorem ei_0 : Cond.instantiable (ly_cn 0) (ly_tg 0).length ∈ TBL := tb_i1 94 (by decide +kernel) (by decide +kernel)
theorem ei_1 : Cond.instantiable (ly_cn 1) (ly_tg 1).length ∈ TBL := tb_i1 78 (by decide +kernel) (by decide +kernel)
theorem ei_2 : Cond.instantiable (ly_cn 2) (ly_tg 2).length ∈ TBL := tb_i1 102 (by decide +kernel) (by decide +kernel)
theorem ei_3 : Cond.instantiable (ly_cn 3) (ly_tg 3).length ∈ TBL := tb_i2 31 (by decide +kernel) (by decide +kernel)
theorem ei_4 : Cond.instantiable (ly_cn 4) (ly_tg 4).length ∈ TBL := tb_i2 166 (by decide +kernel) (by decide +kernel)
theorem ei_5 : Cond.instantiable (ly_cn 5) (ly_tg 5).length ∈ TBL := tb_i2 52 (by decide +kernel) (by decide +kernel)
theorem ei_6 : Cond.instantiable (ly_cn 6) (ly_tg 6).length ∈ TBL := tb_i2 58 (by decide +kernel) (by decide +kernel)
theorem ei_7 : Cond.instantiable (ly_cn 7) (ly_tg 7).length ∈ TBL := tb_i1 37 (by decide +kernel) (by decide +kernel)
theorem ei_8 : Cond.instantiable (ly_cn 8) (ly_tg 8).length ∈ TBL := tb_i2 131 (by decide +kernel) (by decide +kernel)
theorem ei_9 : Cond.instantiable (ly_cn 9) (ly_tg 9).length ∈ TBL := tb_i1 122 (by decide +kernel) (by decide +kernel)
theorem ei_10 : Cond.instantiable (ly_cn 10) (ly_tg 10).length ∈ TBL := tb_i1 29 (by decide +kernel) (by decide +kernel)
theorem ei_11 : Cond.instantiable (ly_cn 11) (ly_tg 11).length ∈ TBL := tb_i6 102 (by decide +kernel) (by decide +kernel)
theorem ei_all {ci : Nat} (h : ci < 12) : Cond.instantiable (ly_cn ci) (ly_tg ci).length ∈ TBL := by
  rcases ly_c12 h with rfl | rfl | rfl | rfl | rfl | rfl | rfl | rfl | rfl | rfl | rfl | rfl
  · exact ei_0
  · exact ei_1
  · exact ei_2
  · exact ei_3
  · exact ei_4
  · exact ei_5
  · exact ei_6
  · exact ei_7
  · exact ei_8
  · exact ei_9
  · exact ei_10
  · exact ei_11
theorem ew_lays : ∀ i, i < 29 → Cond.laysStatic "HillClock$Word" (wdN.getD i "") "LHillClock$Word;" ∈ tables_1 := by
  intro i hi
  have h : (List.range 29).map (fun i => Cond.laysStatic "HillClock$Word" (wdN.getD i "") "LHillClock$Word;") = ([613, 662, 690, 713, 715, 717, 719, 726, 740, 742, 744, 750, 756, 758, 840, 842, 844, 846, 848, 705, 707, 709, 711, 777, 793, 795, 640, 642, 644] : List Nat).filterMap (fun i => tables_1[i]?) := by decide +kernel
  have h1 : Cond.laysStatic "HillClock$Word" (wdN.getD i "") "LHillClock$Word;" ∈ (List.range 29).map (fun i => Cond.laysStatic "HillClock$Word" (wdN.getD i "") "LHillClock$Word;") := List.mem_map.mpr ⟨i, List.mem_range.mpr hi, rfl⟩
  rw [h] at h1
  obtain ⟨j, -, hj⟩ := List.mem_filterMap.mp h1
  exact List.mem_of_getElem? hj
theorem en_ns : ∀ w ∈ nsW, w ∈ tables_1 := by
  intro w hw
  have h : nsW = ([38, 103, 123, 272, 293, 299, 336, 369, 372, 379, 381, 383, 385, 407, 496, 512, 767, 2012] : List Nat).filterMap (fun i => tables_1[i]?) := by decide +kernel
  rw [h] at hw
  obtain ⟨j, -, hj⟩ := List.mem_filterMap.mp hw
  exact List.mem_of_getElem? hj
theorem ew_all : Cond.laysStatic "HillClock$Word" "ALL" "[LHillClock$Word;" ∈ tables_1 := List.mem_of_getElem? (i := 513) (by decide +kernel)
theorem ew_cs : Cond.laysStatic "java/lang/String" "COMPACT_STRINGS" "Z" ∈ tables_1 := List.mem_of_getElem? (i := 535) (by decide +kernel)
theorem ew_str : Cond.stringRef "HillClock$Tape" 56 "()<=+-*;" ∈ tables_1 := List.mem_of_getElem? (i := 521) (by decide +kernel)
theorem ew_iw : Cond.initialized "HillClock$Word" ∈ tables_1 := List.mem_of_getElem? (i := 15) (by decide +kernel)
theorem ew_is : Cond.initialized "java/lang/String" ∈ tables_1 := List.mem_of_getElem? (i := 16) (by decide +kernel)
theorem ea_I : Cond.arrayClass .int ∈ tables_1 := List.mem_of_getElem? (i := 121) (by decide +kernel)
theorem ea_J : Cond.arrayClass .long ∈ tables_1 := List.mem_of_getElem? (i := 120) (by decide +kernel)
theorem ea_C : Cond.arrayClass .char ∈ tables_1 := List.mem_of_getElem? (i := 76) (by decide +kernel)
theorem ea_Z : Cond.arrayClass .boolean ∈ tables_1 := List.mem_of_getElem? (i := 1528) (by decide +kernel)
theorem ea_W : Cond.arrayOver (.object "HillClock$Walker") ∈ tables_1 := List.mem_of_getElem? (i := 100) (by decide +kernel)
theorem ea_D : Cond.arrayOver (.object "HillClock$Standing") ∈ tables_1 := List.mem_of_getElem? (i := 366) (by decide +kernel)
theorem ea_S : Cond.arrayOver (.object "HillClock$State") ∈ tables_1 := List.mem_of_getElem? (i := 368) (by decide +kernel)
abbrev fl1 : List Cond := flatC (Jvm.Cond.and given_1 narrow_1)
theorem ew_ex : ∀ i, i < 29 → Cond.exactly (.static "HillClock$Word" (wdN.getD i "") "LHillClock$Word;") "HillClock$Word" ∈ fl1 := by decide +kernel
theorem ew_or : ∀ i, i < 29 → Cond.eq (.field (.static "HillClock$Word" (wdN.getD i "") "LHillClock$Word;") "java/lang/Enum" "ordinal" "I") (.int (Int32.ofNat i)) ∈ fl1 := by decide +kernel
theorem ew_le : ∀ i, i < 29 → Cond.eq (.field (.static "HillClock$Word" (wdN.getD i "") "LHillClock$Word;") "HillClock$Word" "letters" "J") (.long (Int64.ofInt (wdL.getD i 0))) ∈ fl1 := by decide +kernel
theorem ew_el : ∀ i, i < 29 → Cond.eq (.elem (.static "HillClock$Word" "ALL" "[LHillClock$Word;") (.int (Int32.ofNat i))) (.static "HillClock$Word" (wdN.getD i "") "LHillClock$Word;") ∈ fl1 := by decide +kernel
theorem ew_aa : Cond.arrayOf (.static "HillClock$Word" "ALL" "[LHillClock$Word;") (.object "HillClock$Word") ∈ fl1 := by decide +kernel
theorem ew_al : Cond.eq (.length (.static "HillClock$Word" "ALL" "[LHillClock$Word;")) (.int 29) ∈ fl1 := by decide +kernel
theorem ew_c1 : Cond.eq (.static "java/lang/String" "COMPACT_STRINGS" "Z") (.int 1) ∈ fl1 := by decide +kernel
theorem es_ex : Cond.exactly (.string "HillClock$Tape" 56) "java/lang/String" ∈ fl1 := by decide +kernel
theorem es_co : Cond.eq (.field (.string "HillClock$Tape" 56) "java/lang/String" "coder" "B") (.int 0) ∈ fl1 := by decide +kernel
theorem es_ar : Cond.arrayOf (.field (.string "HillClock$Tape" 56) "java/lang/String" "value" "[B") .byte ∈ fl1 := by decide +kernel
theorem es_le : Cond.eq (.length (.field (.string "HillClock$Tape" 56) "java/lang/String" "value" "[B")) (.int 8) ∈ fl1 := by decide +kernel
theorem es_el : ∀ j, j < 8 → Cond.eq (.elem (.field (.string "HillClock$Tape" 56) "java/lang/String" "value" "[B") (.int (Int32.ofNat j))) (.int ((([[40, 41, 60, 61, 43, 45, 42, 59]] : List (List Int32)).getD 0 []).getD j 0)) ∈ fl1 := by decide +kernel
theorem eq_two {args : Array Value} {s : State} {t u : Term} (h : (Cond.eq t u).before args s = true) : ∃ w, t.eval args s none [] s = some w ∧ u.eval args s none [] s = some w := Cond.eq_one h
theorem arr_of {args : Array Value} {s : State} {ty : FieldType} (hk : ty = .int ∨ ty = .long ∨ ty = .char ∨ ty = .boolean) (h : (Cond.arrayClass ty).before args s = true) : ∃ cA, ArrOfT s cA ty ∧ va_RA s cA ty := by
  obtain ⟨c, k, comp, h1, h2, h3⟩ := Cond.arrayClass_spec h
  refine ⟨c, fun n z => ⟨(fun k h => by cases h), k, h2, comp, h3⟩, ?_⟩
  rcases hk with rfl | rfl | rfl | rfl <;> exact h1
theorem arr_ov {args : Array Value} {s : State} {C : String} (h : (Cond.arrayOver (.object C)).before args s = true) : ∃ cA, ArrOfT s cA (.object C) ∧ va_RA s cA (.object C) := by
  obtain ⟨comp, c, k, h1, h2, h3, h4, h5⟩ := Cond.arrayOver_spec h
  exact ⟨c, fun n z => ⟨(fun k h => by cases h), k, h3, comp, h4⟩, k, comp, h3, h4, h1, h5⟩
theorem ev_start (l : Launch) {s : State} {args : Array Value} (hts : ∀ w ∈ lw_tbl, w.before args s = true) (hfl : ∀ c ∈ fl1, c.before args s = true) : ∃ E : EE, eL E = l ∧ eB E = s.heap.size ∧ EV E s ∧ AO3 s := by
  have ht : ∀ w ∈ TBL, w.before args s = true := fun w h => hts w (List.mem_filter.mp h).1
  have h1 : ∀ w ∈ tables_1, w.before args s = true := fun w h => hts w (List.mem_append_right _ h)
  have hA : ∀ a : Nat, a < s.heap.size → ¬ (fun q => s.heap.size ≤ q) a := fun a h z => by have : s.heap.size ≤ a := z; omega
  have hcl : ∀ ci : Nat, ∃ q : ClassId × (Nat → Nat), ci < 12 → u_Kn s (ly_cn ci) (ly_T ci) (ly_tg ci).length q.1 q.2 := by
    intro ci
    by_cases h : ci < 12
    · obtain ⟨cC, iS, hk⟩ := u_known ht (ly_lay h) (ht _ (ei_all h))
      exact ⟨(cC, iS), fun _ => hk⟩
    · exact ⟨(0, fun _ => 0), fun z => absurd z h⟩
  obtain ⟨D, hD⟩ := Classical.axiomOfChoice hcl
  obtain ⟨a12, b12⟩ := arr_of (Or.inl rfl) (h1 _ ea_I)
  obtain ⟨a13, b13⟩ := arr_of (Or.inr (Or.inl rfl)) (h1 _ ea_J)
  obtain ⟨a14, b14⟩ := arr_of (Or.inr (Or.inr (Or.inl rfl))) (h1 _ ea_C)
  obtain ⟨a15, b15⟩ := arr_of (Or.inr (Or.inr (Or.inr rfl))) (h1 _ ea_Z)
  obtain ⟨a16, b16⟩ := arr_ov (h1 _ ea_D)
  obtain ⟨a17, b17⟩ := arr_ov (h1 _ ea_S)
  obtain ⟨a18, b18⟩ := arr_ov (h1 _ ea_W)
  have hwd : ∀ i : Nat, ∃ t : Nat, i < 29 → (Term.static "HillClock$Word" (wdN.getD i "") "LHillClock$Word;").eval args s none [] s = some (.ref t) ∧ va_O "HillClock$Word" t (fun q => s.heap.size ≤ q) s s.heap := by
    intro i
    by_cases hi : i < 29
    · obtain ⟨a, c, cell, k, q1, q2, q3, q4, q5, q6, -⟩ := Cond.exactly_spec (hfl _ (ew_ex i hi))
      exact ⟨a, fun _ => ⟨q1, cell, q3, q5, by rw [q6]; exact q2, hA a (Array.getElem?_eq_some_iff.mp q3).1⟩⟩
    · exact ⟨0, fun h => absurd h hi⟩
  obtain ⟨ad, had⟩ := Classical.axiomOfChoice hwd
  obtain ⟨tA, hA1, hA2⟩ := va_Tof (s := s) (args := args) (tm := .static "HillClock$Word" "ALL" "[LHillClock$Word;") (N := 29) (f := fun j => .ref (ad j)) (A := fun q => s.heap.size ≤ q) (by decide) (hfl _ ew_aa) (va_eqt (hfl _ ew_al)) (fun j hj => by
    obtain ⟨w, e1, e2⟩ := eq_two (hfl _ (ew_el j hj))
    rw [(had j hj).1] at e2
    rw [e1]
    exact e2.symm) hA
  obtain ⟨adK, adV, hS1, hS2⟩ := vk_Sof (s := s) (args := args) (N := 1) (tm := fun _ => .string "HillClock$Tape" 56) (len := [8]) (byt := [[40, 41, 60, 61, 43, 45, 42, 59]]) (A := fun q => s.heap.size ≤ q) (fun i hi => by rw [show i = 0 by omega]; decide) (fun i _ => hfl _ es_ex) (fun i _ => hfl _ es_co) (fun i _ => hfl _ es_ar) (fun i hi => by rw [show i = 0 by omega]; exact hfl _ es_le) (fun i hi j hj => by
    have hi0 : i = 0 := by omega
    subst hi0
    exact hfl _ (es_el j hj)) (fun i j hi hj hij => absurd (show i = j by omega) hij) hA
  let eWf : Nat → Nat := fun i => if i < 29 then ad i else if i = 29 then tA else if i = 30 then adK 0 else adV 0
  let eAf : Nat → ClassId := fun k => if k = 12 then a12 else if k = 13 then a13 else if k = 14 then a14 else if k = 15 then a15 else if k = 16 then a16 else if k = 17 then a17 else a18
  have eW1 : ∀ i, i < 29 → eWf i = ad i := fun i hi => if_pos hi
  refine ⟨(l, fun c => (D c).1, fun c => (D c).2, eAf, s.heap.size, eWf), rfl, rfl, ⟨⟨fun c q hq => ?_, fun k q hk => ?_⟩, fun w hw => ?_, Nat.le_refl _, ⟨fun i hi => ⟨?_, ?_, ?_⟩, fun i j hi hj e => ?_, ?_, ?_, ?_, ?_⟩, ?_⟩, va_AO.of (h1 _ ea_W), va_AO.of (h1 _ ea_D), va_AO.of (h1 _ ea_S)⟩
  · have hc : c < 12 := (List.getElem?_eq_some_iff.mp hq).1
    rw [ly_clg hc] at hq
    cases hq
    exact hD c hc
  · have hk7 : k < 7 := (List.getElem?_eq_some_iff.mp hk).1
    have hk8 : k = 0 ∨ k = 1 ∨ k = 2 ∨ k = 3 ∨ k = 4 ∨ k = 5 ∨ k = 6 := by omega
    rcases hk8 with rfl | rfl | rfl | rfl | rfl | rfl | rfl <;> cases hk
    · exact b12
    · exact b13
    · exact b14
    · exact b15
    · exact b16
    · exact b17
    · exact b18
  · refine va_Nw.of ?_ (h1 w (en_ns w hw))
    rcases ns_kind w hw with ⟨_, _, _, _, _, _, rfl⟩ | ⟨_, _, _, _, rfl⟩ <;> rfl
  · show va_Z "HillClock$Word" (wdN.getD i "") "LHillClock$Word;" (.ref (eWf i)) _ s s.heap
    rw [eW1 i hi]
    exact va_Zref (h1 _ (ew_lays i hi)) (h1 _ ew_iw) (had i hi).1 hA
  · show va_O "HillClock$Word" (eWf i) _ s s.heap
    rw [eW1 i hi]
    exact (had i hi).2
  · show va_OF "HillClock$Word" "letters" "J" _ (eWf i) _ s s.heap
    rw [eW1 i hi]
    exact vk_OFof (had i hi).1 (va_eqtl (hfl _ (ew_le i hi))) hA
  · have e : eWf i = eWf j := e
    rw [eW1 i hi, eW1 j hj] at e
    have o1 := va_eqt (hfl _ (ew_or i hi))
    have o2 := va_eqt (hfl _ (ew_or j hj))
    rw [va_fe (had i hi).1] at o1
    rw [va_fe (had j hj).1, ← e, o1] at o2
    have o3 : Int32.ofNat i = Int32.ofNat j := Value.int.inj (Option.some.inj o2)
    exact (nI_eq (by omega) (by omega)).mp o3
  · exact va_Zref (h1 _ ew_all) (h1 _ ew_iw) hA1 hA
  · obtain ⟨cell, r1, r2, r3, r4, r5, r6, r7⟩ := hA2
    exact ⟨cell, r1, r2, r3, r4, r5, fun j hj => by rw [r6 j hj]; show some (Value.ref (ad j)) = some (.ref (eWf j)); rw [eW1 j hj], r7⟩
  · exact va_Zof (h1 _ ew_cs) (h1 _ ew_is) (va_eqt (hfl _ ew_c1)) hA
  · refine ⟨fun i hi => ?_, fun i j hi hj _ => by omega⟩
    have hi0 : i = 0 := by omega
    subst hi0
    exact hS1.1 0 hi
  · exact vk_R.of (A := args) (h1 _ ew_str) (hS2 0 (by decide))
