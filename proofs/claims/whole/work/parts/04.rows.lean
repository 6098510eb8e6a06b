/-! The tables' good words; what a frame has; the judgement RO: from here the method ends as the function says. -/
def TBL : List Cond := lw_tbl.filter goodWord
theorem tb_mem {w : Cond} (i : Nat) (h : tables_1[i]? = some w) (g : goodWord w = true) : w ∈ TBL := List.mem_filter.mpr ⟨List.mem_append_right _ (List.mem_of_getElem? h), g⟩
theorem tb_sel {w : Cond} (i : Nat) (h : (k2_sels lw_privs)[i]? = some w) (g : goodWord w = true) : w ∈ TBL := List.mem_filter.mpr ⟨List.mem_append_left _ (List.mem_of_getElem? h), g⟩
theorem tb_good {w : Cond} (h : w ∈ TBL) : (w.onTables && w.keeps) = true ∨ ∃ ty, w = .arrayClass ty := good_of_word (List.mem_filter.mp h).2
theorem tb_pay {args : Array Value} {s : State} (hts : ∀ w ∈ TBL, w.before args s = true) {w : Cond} (h : w ∈ TBL) (a' : Array Value) (U : State) (hW : s.WarmedH U.vm) : w.before a' U = true := word_at hW (tb_good h) (hts w h)
theorem tb_list {ws : List Cond} (ps : List Nat) (hp : ws = ps.filterMap (fun i => tables_1[i]?)) (hg : ws.all goodWord = true) : ∀ w ∈ ws, w ∈ TBL := by
  intro w hw
  have h1 := List.all_eq_true.mp hg w hw
  rw [hp] at hw
  obtain ⟨i, -, hi⟩ := List.mem_filterMap.mp hw
  exact tb_mem i hi h1
theorem ly_l0 : ∀ w ∈ u_ws (ly_cn 0) (ly_T 0) (ly_tg 0).length, w ∈ TBL := tb_list [239, 241, 243, 245, 247, 249, 251, 253, 255, 257, 259, 261, 263, 265, 267] (by decide +kernel) (by decide +kernel)
theorem ly_l1 : ∀ w ∈ u_ws (ly_cn 1) (ly_T 1) (ly_tg 1).length, w ∈ TBL := tb_list [86, 88, 90] (by decide +kernel) (by decide +kernel)
theorem ly_l2 : ∀ w ∈ u_ws (ly_cn 2) (ly_T 2) (ly_tg 2).length, w ∈ TBL := tb_list [111, 113, 115, 117] (by decide +kernel) (by decide +kernel)
theorem ly_l3 : ∀ w ∈ u_ws (ly_cn 3) (ly_T 3) (ly_tg 3).length, w ∈ TBL := tb_list [282, 284, 286, 288] (by decide +kernel) (by decide +kernel)
theorem ly_l4 : ∀ w ∈ u_ws (ly_cn 4) (ly_T 4) (ly_tg 4).length, w ∈ TBL := tb_list [413, 415] (by decide +kernel) (by decide +kernel)
theorem ly_l5 : ∀ w ∈ u_ws (ly_cn 5) (ly_T 5) (ly_tg 5).length, w ∈ TBL := tb_list [349, 351, 353, 355, 357, 359, 361, 363] (by decide +kernel) (by decide +kernel)
theorem ly_l6 : ∀ w ∈ u_ws (ly_cn 6) (ly_T 6) (ly_tg 6).length, w ∈ TBL := tb_list [322, 324, 326, 328, 330, 332] (by decide +kernel) (by decide +kernel)
theorem ly_l7 : ∀ w ∈ u_ws (ly_cn 7) (ly_T 7) (ly_tg 7).length, w ∈ TBL := tb_list [57, 59, 61, 63, 65, 67, 69, 71, 73] (by decide +kernel) (by decide +kernel)
theorem ly_l8 : ∀ w ∈ u_ws (ly_cn 8) (ly_T 8) (ly_tg 8).length, w ∈ TBL := tb_list [388, 390, 392, 394, 396, 398, 400, 402] (by decide +kernel) (by decide +kernel)
theorem ly_l9 : ∀ w ∈ u_ws (ly_cn 9) (ly_T 9) (ly_tg 9).length, w ∈ TBL := tb_list [150, 152, 154, 156, 158, 160, 162, 164] (by decide +kernel) (by decide +kernel)
theorem ly_l10 : ∀ w ∈ u_ws (ly_cn 10) (ly_T 10) (ly_tg 10).length, w ∈ TBL := tb_list [437, 439, 441, 443, 445, 447, 449, 451, 453, 455, 457, 459, 461, 463, 465, 467, 469, 471, 473] (by decide +kernel) (by decide +kernel)
theorem ly_l11 : ∀ w ∈ u_ws (ly_cn 11) (ly_T 11) (ly_tg 11).length, w ∈ TBL := tb_list [1383, 1385, 1387, 1389, 1391, 1393, 1395, 1397, 1399, 1401, 1403, 1405, 1407, 1409, 1411, 1413, 1415, 1417, 1419, 1421, 1423, 1425, 1427, 1429, 1431, 1433, 1435, 1437, 1439, 1441, 1443, 1445, 1447, 1449, 1451, 1453, 1455, 1457, 1459, 1461, 1463, 1465, 1467, 1469, 1471, 1473, 1475, 1477, 1479, 1481, 1483, 1485, 1487, 1489, 1491, 1493, 1495, 1497, 1499, 1501, 1503, 1505, 1507, 1509, 1511, 1513, 1515, 1517, 1519, 1521, 1523, 1525] (by decide +kernel) (by decide +kernel)
theorem ly_c12 {ci : Nat} (h : ci < 12) : ci = 0 ∨ ci = 1 ∨ ci = 2 ∨ ci = 3 ∨ ci = 4 ∨ ci = 5 ∨ ci = 6 ∨ ci = 7 ∨ ci = 8 ∨ ci = 9 ∨ ci = 10 ∨ ci = 11 := by omega
theorem ly_clg {ci : Nat} (h : ci < 12) : ly_cl[ci]? = some (ly_cn ci, ly_T ci, (ly_tg ci).length) := by
  rcases ly_c12 h with rfl | rfl | rfl | rfl | rfl | rfl | rfl | rfl | rfl | rfl | rfl | rfl <;> rfl
theorem ly_lay {ci : Nat} (h : ci < 12) : ∀ w ∈ u_ws (ly_cn ci) (ly_T ci) (ly_tg ci).length, w ∈ TBL := by
  rcases ly_c12 h with rfl | rfl | rfl | rfl | rfl | rfl | rfl | rfl | rfl | rfl | rfl | rfl
  · exact ly_l0
  · exact ly_l1
  · exact ly_l2
  · exact ly_l3
  · exact ly_l4
  · exact ly_l5
  · exact ly_l6
  · exact ly_l7
  · exact ly_l8
  · exact ly_l9
  · exact ly_l10
  · exact ly_l11
theorem ly_hty {ci : Nat} (h : ci < 12) : ∀ k, k < (ly_tg ci).length → parseFieldDescriptor (ly_T ci k).2.2.1 = some (ly_ty ci k) := by
  rcases ly_c12 h with rfl | rfl | rfl | rfl | rfl | rfl | rfl | rfl | rfl | rfl | rfl | rfl <;> decide +kernel
theorem ly_hnm {ci : Nat} (h : ci < 12) : ∀ a, a < (ly_tg ci).length → ∀ b, b < (ly_tg ci).length → a ≠ b → (ly_T ci a).2.1 ≠ (ly_T ci b).2.1 := by
  rcases ly_c12 h with rfl | rfl | rfl | rfl | rfl | rfl | rfl | rfl | rfl | rfl | rfl | rfl <;> decide +kernel
def rmD (d : Nat) : Room := { frames := d, cells := 0, slots := 0, locals := 40 * d }
abbrev MT : Type := String × ByteArray × Nat × Option FieldType × Nat
def FrC (E : EE) (M : MT) (p : Program) (R : Room) (s : State) (m : MethodId) (args : Array Value) (meth : Method) (c : Code) : Prop :=
  p.tables.exec = Jvm.exec ∧ c.code = M.2.1 ∧ c.maxLocals = M.2.2.1 ∧ meth.sig.returnType = M.2.2.2.1 ∧ s.vm.findClass M.1 = some m.cls ∧ (∀ w ∈ TBL, w.before args s = true) ∧ meth.locks = false ∧ EV E s ∧ R = rmD M.2.2.2.2
def rv (ret : Option FieldType) (r : Int) : Option Value := match ret with
  | none => none
  | some .long => some (.long (Int64.ofInt r))
  | some _ => some (.int (Int32.ofInt r))
def okr (ret : Option FieldType) (r : Int) : Prop := match ret with
  | none => True
  | some .long => okL r
  | some .boolean => r = 0 ∨ r = 1
  | some _ => okI r
def QR (E : EE) (ret : Option FieldType) (r : Int) (mem' : Mm) : Array Value → State → Outcome → State → Prop := fun _ st oc t => oc = .returned (rv ret r) ∧ okr ret r ∧ Wd E mem' t.heap ∧ va_F (nw E) st t
def okS (st : List VV) : Prop := ∀ v ∈ st, okv v
theorem okS_h {v : VV} {st : List VV} (h : okS (v :: st)) : okv v := h v List.mem_cons_self
theorem okS_t {v : VV} {st : List VV} (h : okS (v :: st)) : okS st := fun w hw => h w (List.mem_cons_of_mem _ hw)
theorem okS_c {v : VV} {st : List VV} (h1 : okv v) (h : okS st) : okS (v :: st) := fun w hw => (List.mem_cons.mp hw).elim (fun e => e ▸ h1) (h w)
theorem okS_i {x : Int} {st : List VV} (h1 : okI x) (h : okS st) : okS (vi x :: st) := okS_c (v := vi x) h1 h
theorem okS_l {x : Int} {st : List VV} (h1 : okL x) (h : okS st) : okS (vl x :: st) := okS_c (v := vl x) h1 h
abbrev Res : Type := Option (Int × Mm)
def RO (E : EE) (M : MT) (o : Res) (pc : Nat) (lv : List (Nat × VV)) (st : List VV) (mem : Mm) : Prop :=
  ∀ r mem', o = some (r, mem') → ∀ (p : Program) (e : Env) (R : Room) (s : State) (m : MethodId) (args : Array Value) (below : List Frame) (meth : Method) (c : Code), FrC E M p R s m args meth c →
    ∀ (H : Heap) (locs : List Loc) (ls : Array Slot), LO E ls M.2.2.1 lv → okS st → Wd E mem H → va_S (nw E) s.heap H locs →
      W p (eL E) e R s m args below meth c H locs 0 0 (MQ below (QR E M.2.2.2.1 r mem') args s 0 0 (nw E)) (F0 m pc ls (st.map (cv E)))
def MetX (E : EE) (d : Nat) (y : MethodName) (bytes : ByteArray) (maxL : Nat) (ret : Option FieldType) (as : List VV) (mem : Mm) (r : Int) (mem' : Mm) : Prop :=
  Met (eL E) y (.code y bytes maxL ret :: TBL) (rmD d) (va_Pc (as.map (cv E)) (fun U => okS as ∧ Wd E mem U.heap ∧ EV E U)) (QR E ret r mem') 0 0 (nw E)
def bd (o : Res) (k : Int → Mm → Res) : Res := match o with
  | none => none
  | some x => k x.1 x.2
def bn {α β : Type} (e : α) (k : α → β) : β := k e
section Rows
variable {E : EE} {M : MT} {o o1 o2 : Res} {pc : Nat} {lv : List (Nat × VV)} {st : List VV} {mem : Mm}
/-- one instruction that leaves the memory -/
theorem RO_go {pc' : Nat} {st' : List VV} {lv' : List (Nat × VV)}
    (h : ∀ (p : Program) (e : Env) (R : Room) (s : State) (m : MethodId) (args : Array Value) (below : List Frame) (meth : Method) (c : Code) (H : Heap) (locs : List Loc) (ls : Array Slot) (Q : State → Prop), FrC E M p R s m args meth c → LO E ls M.2.2.1 lv → okS st → Wd E mem H → va_S (nw E) s.heap H locs →
      (∀ ls' : Array Slot, LO E ls' M.2.2.1 lv' → okS st' → W p (eL E) e R s m args below meth c H locs 0 0 Q (F0 m pc' ls' (st'.map (cv E)))) → W p (eL E) e R s m args below meth c H locs 0 0 Q (F0 m pc ls (st.map (cv E))))
    (k : RO E M o pc' lv' st' mem) : RO E M o pc lv st mem :=
  fun r mem' ho p e R s m args below meth c hF H locs ls hL hs hw hS => h p e R s m args below meth c H locs ls _ hF hL hs hw hS (fun ls' hL' hs' => k r mem' ho p e R s m args below meth c hF H locs ls' hL' hs' hw hS)
/-- the same place, with fewer locals told -/
theorem RO_sub {lv' : List (Nat × VV)} (hl : lhas lv lv') (k : RO E M o pc lv' st mem) : RO E M o pc lv st mem :=
  fun r mem' ho p e R s m args below meth c hF H locs ls hL hs hw hS => k r mem' ho p e R s m args below meth c hF H locs ls (LO_sub hL hl) hs hw hS
theorem RO_none : RO E M none pc lv st mem := fun r mem' ho => by cases ho
theorem RO_chk {c : Prop} {inst : Decidable c} (k : c → RO E M o pc lv st mem) : RO E M (@ite _ c inst o none) pc lv st mem := by
  by_cases h : c
  · rw [if_pos h]; exact k h
  · rw [if_neg h]; exact RO_none
theorem RO_bnM {e : Mm} {k : Mm → Res} (h : ∀ x, RO E M (k x) pc lv st x) : RO E M (bn e k) pc lv st e := h e
theorem RO_bnT {e : Int} {t : Nat} {k : Int → Res} (h : ∀ x, RO E M (k x) pc lv ((t, x) :: st) mem) : RO E M (bn e k) pc lv ((t, e) :: st) mem := h e
theorem RO_eq {pc' : Nat} (h : pc = pc') (k : RO E M o pc' lv st mem) : RO E M o pc lv st mem := h ▸ k
theorem RO_iconst {n : Int} (hd : decode M.2.1 pc = .ok (.iconst n, 1)) (k : RO E M o (pc + 1) lv (vi n :: st) mem) (hn : okI n := by exact ⟨by decide, by decide⟩) : RO E M o pc lv st mem :=
  RO_go (fun p e R s m args below meth c H locs ls Q hF hL hs hw hS kk => lv_iconst hF.1 hF.2.1 hd rfl (kk ls hL (okS_i hn hs))) k
theorem RO_bipush {n : Int} (hd : decode M.2.1 pc = .ok (.bipush n, 2)) (k : RO E M o (pc + 2) lv (vi n :: st) mem) (hn : okI n ∧ (Int8.ofInt n).toInt32 = Int32.ofInt n := by exact ⟨⟨by decide, by decide⟩, by decide⟩) : RO E M o pc lv st mem :=
  RO_go (fun p e R s m args below meth c H locs ls Q hF hL hs hw hS kk => lv_bipush hF.1 hF.2.1 hd hn.2 (kk ls hL (okS_i hn.1 hs))) k
theorem RO_sipush {n : Int} (hd : decode M.2.1 pc = .ok (.sipush n, 3)) (k : RO E M o (pc + 3) lv (vi n :: st) mem) (hn : okI n ∧ (Int16.ofInt n).toInt32 = Int32.ofInt n := by exact ⟨⟨by decide, by decide⟩, by decide⟩) : RO E M o pc lv st mem :=
  RO_go (fun p e R s m args below meth c H locs ls Q hF hL hs hw hS kk => lv_sipush hF.1 hF.2.1 hd hn.2 (kk ls hL (okS_i hn.1 hs))) k
theorem RO_lconst {n : Fin 2} {x : Int} (hd : decode M.2.1 pc = .ok (.lconst n, 1)) (hx : Int64.ofNat (n : Nat) = Int64.ofInt x ∧ okL x) (k : RO E M o (pc + 1) lv (vl x :: st) mem) : RO E M o pc lv st mem :=
  RO_go (fun p e R s m args below meth c H locs ls Q hF hL hs hw hS kk => lv_lconst hF.1 hF.2.1 hd hx.1 (kk ls hL (okS_l hx.2 hs))) k
theorem RO_ldc {idx : Nat} {v : Int32} {x : Int} (hw0 : Cond.constant M.1 idx v ∈ TBL) (hx : v = Int32.ofInt x ∧ okI x) (hd : decode M.2.1 pc = .ok (.ldc idx, 2)) (k : RO E M o (pc + 2) lv (vi x :: st) mem) : RO E M o pc lv st mem :=
  RO_go (fun p e R s m args below meth c H locs ls Q hF hL hs hw hS kk => by
    refine lv_ldc hF.1 hF.2.1 hF.2.2.2.2.1 (hF.2.2.2.2.2.1 _ hw0) hd ?_
    rw [hx.1]
    exact kk ls hL (okS_c hx.2 hs)) k
theorem RO_ldcw {idx : Nat} {v : Int32} {x : Int} (hw0 : Cond.constant M.1 idx v ∈ TBL) (hx : v = Int32.ofInt x ∧ okI x) (hd : decode M.2.1 pc = .ok (.ldc_w idx, 3)) (k : RO E M o (pc + 3) lv (vi x :: st) mem) : RO E M o pc lv st mem :=
  RO_go (fun p e R s m args below meth c H locs ls Q hF hL hs hw hS kk => by
    refine lv_ldcw hF.1 hF.2.1 hF.2.2.2.2.1 (hF.2.2.2.2.2.1 _ hw0) hd ?_
    rw [hx.1]
    exact kk ls hL (okS_c hx.2 hs)) k
theorem RO_ldc2 {idx : Nat} {v : Int64} {x : Int} (hw0 : Cond.constantLong M.1 idx v ∈ TBL) (hx : v = Int64.ofInt x ∧ okL x) (hd : decode M.2.1 pc = .ok (.ldc2_w idx, 3)) (k : RO E M o (pc + 3) lv (vl x :: st) mem) : RO E M o pc lv st mem :=
  RO_go (fun p e R s m args below meth c H locs ls Q hF hL hs hw hS kk => by
    refine lv_ldc2 hF.1 hF.2.1 hF.2.2.2.2.1 (hF.2.2.2.2.2.1 _ hw0) hd ?_
    rw [hx.1]
    exact kk ls hL (okS_c hx.2 hs)) k
theorem RO_iload_n {j : Fin 4} {i : Nat} {x : Int} (hd : decode M.2.1 pc = .ok (.iload_n j, 1)) (hi : (j : Nat) = i) (hg : lget lv i = some (vi x)) (k : RO E M o (pc + 1) lv (vi x :: st) mem) : RO E M o pc lv st mem :=
  RO_go (fun p e R s m args below meth c H locs ls Q hF hL hs hw hS kk => lv_iload_n hF.1 hF.2.1 hd hi (hL.2.2 _ _ hg).1 (kk ls hL (okS_c (hL.2.2 _ _ hg).2 hs))) k
theorem RO_iload {i : Nat} {x : Int} (hd : decode M.2.1 pc = .ok (.iload i, 2)) (hg : lget lv i = some (vi x)) (k : RO E M o (pc + 2) lv (vi x :: st) mem) : RO E M o pc lv st mem :=
  RO_go (fun p e R s m args below meth c H locs ls Q hF hL hs hw hS kk => lv_iload hF.1 hF.2.1 hd (hL.2.2 _ _ hg).1 (kk ls hL (okS_c (hL.2.2 _ _ hg).2 hs))) k
theorem RO_lload_n {j : Fin 4} {i : Nat} {x : Int} (hd : decode M.2.1 pc = .ok (.lload_n j, 1)) (hi : (j : Nat) = i) (hg : lget lv i = some (vl x)) (k : RO E M o (pc + 1) lv (vl x :: st) mem) : RO E M o pc lv st mem :=
  RO_go (fun p e R s m args below meth c H locs ls Q hF hL hs hw hS kk => lv_lload_n hF.1 hF.2.1 hd hi (hL.2.2 _ _ hg).1 (kk ls hL (okS_c (hL.2.2 _ _ hg).2 hs))) k
theorem RO_lload {i : Nat} {x : Int} (hd : decode M.2.1 pc = .ok (.lload i, 2)) (hg : lget lv i = some (vl x)) (k : RO E M o (pc + 2) lv (vl x :: st) mem) : RO E M o pc lv st mem :=
  RO_go (fun p e R s m args below meth c H locs ls Q hF hL hs hw hS kk => lv_lload hF.1 hF.2.1 hd (hL.2.2 _ _ hg).1 (kk ls hL (okS_c (hL.2.2 _ _ hg).2 hs))) k
theorem RO_aload_n {j : Fin 4} {i : Nat} {a : Nat} (hd : decode M.2.1 pc = .ok (.aload_n j, 1)) (hi : (j : Nat) = i) (hg : lget lv i = some (rf a)) (k : RO E M o (pc + 1) lv (rf a :: st) mem) : RO E M o pc lv st mem :=
  RO_go (fun p e R s m args below meth c H locs ls Q hF hL hs hw hS kk => lv_aload_n hF.1 hF.2.1 hd hi (hL.2.2 _ _ hg).1 (kk ls hL (okS_c (hL.2.2 _ _ hg).2 hs))) k
theorem RO_aload {i : Nat} {a : Nat} (hd : decode M.2.1 pc = .ok (.aload i, 2)) (hg : lget lv i = some (rf a)) (k : RO E M o (pc + 2) lv (rf a :: st) mem) : RO E M o pc lv st mem :=
  RO_go (fun p e R s m args below meth c H locs ls Q hF hL hs hw hS kk => lv_aload hF.1 hF.2.1 hd (hL.2.2 _ _ hg).1 (kk ls hL (okS_c (hL.2.2 _ _ hg).2 hs))) k
theorem wv_or (E : EE) (x : Int) : (x = -1 ∧ wv E x = .null) ∨ (x ≠ -1 ∧ wv E x = .ref (eW E (-x - 2).toNat)) := by
  by_cases h : x = -1
  · exact Or.inl ⟨h, if_pos h⟩
  · exact Or.inr ⟨h, if_neg h⟩
theorem RO_wload_n {j : Fin 4} {i : Nat} {x : Int} (hd : decode M.2.1 pc = .ok (.aload_n j, 1)) (hi : (j : Nat) = i) (hg : lget lv i = some (vw x)) (k : RO E M o (pc + 1) lv (vw x :: st) mem) : RO E M o pc lv st mem :=
  RO_go (fun p e R s m args below meth c H locs ls Q hF hL hs hw hS kk => by
    have h1 := (hL.2.2 _ _ hg).1
    have h2 := kk ls hL (okS_c (hL.2.2 _ _ hg).2 hs)
    change ls[i]? = some (.val (wv E x)) at h1
    change W p (eL E) e R s m args below meth c H locs 0 0 Q (F0 m (pc + 1) ls (wv E x :: st.map (cv E))) at h2
    rcases wv_or E x with ⟨-, e1⟩ | ⟨-, e1⟩
    · rw [e1] at h1 h2
      exact lv_aload_nN hF.1 hF.2.1 hd hi h1 h2
    · rw [e1] at h1 h2
      exact lv_aload_n hF.1 hF.2.1 hd hi h1 h2) k
theorem RO_istore_n {j : Fin 4} {i : Nat} {x : Int} (hd : decode M.2.1 pc = .ok (.istore_n j, 1)) (hi : (j : Nat) = i) (hn : i < M.2.2.1) (k : RO E M o (pc + 1) ((i, vi x) :: lv) st mem) : RO E M o pc lv (vi x :: st) mem :=
  RO_go (fun p e R s m args below meth c H locs ls Q hF hL hs hw hS kk => lv_istore_n hF.1 hF.2.1 hd hi (LO_has hL) hn rfl (fun ls' h' => kk ls' (LO_store1 (v := vi x) hL (by show (0 : Nat) ≠ 1; decide) (okS_h hs) h') (okS_t hs))) k
theorem RO_istore {i : Nat} {x : Int} (hd : decode M.2.1 pc = .ok (.istore i, 2)) (hn : i < M.2.2.1) (k : RO E M o (pc + 2) ((i, vi x) :: lv) st mem) : RO E M o pc lv (vi x :: st) mem :=
  RO_go (fun p e R s m args below meth c H locs ls Q hF hL hs hw hS kk => lv_istore hF.1 hF.2.1 hd (LO_has hL) hn rfl (fun ls' h' => kk ls' (LO_store1 (v := vi x) hL (by show (0 : Nat) ≠ 1; decide) (okS_h hs) h') (okS_t hs))) k
theorem RO_astore_n {j : Fin 4} {i : Nat} {a : Nat} (hd : decode M.2.1 pc = .ok (.astore_n j, 1)) (hi : (j : Nat) = i) (hn : i < M.2.2.1) (k : RO E M o (pc + 1) ((i, rf a) :: lv) st mem) : RO E M o pc lv (rf a :: st) mem :=
  RO_go (fun p e R s m args below meth c H locs ls Q hF hL hs hw hS kk => lv_astore_n hF.1 hF.2.1 hd hi (LO_has hL) hn rfl (fun ls' h' => kk ls' (LO_store1 (v := rf a) hL (by show (2 : Nat) ≠ 1; decide) (okS_h hs) h') (okS_t hs))) k
theorem RO_astore {i : Nat} {a : Nat} (hd : decode M.2.1 pc = .ok (.astore i, 2)) (hn : i < M.2.2.1) (k : RO E M o (pc + 2) ((i, rf a) :: lv) st mem) : RO E M o pc lv (rf a :: st) mem :=
  RO_go (fun p e R s m args below meth c H locs ls Q hF hL hs hw hS kk => lv_astore hF.1 hF.2.1 hd (LO_has hL) hn rfl (fun ls' h' => kk ls' (LO_store1 (v := rf a) hL (by show (2 : Nat) ≠ 1; decide) (okS_h hs) h') (okS_t hs))) k
theorem RO_wstore_n {j : Fin 4} {i : Nat} {x : Int} (hd : decode M.2.1 pc = .ok (.astore_n j, 1)) (hi : (j : Nat) = i) (hn : i < M.2.2.1) (k : RO E M o (pc + 1) ((i, vw x) :: lv) st mem) : RO E M o pc lv (vw x :: st) mem :=
  RO_go (fun p e R s m args below meth c H locs ls Q hF hL hs hw hS kk => by
    have hk : ∀ ls' : Array Slot, lv_has ls' M.2.2.1 ((i, wv E x) :: (KL E M.2.2.1 lv).filter (fun q => !(q.1 == i) && !(q.1 + 1 == i && q.2.category == 2))) → W p (eL E) e R s m args below meth c H locs 0 0 Q (F0 m (pc + 1) ls' (st.map (cv E))) := fun ls' h' => kk ls' (LO_store1 (v := vw x) hL (by show (3 : Nat) ≠ 1; decide) (okS_h hs) h') (okS_t hs)
    show W p (eL E) e R s m args below meth c H locs 0 0 Q (F0 m pc ls (wv E x :: st.map (cv E)))
    rcases wv_or E x with ⟨-, e1⟩ | ⟨-, e1⟩
    · rw [e1] at hk ⊢
      exact lv_astore_nN hF.1 hF.2.1 hd hi (LO_has hL) hn rfl hk
    · rw [e1] at hk ⊢
      exact lv_astore_n hF.1 hF.2.1 hd hi (LO_has hL) hn rfl hk) k
theorem RO_lstore_n {j : Fin 4} {i : Nat} {x : Int} (hd : decode M.2.1 pc = .ok (.lstore_n j, 1)) (hi : (j : Nat) = i) (hn : i + 1 < M.2.2.1) (k : RO E M o (pc + 1) ((i, vl x) :: lv) st mem) : RO E M o pc lv (vl x :: st) mem :=
  RO_go (fun p e R s m args below meth c H locs ls Q hF hL hs hw hS kk => lv_lstore_n hF.1 hF.2.1 hd hi (LO_has hL) hn rfl (fun ls' h' => kk ls' (LO_store2 (v := vl x) hL rfl (okS_h hs) h') (okS_t hs))) k
theorem RO_lstore {i : Nat} {x : Int} (hd : decode M.2.1 pc = .ok (.lstore i, 2)) (hn : i + 1 < M.2.2.1) (k : RO E M o (pc + 2) ((i, vl x) :: lv) st mem) : RO E M o pc lv (vl x :: st) mem :=
  RO_go (fun p e R s m args below meth c H locs ls Q hF hL hs hw hS kk => lv_lstore hF.1 hF.2.1 hd (LO_has hL) hn rfl (fun ls' h' => kk ls' (LO_store2 (v := vl x) hL rfl (okS_h hs) h') (okS_t hs))) k
theorem RO_iinc {i : Nat} {n x : Int} (hd : decode M.2.1 pc = .ok (.iinc i n, 3)) (hg : lget lv i = some (vi x)) (hn : i < M.2.2.1) (k : RO E M o (pc + 3) ((i, vi (w32 (x + n))) :: lv) st mem) : RO E M o pc lv st mem :=
  RO_go (fun p e R s m args below meth c H locs ls Q hF hL hs hw hS kk => by
    obtain ⟨q, hq⟩ := List.mem_iff_getElem?.mp (KL_mem hL hg)
    exact lv_iinc (k := q) hF.1 hF.2.1 hd (LO_has hL) hq (of_add x n) hn rfl (fun ls' h' => kk ls' (LO_store1 (v := vi (w32 (x + n))) hL (by show (0 : Nat) ≠ 1; decide) (okI_w _) h') hs)) k
theorem nle {a b : Int32} (h : a < b) : ¬ b ≤ a := by rw [Int32.lt_iff_toInt_lt] at h; rw [Int32.le_iff_toInt_le]; omega
theorem nlt {a b : Int32} (h : ¬ b ≤ a) : a < b := by rw [Int32.le_iff_toInt_le] at h; rw [Int32.lt_iff_toInt_lt]; omega
theorem RO_iadd {x y : Int} (hd : decode M.2.1 pc = .ok (.iadd, 1)) (k : RO E M o (pc + 1) lv (vi (w32 (x + y)) :: st) mem) : RO E M o pc lv (vi y :: vi x :: st) mem :=
  RO_go (fun p e R s m args below meth c H locs ls Q hF hL hs hw hS kk => by
    refine lv_iadd (x := Int32.ofInt x) (y := Int32.ofInt y) (rest := st.map (cv E)) hF.1 hF.2.1 hd ?_
    rw [of_add]
    exact kk ls hL (okS_i (okI_w _) (okS_t (okS_t hs)))) k
theorem RO_isub {x y : Int} (hd : decode M.2.1 pc = .ok (.isub, 1)) (k : RO E M o (pc + 1) lv (vi (w32 (x - y)) :: st) mem) : RO E M o pc lv (vi y :: vi x :: st) mem :=
  RO_go (fun p e R s m args below meth c H locs ls Q hF hL hs hw hS kk => by
    refine lv_isub (x := Int32.ofInt x) (y := Int32.ofInt y) (rest := st.map (cv E)) hF.1 hF.2.1 hd ?_
    rw [of_sub]
    exact kk ls hL (okS_i (okI_w _) (okS_t (okS_t hs)))) k
theorem RO_imul {x y : Int} (hd : decode M.2.1 pc = .ok (.imul, 1)) (k : RO E M o (pc + 1) lv (vi (w32 (x * y)) :: st) mem) : RO E M o pc lv (vi y :: vi x :: st) mem :=
  RO_go (fun p e R s m args below meth c H locs ls Q hF hL hs hw hS kk => by
    refine lv_imul (x := Int32.ofInt x) (y := Int32.ofInt y) (rest := st.map (cv E)) hF.1 hF.2.1 hd ?_
    rw [of_mul]
    exact kk ls hL (okS_i (okI_w _) (okS_t (okS_t hs)))) k
theorem RO_ladd {x y : Int} (hd : decode M.2.1 pc = .ok (.ladd, 1)) (k : RO E M o (pc + 1) lv (vl (w64 (x + y)) :: st) mem) : RO E M o pc lv (vl y :: vl x :: st) mem :=
  RO_go (fun p e R s m args below meth c H locs ls Q hF hL hs hw hS kk => by
    refine lv_ladd (x := Int64.ofInt x) (y := Int64.ofInt y) (rest := st.map (cv E)) hF.1 hF.2.1 hd ?_
    rw [ol_add]
    exact kk ls hL (okS_l (okL_w _) (okS_t (okS_t hs)))) k
theorem RO_lsub {x y : Int} (hd : decode M.2.1 pc = .ok (.lsub, 1)) (k : RO E M o (pc + 1) lv (vl (w64 (x - y)) :: st) mem) : RO E M o pc lv (vl y :: vl x :: st) mem :=
  RO_go (fun p e R s m args below meth c H locs ls Q hF hL hs hw hS kk => by
    refine lv_lsub (x := Int64.ofInt x) (y := Int64.ofInt y) (rest := st.map (cv E)) hF.1 hF.2.1 hd ?_
    rw [ol_sub]
    exact kk ls hL (okS_l (okL_w _) (okS_t (okS_t hs)))) k
theorem RO_lmul {x y : Int} (hd : decode M.2.1 pc = .ok (.lmul, 1)) (k : RO E M o (pc + 1) lv (vl (w64 (x * y)) :: st) mem) : RO E M o pc lv (vl y :: vl x :: st) mem :=
  RO_go (fun p e R s m args below meth c H locs ls Q hF hL hs hw hS kk => by
    refine lv_lmul (x := Int64.ofInt x) (y := Int64.ofInt y) (rest := st.map (cv E)) hF.1 hF.2.1 hd ?_
    rw [ol_mul]
    exact kk ls hL (okS_l (okL_w _) (okS_t (okS_t hs)))) k
theorem RO_iand {x y : Int} (hd : decode M.2.1 pc = .ok (.iand, 1)) (k : RO E M o (pc + 1) lv (vi (iand x y) :: st) mem) : RO E M o pc lv (vi y :: vi x :: st) mem :=
  RO_go (fun p e R s m args below meth c H locs ls Q hF hL hs hw hS kk => by
    refine lv_iand (x := Int32.ofInt x) (y := Int32.ofInt y) (rest := st.map (cv E)) hF.1 hF.2.1 hd ?_
    rw [← Int32.ofInt_toInt (Int32.ofInt x &&& Int32.ofInt y)]
    exact kk ls hL (okS_i (okI_32 _) (okS_t (okS_t hs)))) k
theorem RO_ior {x y : Int} (hd : decode M.2.1 pc = .ok (.ior, 1)) (k : RO E M o (pc + 1) lv (vi (ior x y) :: st) mem) : RO E M o pc lv (vi y :: vi x :: st) mem :=
  RO_go (fun p e R s m args below meth c H locs ls Q hF hL hs hw hS kk => by
    refine lv_ior (x := Int32.ofInt x) (y := Int32.ofInt y) (rest := st.map (cv E)) hF.1 hF.2.1 hd ?_
    rw [← Int32.ofInt_toInt (Int32.ofInt x ||| Int32.ofInt y)]
    exact kk ls hL (okS_i (okI_32 _) (okS_t (okS_t hs)))) k
theorem RO_ixor {x y : Int} (hd : decode M.2.1 pc = .ok (.ixor, 1)) (k : RO E M o (pc + 1) lv (vi (ixor x y) :: st) mem) : RO E M o pc lv (vi y :: vi x :: st) mem :=
  RO_go (fun p e R s m args below meth c H locs ls Q hF hL hs hw hS kk => by
    refine lv_ixor (x := Int32.ofInt x) (y := Int32.ofInt y) (rest := st.map (cv E)) hF.1 hF.2.1 hd ?_
    rw [← Int32.ofInt_toInt (Int32.ofInt x ^^^ Int32.ofInt y)]
    exact kk ls hL (okS_i (okI_32 _) (okS_t (okS_t hs)))) k
theorem RO_ishl {x y : Int} (hd : decode M.2.1 pc = .ok (.ishl, 1)) (k : RO E M o (pc + 1) lv (vi (ishl x y) :: st) mem) : RO E M o pc lv (vi y :: vi x :: st) mem :=
  RO_go (fun p e R s m args below meth c H locs ls Q hF hL hs hw hS kk => by
    refine lv_ishl (x := Int32.ofInt x) (y := Int32.ofInt y) (rest := st.map (cv E)) hF.1 hF.2.1 hd ?_
    rw [← Int32.ofInt_toInt (Int32.ofInt x <<< (Int32.ofInt y &&& 31))]
    exact kk ls hL (okS_i (okI_32 _) (okS_t (okS_t hs)))) k
theorem RO_ishr {x y : Int} (hd : decode M.2.1 pc = .ok (.ishr, 1)) (k : RO E M o (pc + 1) lv (vi (ishr x y) :: st) mem) : RO E M o pc lv (vi y :: vi x :: st) mem :=
  RO_go (fun p e R s m args below meth c H locs ls Q hF hL hs hw hS kk => by
    refine lv_ishr (x := Int32.ofInt x) (y := Int32.ofInt y) (rest := st.map (cv E)) hF.1 hF.2.1 hd ?_
    rw [← Int32.ofInt_toInt (Int32.ofInt x >>> (Int32.ofInt y &&& 31))]
    exact kk ls hL (okS_i (okI_32 _) (okS_t (okS_t hs)))) k
theorem RO_land {x y : Int} (hd : decode M.2.1 pc = .ok (.land, 1)) (k : RO E M o (pc + 1) lv (vl (land x y) :: st) mem) : RO E M o pc lv (vl y :: vl x :: st) mem :=
  RO_go (fun p e R s m args below meth c H locs ls Q hF hL hs hw hS kk => by
    refine lv_land (x := Int64.ofInt x) (y := Int64.ofInt y) (rest := st.map (cv E)) hF.1 hF.2.1 hd ?_
    rw [← Int64.ofInt_toInt (Int64.ofInt x &&& Int64.ofInt y)]
    exact kk ls hL (okS_l (okL_64 _) (okS_t (okS_t hs)))) k
theorem RO_lor {x y : Int} (hd : decode M.2.1 pc = .ok (.lor, 1)) (k : RO E M o (pc + 1) lv (vl (lor x y) :: st) mem) : RO E M o pc lv (vl y :: vl x :: st) mem :=
  RO_go (fun p e R s m args below meth c H locs ls Q hF hL hs hw hS kk => by
    refine lv_lor (x := Int64.ofInt x) (y := Int64.ofInt y) (rest := st.map (cv E)) hF.1 hF.2.1 hd ?_
    rw [← Int64.ofInt_toInt (Int64.ofInt x ||| Int64.ofInt y)]
    exact kk ls hL (okS_l (okL_64 _) (okS_t (okS_t hs)))) k
theorem RO_iushr {x y : Int} (hd : decode M.2.1 pc = .ok (.iushr, 1)) (k : RO E M o (pc + 1) lv (vi (iushr x y) :: st) mem) : RO E M o pc lv (vi y :: vi x :: st) mem :=
  RO_go (fun p e R s m args below meth c H locs ls Q hF hL hs hw hS kk => lv_iushr (x := Int32.ofInt x) (y := Int32.ofInt y) (rest := st.map (cv E)) hF.1 hF.2.1 hd (Int32.ofInt_toInt _).symm (kk ls hL (okS_i (okI_32 _) (okS_t (okS_t hs))))) k
theorem RO_lshl {x y : Int} (hd : decode M.2.1 pc = .ok (.lshl, 1)) (k : RO E M o (pc + 1) lv (vl (lshl x y) :: st) mem) : RO E M o pc lv (vi y :: vl x :: st) mem :=
  RO_go (fun p e R s m args below meth c H locs ls Q hF hL hs hw hS kk => lv_lshl (x := Int64.ofInt x) (y := Int32.ofInt y) (rest := st.map (cv E)) hF.1 hF.2.1 hd (Int64.ofInt_toInt _).symm (kk ls hL (okS_l (okL_64 _) (okS_t (okS_t hs))))) k
theorem RO_lshr {x y : Int} (hd : decode M.2.1 pc = .ok (.lshr, 1)) (k : RO E M o (pc + 1) lv (vl (lshr x y) :: st) mem) : RO E M o pc lv (vi y :: vl x :: st) mem :=
  RO_go (fun p e R s m args below meth c H locs ls Q hF hL hs hw hS kk => lv_lshr (x := Int64.ofInt x) (y := Int32.ofInt y) (rest := st.map (cv E)) hF.1 hF.2.1 hd (Int64.ofInt_toInt _).symm (kk ls hL (okS_l (okL_64 _) (okS_t (okS_t hs))))) k
theorem RO_lushr {x y : Int} (hd : decode M.2.1 pc = .ok (.lushr, 1)) (k : RO E M o (pc + 1) lv (vl (lushr x y) :: st) mem) : RO E M o pc lv (vi y :: vl x :: st) mem :=
  RO_go (fun p e R s m args below meth c H locs ls Q hF hL hs hw hS kk => lv_lushr (x := Int64.ofInt x) (y := Int32.ofInt y) (rest := st.map (cv E)) hF.1 hF.2.1 hd (Int64.ofInt_toInt _).symm (kk ls hL (okS_l (okL_64 _) (okS_t (okS_t hs))))) k
theorem RO_ineg {x : Int} (hd : decode M.2.1 pc = .ok (.ineg, 1)) (k : RO E M o (pc + 1) lv (vi (w32 (-x)) :: st) mem) : RO E M o pc lv (vi x :: st) mem :=
  RO_go (fun p e R s m args below meth c H locs ls Q hF hL hs hw hS kk => by
    refine lv_ineg (x := Int32.ofInt x) (rest := st.map (cv E)) hF.1 hF.2.1 hd ?_
    rw [of_neg]
    exact kk ls hL (okS_i (okI_w _) (okS_t hs))) k
theorem RO_i2l {x : Int} (hd : decode M.2.1 pc = .ok (.i2l, 1)) (k : RO E M o (pc + 1) lv (vl x :: st) mem) : RO E M o pc lv (vi x :: st) mem :=
  RO_go (fun p e R s m args below meth c H locs ls Q hF hL hs hw hS kk => by
    have h0 : okI x := okS_h hs
    exact lv_i2l (x := Int32.ofInt x) (rest := st.map (cv E)) hF.1 hF.2.1 hd (of_i2l h0) (kk ls hL (okS_l (show okL x from ⟨by have := h0.1; omega, by have := h0.2; omega⟩) (okS_t hs)))) k
theorem RO_l2i {x : Int} (hd : decode M.2.1 pc = .ok (.l2i, 1)) (k : RO E M o (pc + 1) lv (vi (w32 x) :: st) mem) : RO E M o pc lv (vl x :: st) mem :=
  RO_go (fun p e R s m args below meth c H locs ls Q hF hL hs hw hS kk => lv_l2i (x := Int64.ofInt x) (rest := st.map (cv E)) hF.1 hF.2.1 hd ((of_l2i x).trans (of_w32 x).symm) (kk ls hL (okS_i (okI_w x) (okS_t hs)))) k
theorem RO_i2c {x : Int} (hd : decode M.2.1 pc = .ok (.i2c, 1)) (k : RO E M o (pc + 1) lv (vi (i2c x) :: st) mem) : RO E M o pc lv (vi x :: st) mem :=
  RO_go (fun p e R s m args below meth c H locs ls Q hF hL hs hw hS kk => lv_i2c (x := Int32.ofInt x) (rest := st.map (cv E)) hF.1 hF.2.1 hd (Int32.ofInt_toInt _).symm (kk ls hL (okS_i (okI_32 _) (okS_t hs)))) k
theorem RO_lcmp {x y : Int} (hd : decode M.2.1 pc = .ok (.lcmp, 1)) (k : RO E M o (pc + 1) lv (vi (lcm x y) :: st) mem) : RO E M o pc lv (vl y :: vl x :: st) mem :=
  RO_go (fun p e R s m args below meth c H locs ls Q hF hL hs hw hS kk => by
    refine W.lcmp (x := Int64.ofInt x) (y := Int64.ofInt y) (rest := st.map (cv E)) hF.1 hF.2.1 hd ?_
    rw [of_cmp (okS_h (okS_t hs)) (okS_h hs)]
    exact kk ls hL (okS_i (okI_lcm x y) (okS_t (okS_t hs)))) k
theorem RO_idiv {x y : Int} (hd : decode M.2.1 pc = .ok (.idiv, 1)) (k : RO E M o (pc + 1) lv (vi (idv x y) :: st) mem) : RO E M (if y = 0 then none else o) pc lv (vi y :: vi x :: st) mem := by
  by_cases hy : y = 0
  · rw [if_pos hy]; exact RO_none
  rw [if_neg hy]
  exact RO_go (fun p e R s m args below meth c H locs ls Q hF hL hs hw hS kk => by
    refine lv_idiv (x := Int32.ofInt x) (y := Int32.ofInt y) (rest := st.map (cv E)) hF.1 hF.2.1 hd (fun z => hy ((of_eq (y := 0) (okS_h hs) okI_0).mp z)) ?_
    rw [← Int32.ofInt_toInt (Int32.ofInt x / Int32.ofInt y)]
    exact kk ls hL (okS_i (okI_32 _) (okS_t (okS_t hs)))) k
theorem RO_irem {x y : Int} (hd : decode M.2.1 pc = .ok (.irem, 1)) (k : RO E M o (pc + 1) lv (vi (irm x y) :: st) mem) : RO E M (if y = 0 then none else o) pc lv (vi y :: vi x :: st) mem := by
  by_cases hy : y = 0
  · rw [if_pos hy]; exact RO_none
  rw [if_neg hy]
  exact RO_go (fun p e R s m args below meth c H locs ls Q hF hL hs hw hS kk => by
    refine lv_irem (x := Int32.ofInt x) (y := Int32.ofInt y) (rest := st.map (cv E)) hF.1 hF.2.1 hd (fun z => hy ((of_eq (y := 0) (okS_h hs) okI_0).mp z)) ?_
    rw [← Int32.ofInt_toInt (Int32.ofInt x - Int32.ofInt x / Int32.ofInt y * Int32.ofInt y)]
    exact kk ls hL (okS_i (okI_32 _) (okS_t (okS_t hs)))) k
theorem RO_ldiv {x y : Int} (hd : decode M.2.1 pc = .ok (.ldiv, 1)) (k : RO E M o (pc + 1) lv (vl (ldv x y) :: st) mem) : RO E M (if y = 0 then none else o) pc lv (vl y :: vl x :: st) mem := by
  by_cases hy : y = 0
  · rw [if_pos hy]; exact RO_none
  rw [if_neg hy]
  exact RO_go (fun p e R s m args below meth c H locs ls Q hF hL hs hw hS kk => by
    refine lv_ldiv (x := Int64.ofInt x) (y := Int64.ofInt y) (rest := st.map (cv E)) hF.1 hF.2.1 hd (fun z => hy ((ol_eq (y := 0) (okS_h hs) okL_0).mp z)) ?_
    rw [← Int64.ofInt_toInt (Int64.ofInt x / Int64.ofInt y)]
    exact kk ls hL (okS_l (okL_64 _) (okS_t (okS_t hs)))) k
theorem RO_lrem {x y : Int} (hd : decode M.2.1 pc = .ok (.lrem, 1)) (k : RO E M o (pc + 1) lv (vl (lrm x y) :: st) mem) : RO E M (if y = 0 then none else o) pc lv (vl y :: vl x :: st) mem := by
  by_cases hy : y = 0
  · rw [if_pos hy]; exact RO_none
  rw [if_neg hy]
  exact RO_go (fun p e R s m args below meth c H locs ls Q hF hL hs hw hS kk => by
    refine lv_lrem (x := Int64.ofInt x) (y := Int64.ofInt y) (rest := st.map (cv E)) hF.1 hF.2.1 hd (fun z => hy ((ol_eq (y := 0) (okS_h hs) okL_0).mp z)) ?_
    rw [← Int64.ofInt_toInt (Int64.ofInt x - Int64.ofInt x / Int64.ofInt y * Int64.ofInt y)]
    exact kk ls hL (okS_l (okL_64 _) (okS_t (okS_t hs)))) k
theorem cat1 {v : VV} (h : v.1 ≠ 1) : (cv E v).category = 1 := by rw [cv_cat, if_neg h]
theorem RO_dup {v : VV} (hd : decode M.2.1 pc = .ok (.dup, 1)) (hv : v.1 ≠ 1) (k : RO E M o (pc + 1) lv (v :: v :: st) mem) : RO E M o pc lv (v :: st) mem :=
  RO_go (fun p e R s m args below meth c H locs ls Q hF hL hs hw hS kk => lv_dup hF.1 hF.2.1 hd (cat1 hv) (kk ls hL (okS_c (okS_h hs) hs))) k
theorem RO_pop {v : VV} (hd : decode M.2.1 pc = .ok (.pop, 1)) (hv : v.1 ≠ 1) (k : RO E M o (pc + 1) lv st mem) : RO E M o pc lv (v :: st) mem :=
  RO_go (fun p e R s m args below meth c H locs ls Q hF hL hs hw hS kk => lv_pop hF.1 hF.2.1 hd (cat1 hv) (kk ls hL (okS_t hs))) k
theorem RO_dup2 {v u : VV} (hd : decode M.2.1 pc = .ok (.dup2, 1)) (hv : v.1 ≠ 1) (hu : u.1 ≠ 1) (k : RO E M o (pc + 1) lv (v :: u :: v :: u :: st) mem) : RO E M o pc lv (v :: u :: st) mem :=
  RO_go (fun p e R s m args below meth c H locs ls Q hF hL hs hw hS kk => lv_dup2_11 hF.1 hF.2.1 hd (cat1 hv) (cat1 hu) (kk ls hL (okS_c (okS_h hs) (okS_c (okS_h (okS_t hs)) hs)))) k
theorem RO_goto {off : Int} {tgt : Nat} (hd : decode M.2.1 pc = .ok (.goto off, 3)) (ht : (pc : Int) + off = (tgt : Int)) (k : RO E M o tgt lv st mem) : RO E M o pc lv st mem :=
  RO_go (fun p e R s m args below meth c H locs ls Q hF hL hs hw hS kk => lv_goto hF.1 hF.2.1 hd ht (kk ls hL hs)) k
/-- two ways on -/
theorem RO_two {P : Prop} {inst : Decidable P} {pa pb : Nat} {st' : List VV}
    (h : ∀ (p : Program) (e : Env) (R : Room) (s : State) (m : MethodId) (args : Array Value) (below : List Frame) (meth : Method) (c : Code) (H : Heap) (locs : List Loc) (ls : Array Slot) (Q : State → Prop), FrC E M p R s m args meth c → okS st →
      (P → W p (eL E) e R s m args below meth c H locs 0 0 Q (F0 m pa ls (st'.map (cv E)))) → (¬ P → W p (eL E) e R s m args below meth c H locs 0 0 Q (F0 m pb ls (st'.map (cv E)))) → W p (eL E) e R s m args below meth c H locs 0 0 Q (F0 m pc ls (st.map (cv E))))
    (hst : okS st → okS st') (ka : P → RO E M o1 pa lv st' mem) (kb : ¬ P → RO E M o2 pb lv st' mem) : RO E M (@ite _ P inst o1 o2) pc lv st mem :=
  fun r mem' ho p e R s m args below meth c hF H locs ls hL hs hw hS => h p e R s m args below meth c H locs ls _ hF hs
    (fun hP => ka hP r mem' (by rw [if_pos hP] at ho; exact ho) p e R s m args below meth c hF H locs ls hL (hst hs) hw hS)
    (fun hP => kb hP r mem' (by rw [if_neg hP] at ho; exact ho) p e R s m args below meth c hF H locs ls hL (hst hs) hw hS)
theorem RO_if_eq {x : Int} {off : Int} {tgt : Nat} (hd : decode M.2.1 pc = .ok (.ifCond .eq off, 3)) (ht : (pc : Int) + off = (tgt : Int)) (ka : RO E M o1 tgt lv st mem) (kb : RO E M o2 (pc + 3) lv st mem) : RO E M (if x = 0 then o1 else o2) pc lv (vi x :: st) mem :=
  RO_two (fun p e R s m args below meth c H locs ls Q hF hs ka kb => by
    have iff := (of_eq (x := x) (y := 0) (okS_h hs) okI_0)
    exact lv_if_eq (x := Int32.ofInt x) (rest := st.map (cv E)) hF.1 hF.2.1 hd ht (fun z => ka (iff.mp z)) (fun z => kb (fun q => z (iff.mpr q)))) (fun hs => okS_t hs) (fun _ => ka) (fun _ => kb)
theorem RO_if_ne {x : Int} {off : Int} {tgt : Nat} (hd : decode M.2.1 pc = .ok (.ifCond .ne off, 3)) (ht : (pc : Int) + off = (tgt : Int)) (ka : RO E M o1 (pc + 3) lv st mem) (kb : RO E M o2 tgt lv st mem) : RO E M (if x = 0 then o1 else o2) pc lv (vi x :: st) mem :=
  RO_two (fun p e R s m args below meth c H locs ls Q hF hs ka kb => by
    have iff := (of_eq (x := x) (y := 0) (okS_h hs) okI_0)
    exact lv_if_ne (x := Int32.ofInt x) (rest := st.map (cv E)) hF.1 hF.2.1 hd ht (fun z => kb (fun q => z (iff.mpr q))) (fun z => ka (iff.mp z))) (fun hs => okS_t hs) (fun _ => ka) (fun _ => kb)
theorem RO_if_lt {x : Int} {off : Int} {tgt : Nat} (hd : decode M.2.1 pc = .ok (.ifCond .lt off, 3)) (ht : (pc : Int) + off = (tgt : Int)) (ka : RO E M o1 tgt lv st mem) (kb : RO E M o2 (pc + 3) lv st mem) : RO E M (if x < 0 then o1 else o2) pc lv (vi x :: st) mem :=
  RO_two (fun p e R s m args below meth c H locs ls Q hF hs ka kb => by
    have iff := (of_lt (x := x) (y := 0) (okS_h hs) okI_0)
    exact lv_if_lt (x := Int32.ofInt x) (rest := st.map (cv E)) hF.1 hF.2.1 hd ht (fun z => ka (iff.mp z)) (fun z => kb (fun q => z (iff.mpr q)))) (fun hs => okS_t hs) (fun _ => ka) (fun _ => kb)
theorem RO_if_ge {x : Int} {off : Int} {tgt : Nat} (hd : decode M.2.1 pc = .ok (.ifCond .ge off, 3)) (ht : (pc : Int) + off = (tgt : Int)) (ka : RO E M o1 (pc + 3) lv st mem) (kb : RO E M o2 tgt lv st mem) : RO E M (if x < 0 then o1 else o2) pc lv (vi x :: st) mem :=
  RO_two (fun p e R s m args below meth c H locs ls Q hF hs ka kb => by
    have iff := (of_lt (x := x) (y := 0) (okS_h hs) okI_0)
    exact lv_if_ge (x := Int32.ofInt x) (rest := st.map (cv E)) hF.1 hF.2.1 hd ht (fun z => kb (fun q => absurd z (nle (iff.mpr q)))) (fun z => ka (iff.mp (nlt z)))) (fun hs => okS_t hs) (fun _ => ka) (fun _ => kb)
theorem RO_if_gt {x : Int} {off : Int} {tgt : Nat} (hd : decode M.2.1 pc = .ok (.ifCond .gt off, 3)) (ht : (pc : Int) + off = (tgt : Int)) (ka : RO E M o1 tgt lv st mem) (kb : RO E M o2 (pc + 3) lv st mem) : RO E M (if 0 < x then o1 else o2) pc lv (vi x :: st) mem :=
  RO_two (fun p e R s m args below meth c H locs ls Q hF hs ka kb => by
    have iff := (of_lt (x := 0) (y := x) okI_0 (okS_h hs))
    exact lv_if_gt (x := Int32.ofInt x) (rest := st.map (cv E)) hF.1 hF.2.1 hd ht (fun z => ka (iff.mp z)) (fun z => kb (fun q => z (iff.mpr q)))) (fun hs => okS_t hs) (fun _ => ka) (fun _ => kb)
theorem RO_if_le {x : Int} {off : Int} {tgt : Nat} (hd : decode M.2.1 pc = .ok (.ifCond .le off, 3)) (ht : (pc : Int) + off = (tgt : Int)) (ka : RO E M o1 (pc + 3) lv st mem) (kb : RO E M o2 tgt lv st mem) : RO E M (if 0 < x then o1 else o2) pc lv (vi x :: st) mem :=
  RO_two (fun p e R s m args below meth c H locs ls Q hF hs ka kb => by
    have iff := (of_lt (x := 0) (y := x) okI_0 (okS_h hs))
    exact lv_if_le (x := Int32.ofInt x) (rest := st.map (cv E)) hF.1 hF.2.1 hd ht (fun z => kb (fun q => absurd z (nle (iff.mpr q)))) (fun z => ka (iff.mp (nlt z)))) (fun hs => okS_t hs) (fun _ => ka) (fun _ => kb)
theorem RO_icmp_eq {x y : Int} {off : Int} {tgt : Nat} (hd : decode M.2.1 pc = .ok (.if_icmp .eq off, 3)) (ht : (pc : Int) + off = (tgt : Int)) (ka : RO E M o1 tgt lv st mem) (kb : RO E M o2 (pc + 3) lv st mem) : RO E M (if x = y then o1 else o2) pc lv (vi y :: vi x :: st) mem :=
  RO_two (fun p e R s m args below meth c H locs ls Q hF hs ka kb => by
    have iff := (of_eq (x := x) (y := y) (okS_h (okS_t hs)) (okS_h hs))
    exact lv_icmp_eq (x := Int32.ofInt x) (y := Int32.ofInt y) (rest := st.map (cv E)) hF.1 hF.2.1 hd ht (fun z => ka (iff.mp z)) (fun z => kb (fun q => z (iff.mpr q)))) (fun hs => okS_t (okS_t hs)) (fun _ => ka) (fun _ => kb)
theorem RO_icmp_ne {x y : Int} {off : Int} {tgt : Nat} (hd : decode M.2.1 pc = .ok (.if_icmp .ne off, 3)) (ht : (pc : Int) + off = (tgt : Int)) (ka : RO E M o1 (pc + 3) lv st mem) (kb : RO E M o2 tgt lv st mem) : RO E M (if x = y then o1 else o2) pc lv (vi y :: vi x :: st) mem :=
  RO_two (fun p e R s m args below meth c H locs ls Q hF hs ka kb => by
    have iff := (of_eq (x := x) (y := y) (okS_h (okS_t hs)) (okS_h hs))
    exact lv_icmp_ne (x := Int32.ofInt x) (y := Int32.ofInt y) (rest := st.map (cv E)) hF.1 hF.2.1 hd ht (fun z => kb (fun q => z (iff.mpr q))) (fun z => ka (iff.mp z))) (fun hs => okS_t (okS_t hs)) (fun _ => ka) (fun _ => kb)
theorem RO_icmp_lt {x y : Int} {off : Int} {tgt : Nat} (hd : decode M.2.1 pc = .ok (.if_icmp .lt off, 3)) (ht : (pc : Int) + off = (tgt : Int)) (ka : RO E M o1 tgt lv st mem) (kb : RO E M o2 (pc + 3) lv st mem) : RO E M (if x < y then o1 else o2) pc lv (vi y :: vi x :: st) mem :=
  RO_two (fun p e R s m args below meth c H locs ls Q hF hs ka kb => by
    have iff := (of_lt (x := x) (y := y) (okS_h (okS_t hs)) (okS_h hs))
    exact lv_icmp_lt (x := Int32.ofInt x) (y := Int32.ofInt y) (rest := st.map (cv E)) hF.1 hF.2.1 hd ht (fun z => ka (iff.mp z)) (fun z => kb (fun q => z (iff.mpr q)))) (fun hs => okS_t (okS_t hs)) (fun _ => ka) (fun _ => kb)
theorem RO_icmp_ge {x y : Int} {off : Int} {tgt : Nat} (hd : decode M.2.1 pc = .ok (.if_icmp .ge off, 3)) (ht : (pc : Int) + off = (tgt : Int)) (ka : RO E M o1 (pc + 3) lv st mem) (kb : RO E M o2 tgt lv st mem) : RO E M (if x < y then o1 else o2) pc lv (vi y :: vi x :: st) mem :=
  RO_two (fun p e R s m args below meth c H locs ls Q hF hs ka kb => by
    have iff := (of_lt (x := x) (y := y) (okS_h (okS_t hs)) (okS_h hs))
    exact lv_icmp_ge (x := Int32.ofInt x) (y := Int32.ofInt y) (rest := st.map (cv E)) hF.1 hF.2.1 hd ht (fun z => kb (fun q => absurd z (nle (iff.mpr q)))) (fun z => ka (iff.mp (nlt z)))) (fun hs => okS_t (okS_t hs)) (fun _ => ka) (fun _ => kb)
theorem RO_icmp_gt {x y : Int} {off : Int} {tgt : Nat} (hd : decode M.2.1 pc = .ok (.if_icmp .gt off, 3)) (ht : (pc : Int) + off = (tgt : Int)) (ka : RO E M o1 tgt lv st mem) (kb : RO E M o2 (pc + 3) lv st mem) : RO E M (if y < x then o1 else o2) pc lv (vi y :: vi x :: st) mem :=
  RO_two (fun p e R s m args below meth c H locs ls Q hF hs ka kb => by
    have iff := (of_lt (x := y) (y := x) (okS_h hs) (okS_h (okS_t hs)))
    exact lv_icmp_gt (x := Int32.ofInt x) (y := Int32.ofInt y) (rest := st.map (cv E)) hF.1 hF.2.1 hd ht (fun z => ka (iff.mp z)) (fun z => kb (fun q => z (iff.mpr q)))) (fun hs => okS_t (okS_t hs)) (fun _ => ka) (fun _ => kb)
theorem RO_icmp_le {x y : Int} {off : Int} {tgt : Nat} (hd : decode M.2.1 pc = .ok (.if_icmp .le off, 3)) (ht : (pc : Int) + off = (tgt : Int)) (ka : RO E M o1 (pc + 3) lv st mem) (kb : RO E M o2 tgt lv st mem) : RO E M (if y < x then o1 else o2) pc lv (vi y :: vi x :: st) mem :=
  RO_two (fun p e R s m args below meth c H locs ls Q hF hs ka kb => by
    have iff := (of_lt (x := y) (y := x) (okS_h hs) (okS_h (okS_t hs)))
    exact lv_icmp_le (x := Int32.ofInt x) (y := Int32.ofInt y) (rest := st.map (cv E)) hF.1 hF.2.1 hd ht (fun z => kb (fun q => absurd z (nle (iff.mpr q)))) (fun z => ka (iff.mp (nlt z)))) (fun hs => okS_t (okS_t hs)) (fun _ => ka) (fun _ => kb)
end Rows
