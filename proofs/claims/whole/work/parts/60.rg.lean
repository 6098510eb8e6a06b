/-! The rows once more, for any end Z of the method, any room, any count of cells: for a method that may throw, and for the law. -/
abbrev ZT : Type := Int → Mm → Program → Env → Room → State → MethodId → Array Value → List Frame → Method → Code → State → Prop
abbrev FT : Type := Program → Env → Room → State → MethodId → Array Value → List Frame → Method → Code → Prop
def FrG (E : EE) (M : MT) (p : Program) (R : Room) (s : State) (m : MethodId) (args : Array Value) (meth : Method) (c : Code) : Prop :=
  p.tables.exec = Jvm.exec ∧ c.code = M.2.1 ∧ c.maxLocals = M.2.2.1 ∧ meth.sig.returnType = M.2.2.2.1 ∧ s.vm.findClass M.1 = some m.cls ∧ (∀ w ∈ TBL, w.before args s = true) ∧ meth.locks = false ∧ EV E s
def RG (E : EE) (M : MT) (cl sl : Nat) (Fx : FT) (Z : ZT) (o : Res) (pc : Nat) (lv : List (Nat × VV)) (st : List VV) (mem : Mm) : Prop :=
  ∀ r mem', o = some (r, mem') → ∀ (p : Program) (e : Env) (R : Room) (s : State) (m : MethodId) (args : Array Value) (below : List Frame) (meth : Method) (c : Code), FrG E M p R s m args meth c → Fx p e R s m args below meth c →
    ∀ (H : Heap) (locs : List Loc) (ls : Array Slot), LO E ls M.2.2.1 lv → okS st → Wd E mem H → va_S (nw E) s.heap H locs →
      W p (eL E) e R s m args below meth c H locs cl sl (Z r mem' p e R s m args below meth c) (F0 m pc ls (st.map (cv E)))
section RowsG
variable {E : EE} {M : MT} {cl sl : Nat} {Fx : FT} {Z : ZT} {o o1 o2 : Res} {pc : Nat} {lv : List (Nat × VV)} {st : List VV} {mem : Mm}
/-- one instruction that leaves the memory -/
theorem RG_go {pc' : Nat} {st' : List VV} {lv' : List (Nat × VV)}
    (h : ∀ (p : Program) (e : Env) (R : Room) (s : State) (m : MethodId) (args : Array Value) (below : List Frame) (meth : Method) (c : Code) (H : Heap) (locs : List Loc) (ls : Array Slot) (Q : State → Prop), FrG E M p R s m args meth c → LO E ls M.2.2.1 lv → okS st → Wd E mem H → va_S (nw E) s.heap H locs →
      (∀ ls' : Array Slot, LO E ls' M.2.2.1 lv' → okS st' → W p (eL E) e R s m args below meth c H locs cl sl Q (F0 m pc' ls' (st'.map (cv E)))) → W p (eL E) e R s m args below meth c H locs cl sl Q (F0 m pc ls (st.map (cv E))))
    (k : RG E M cl sl Fx Z o pc' lv' st' mem) : RG E M cl sl Fx Z o pc lv st mem :=
  fun r mem' ho p e R s m args below meth c hF hFx H locs ls hL hs hw hS => h p e R s m args below meth c H locs ls _ hF hL hs hw hS (fun ls' hL' hs' => k r mem' ho p e R s m args below meth c hF hFx H locs ls' hL' hs' hw hS)
/-- the same place, with fewer locals told -/
theorem RG_sub {lv' : List (Nat × VV)} (hl : lhas lv lv') (k : RG E M cl sl Fx Z o pc lv' st mem) : RG E M cl sl Fx Z o pc lv st mem :=
  fun r mem' ho p e R s m args below meth c hF hFx H locs ls hL hs hw hS => k r mem' ho p e R s m args below meth c hF hFx H locs ls (LO_sub hL hl) hs hw hS
theorem RG_none : RG E M cl sl Fx Z none pc lv st mem := fun r mem' ho => by cases ho
theorem RG_chk {c : Prop} {inst : Decidable c} (k : c → RG E M cl sl Fx Z o pc lv st mem) : RG E M cl sl Fx Z (@ite _ c inst o none) pc lv st mem := by
  by_cases h : c
  · rw [if_pos h]; exact k h
  · rw [if_neg h]; exact RG_none
theorem RG_bnM {e : Mm} {k : Mm → Res} (h : ∀ x, RG E M cl sl Fx Z (k x) pc lv st x) : RG E M cl sl Fx Z (bn e k) pc lv st e := h e
theorem RG_bnT {e : Int} {t : Nat} {k : Int → Res} (h : ∀ x, RG E M cl sl Fx Z (k x) pc lv ((t, x) :: st) mem) : RG E M cl sl Fx Z (bn e k) pc lv ((t, e) :: st) mem := h e
theorem RG_eq {pc' : Nat} (h : pc = pc') (k : RG E M cl sl Fx Z o pc' lv st mem) : RG E M cl sl Fx Z o pc lv st mem := h ▸ k
theorem RG_iconst {n : Int} (hd : decode M.2.1 pc = .ok (.iconst n, 1)) (k : RG E M cl sl Fx Z o (pc + 1) lv (vi n :: st) mem) (hn : okI n := by exact ⟨by decide, by decide⟩) : RG E M cl sl Fx Z o pc lv st mem :=
  RG_go (fun p e R s m args below meth c H locs ls Q hF hL hs hw hS kk => lv_iconst hF.1 hF.2.1 hd rfl (kk ls hL (okS_i hn hs))) k
theorem RG_bipush {n : Int} (hd : decode M.2.1 pc = .ok (.bipush n, 2)) (k : RG E M cl sl Fx Z o (pc + 2) lv (vi n :: st) mem) (hn : okI n ∧ (Int8.ofInt n).toInt32 = Int32.ofInt n := by exact ⟨⟨by decide, by decide⟩, by decide⟩) : RG E M cl sl Fx Z o pc lv st mem :=
  RG_go (fun p e R s m args below meth c H locs ls Q hF hL hs hw hS kk => lv_bipush hF.1 hF.2.1 hd hn.2 (kk ls hL (okS_i hn.1 hs))) k
theorem RG_sipush {n : Int} (hd : decode M.2.1 pc = .ok (.sipush n, 3)) (k : RG E M cl sl Fx Z o (pc + 3) lv (vi n :: st) mem) (hn : okI n ∧ (Int16.ofInt n).toInt32 = Int32.ofInt n := by exact ⟨⟨by decide, by decide⟩, by decide⟩) : RG E M cl sl Fx Z o pc lv st mem :=
  RG_go (fun p e R s m args below meth c H locs ls Q hF hL hs hw hS kk => lv_sipush hF.1 hF.2.1 hd hn.2 (kk ls hL (okS_i hn.1 hs))) k
theorem RG_lconst {n : Fin 2} {x : Int} (hd : decode M.2.1 pc = .ok (.lconst n, 1)) (hx : Int64.ofNat (n : Nat) = Int64.ofInt x ∧ okL x) (k : RG E M cl sl Fx Z o (pc + 1) lv (vl x :: st) mem) : RG E M cl sl Fx Z o pc lv st mem :=
  RG_go (fun p e R s m args below meth c H locs ls Q hF hL hs hw hS kk => lv_lconst hF.1 hF.2.1 hd hx.1 (kk ls hL (okS_l hx.2 hs))) k
theorem RG_ldc {idx : Nat} {v : Int32} {x : Int} (hw0 : Cond.constant M.1 idx v ∈ TBL) (hx : v = Int32.ofInt x ∧ okI x) (hd : decode M.2.1 pc = .ok (.ldc idx, 2)) (k : RG E M cl sl Fx Z o (pc + 2) lv (vi x :: st) mem) : RG E M cl sl Fx Z o pc lv st mem :=
  RG_go (fun p e R s m args below meth c H locs ls Q hF hL hs hw hS kk => by
    refine lv_ldc hF.1 hF.2.1 hF.2.2.2.2.1 (hF.2.2.2.2.2.1 _ hw0) hd ?_
    rw [hx.1]
    exact kk ls hL (okS_c hx.2 hs)) k
theorem RG_ldcw {idx : Nat} {v : Int32} {x : Int} (hw0 : Cond.constant M.1 idx v ∈ TBL) (hx : v = Int32.ofInt x ∧ okI x) (hd : decode M.2.1 pc = .ok (.ldc_w idx, 3)) (k : RG E M cl sl Fx Z o (pc + 3) lv (vi x :: st) mem) : RG E M cl sl Fx Z o pc lv st mem :=
  RG_go (fun p e R s m args below meth c H locs ls Q hF hL hs hw hS kk => by
    refine lv_ldcw hF.1 hF.2.1 hF.2.2.2.2.1 (hF.2.2.2.2.2.1 _ hw0) hd ?_
    rw [hx.1]
    exact kk ls hL (okS_c hx.2 hs)) k
theorem RG_ldc2 {idx : Nat} {v : Int64} {x : Int} (hw0 : Cond.constantLong M.1 idx v ∈ TBL) (hx : v = Int64.ofInt x ∧ okL x) (hd : decode M.2.1 pc = .ok (.ldc2_w idx, 3)) (k : RG E M cl sl Fx Z o (pc + 3) lv (vl x :: st) mem) : RG E M cl sl Fx Z o pc lv st mem :=
  RG_go (fun p e R s m args below meth c H locs ls Q hF hL hs hw hS kk => by
    refine lv_ldc2 hF.1 hF.2.1 hF.2.2.2.2.1 (hF.2.2.2.2.2.1 _ hw0) hd ?_
    rw [hx.1]
    exact kk ls hL (okS_c hx.2 hs)) k
theorem RG_iload_n {j : Fin 4} {i : Nat} {x : Int} (hd : decode M.2.1 pc = .ok (.iload_n j, 1)) (hi : (j : Nat) = i) (hg : lget lv i = some (vi x)) (k : RG E M cl sl Fx Z o (pc + 1) lv (vi x :: st) mem) : RG E M cl sl Fx Z o pc lv st mem :=
  RG_go (fun p e R s m args below meth c H locs ls Q hF hL hs hw hS kk => lv_iload_n hF.1 hF.2.1 hd hi (hL.2.2 _ _ hg).1 (kk ls hL (okS_c (hL.2.2 _ _ hg).2 hs))) k
theorem RG_iload {i : Nat} {x : Int} (hd : decode M.2.1 pc = .ok (.iload i, 2)) (hg : lget lv i = some (vi x)) (k : RG E M cl sl Fx Z o (pc + 2) lv (vi x :: st) mem) : RG E M cl sl Fx Z o pc lv st mem :=
  RG_go (fun p e R s m args below meth c H locs ls Q hF hL hs hw hS kk => lv_iload hF.1 hF.2.1 hd (hL.2.2 _ _ hg).1 (kk ls hL (okS_c (hL.2.2 _ _ hg).2 hs))) k
theorem RG_lload_n {j : Fin 4} {i : Nat} {x : Int} (hd : decode M.2.1 pc = .ok (.lload_n j, 1)) (hi : (j : Nat) = i) (hg : lget lv i = some (vl x)) (k : RG E M cl sl Fx Z o (pc + 1) lv (vl x :: st) mem) : RG E M cl sl Fx Z o pc lv st mem :=
  RG_go (fun p e R s m args below meth c H locs ls Q hF hL hs hw hS kk => lv_lload_n hF.1 hF.2.1 hd hi (hL.2.2 _ _ hg).1 (kk ls hL (okS_c (hL.2.2 _ _ hg).2 hs))) k
theorem RG_lload {i : Nat} {x : Int} (hd : decode M.2.1 pc = .ok (.lload i, 2)) (hg : lget lv i = some (vl x)) (k : RG E M cl sl Fx Z o (pc + 2) lv (vl x :: st) mem) : RG E M cl sl Fx Z o pc lv st mem :=
  RG_go (fun p e R s m args below meth c H locs ls Q hF hL hs hw hS kk => lv_lload hF.1 hF.2.1 hd (hL.2.2 _ _ hg).1 (kk ls hL (okS_c (hL.2.2 _ _ hg).2 hs))) k
theorem RG_aload_n {j : Fin 4} {i : Nat} {a : Nat} (hd : decode M.2.1 pc = .ok (.aload_n j, 1)) (hi : (j : Nat) = i) (hg : lget lv i = some (rf a)) (k : RG E M cl sl Fx Z o (pc + 1) lv (rf a :: st) mem) : RG E M cl sl Fx Z o pc lv st mem :=
  RG_go (fun p e R s m args below meth c H locs ls Q hF hL hs hw hS kk => lv_aload_n hF.1 hF.2.1 hd hi (hL.2.2 _ _ hg).1 (kk ls hL (okS_c (hL.2.2 _ _ hg).2 hs))) k
theorem RG_aload {i : Nat} {a : Nat} (hd : decode M.2.1 pc = .ok (.aload i, 2)) (hg : lget lv i = some (rf a)) (k : RG E M cl sl Fx Z o (pc + 2) lv (rf a :: st) mem) : RG E M cl sl Fx Z o pc lv st mem :=
  RG_go (fun p e R s m args below meth c H locs ls Q hF hL hs hw hS kk => lv_aload hF.1 hF.2.1 hd (hL.2.2 _ _ hg).1 (kk ls hL (okS_c (hL.2.2 _ _ hg).2 hs))) k
theorem RG_wload_n {j : Fin 4} {i : Nat} {x : Int} (hd : decode M.2.1 pc = .ok (.aload_n j, 1)) (hi : (j : Nat) = i) (hg : lget lv i = some (vw x)) (k : RG E M cl sl Fx Z o (pc + 1) lv (vw x :: st) mem) : RG E M cl sl Fx Z o pc lv st mem :=
  RG_go (fun p e R s m args below meth c H locs ls Q hF hL hs hw hS kk => by
    have h1 := (hL.2.2 _ _ hg).1
    have h2 := kk ls hL (okS_c (hL.2.2 _ _ hg).2 hs)
    change ls[i]? = some (.val (wv E x)) at h1
    change W p (eL E) e R s m args below meth c H locs cl sl Q (F0 m (pc + 1) ls (wv E x :: st.map (cv E))) at h2
    rcases wv_or E x with ⟨-, e1⟩ | ⟨-, e1⟩
    · rw [e1] at h1 h2
      exact lv_aload_nN hF.1 hF.2.1 hd hi h1 h2
    · rw [e1] at h1 h2
      exact lv_aload_n hF.1 hF.2.1 hd hi h1 h2) k
theorem RG_istore_n {j : Fin 4} {i : Nat} {x : Int} (hd : decode M.2.1 pc = .ok (.istore_n j, 1)) (hi : (j : Nat) = i) (hn : i < M.2.2.1) (k : RG E M cl sl Fx Z o (pc + 1) ((i, vi x) :: lv) st mem) : RG E M cl sl Fx Z o pc lv (vi x :: st) mem :=
  RG_go (fun p e R s m args below meth c H locs ls Q hF hL hs hw hS kk => lv_istore_n hF.1 hF.2.1 hd hi (LO_has hL) hn rfl (fun ls' h' => kk ls' (LO_store1 (v := vi x) hL (by show (0 : Nat) ≠ 1; decide) (okS_h hs) h') (okS_t hs))) k
theorem RG_istore {i : Nat} {x : Int} (hd : decode M.2.1 pc = .ok (.istore i, 2)) (hn : i < M.2.2.1) (k : RG E M cl sl Fx Z o (pc + 2) ((i, vi x) :: lv) st mem) : RG E M cl sl Fx Z o pc lv (vi x :: st) mem :=
  RG_go (fun p e R s m args below meth c H locs ls Q hF hL hs hw hS kk => lv_istore hF.1 hF.2.1 hd (LO_has hL) hn rfl (fun ls' h' => kk ls' (LO_store1 (v := vi x) hL (by show (0 : Nat) ≠ 1; decide) (okS_h hs) h') (okS_t hs))) k
theorem RG_astore_n {j : Fin 4} {i : Nat} {a : Nat} (hd : decode M.2.1 pc = .ok (.astore_n j, 1)) (hi : (j : Nat) = i) (hn : i < M.2.2.1) (k : RG E M cl sl Fx Z o (pc + 1) ((i, rf a) :: lv) st mem) : RG E M cl sl Fx Z o pc lv (rf a :: st) mem :=
  RG_go (fun p e R s m args below meth c H locs ls Q hF hL hs hw hS kk => lv_astore_n hF.1 hF.2.1 hd hi (LO_has hL) hn rfl (fun ls' h' => kk ls' (LO_store1 (v := rf a) hL (by show (2 : Nat) ≠ 1; decide) (okS_h hs) h') (okS_t hs))) k
theorem RG_astore {i : Nat} {a : Nat} (hd : decode M.2.1 pc = .ok (.astore i, 2)) (hn : i < M.2.2.1) (k : RG E M cl sl Fx Z o (pc + 2) ((i, rf a) :: lv) st mem) : RG E M cl sl Fx Z o pc lv (rf a :: st) mem :=
  RG_go (fun p e R s m args below meth c H locs ls Q hF hL hs hw hS kk => lv_astore hF.1 hF.2.1 hd (LO_has hL) hn rfl (fun ls' h' => kk ls' (LO_store1 (v := rf a) hL (by show (2 : Nat) ≠ 1; decide) (okS_h hs) h') (okS_t hs))) k
theorem RG_wstore_n {j : Fin 4} {i : Nat} {x : Int} (hd : decode M.2.1 pc = .ok (.astore_n j, 1)) (hi : (j : Nat) = i) (hn : i < M.2.2.1) (k : RG E M cl sl Fx Z o (pc + 1) ((i, vw x) :: lv) st mem) : RG E M cl sl Fx Z o pc lv (vw x :: st) mem :=
  RG_go (fun p e R s m args below meth c H locs ls Q hF hL hs hw hS kk => by
    have hk : ∀ ls' : Array Slot, lv_has ls' M.2.2.1 ((i, wv E x) :: (KL E M.2.2.1 lv).filter (fun q => !(q.1 == i) && !(q.1 + 1 == i && q.2.category == 2))) → W p (eL E) e R s m args below meth c H locs cl sl Q (F0 m (pc + 1) ls' (st.map (cv E))) := fun ls' h' => kk ls' (LO_store1 (v := vw x) hL (by show (3 : Nat) ≠ 1; decide) (okS_h hs) h') (okS_t hs)
    show W p (eL E) e R s m args below meth c H locs cl sl Q (F0 m pc ls (wv E x :: st.map (cv E)))
    rcases wv_or E x with ⟨-, e1⟩ | ⟨-, e1⟩
    · rw [e1] at hk ⊢
      exact lv_astore_nN hF.1 hF.2.1 hd hi (LO_has hL) hn rfl hk
    · rw [e1] at hk ⊢
      exact lv_astore_n hF.1 hF.2.1 hd hi (LO_has hL) hn rfl hk) k
theorem RG_lstore_n {j : Fin 4} {i : Nat} {x : Int} (hd : decode M.2.1 pc = .ok (.lstore_n j, 1)) (hi : (j : Nat) = i) (hn : i + 1 < M.2.2.1) (k : RG E M cl sl Fx Z o (pc + 1) ((i, vl x) :: lv) st mem) : RG E M cl sl Fx Z o pc lv (vl x :: st) mem :=
  RG_go (fun p e R s m args below meth c H locs ls Q hF hL hs hw hS kk => lv_lstore_n hF.1 hF.2.1 hd hi (LO_has hL) hn rfl (fun ls' h' => kk ls' (LO_store2 (v := vl x) hL rfl (okS_h hs) h') (okS_t hs))) k
theorem RG_lstore {i : Nat} {x : Int} (hd : decode M.2.1 pc = .ok (.lstore i, 2)) (hn : i + 1 < M.2.2.1) (k : RG E M cl sl Fx Z o (pc + 2) ((i, vl x) :: lv) st mem) : RG E M cl sl Fx Z o pc lv (vl x :: st) mem :=
  RG_go (fun p e R s m args below meth c H locs ls Q hF hL hs hw hS kk => lv_lstore hF.1 hF.2.1 hd (LO_has hL) hn rfl (fun ls' h' => kk ls' (LO_store2 (v := vl x) hL rfl (okS_h hs) h') (okS_t hs))) k
theorem RG_iinc {i : Nat} {n x : Int} (hd : decode M.2.1 pc = .ok (.iinc i n, 3)) (hg : lget lv i = some (vi x)) (hn : i < M.2.2.1) (k : RG E M cl sl Fx Z o (pc + 3) ((i, vi (w32 (x + n))) :: lv) st mem) : RG E M cl sl Fx Z o pc lv st mem :=
  RG_go (fun p e R s m args below meth c H locs ls Q hF hL hs hw hS kk => by
    obtain ⟨q, hq⟩ := List.mem_iff_getElem?.mp (KL_mem hL hg)
    exact lv_iinc (k := q) hF.1 hF.2.1 hd (LO_has hL) hq (of_add x n) hn rfl (fun ls' h' => kk ls' (LO_store1 (v := vi (w32 (x + n))) hL (by show (0 : Nat) ≠ 1; decide) (okI_w _) h') hs)) k
theorem RG_iadd {x y : Int} (hd : decode M.2.1 pc = .ok (.iadd, 1)) (k : RG E M cl sl Fx Z o (pc + 1) lv (vi (w32 (x + y)) :: st) mem) : RG E M cl sl Fx Z o pc lv (vi y :: vi x :: st) mem :=
  RG_go (fun p e R s m args below meth c H locs ls Q hF hL hs hw hS kk => by
    refine lv_iadd (x := Int32.ofInt x) (y := Int32.ofInt y) (rest := st.map (cv E)) hF.1 hF.2.1 hd ?_
    rw [of_add]
    exact kk ls hL (okS_i (okI_w _) (okS_t (okS_t hs)))) k
theorem RG_isub {x y : Int} (hd : decode M.2.1 pc = .ok (.isub, 1)) (k : RG E M cl sl Fx Z o (pc + 1) lv (vi (w32 (x - y)) :: st) mem) : RG E M cl sl Fx Z o pc lv (vi y :: vi x :: st) mem :=
  RG_go (fun p e R s m args below meth c H locs ls Q hF hL hs hw hS kk => by
    refine lv_isub (x := Int32.ofInt x) (y := Int32.ofInt y) (rest := st.map (cv E)) hF.1 hF.2.1 hd ?_
    rw [of_sub]
    exact kk ls hL (okS_i (okI_w _) (okS_t (okS_t hs)))) k
theorem RG_imul {x y : Int} (hd : decode M.2.1 pc = .ok (.imul, 1)) (k : RG E M cl sl Fx Z o (pc + 1) lv (vi (w32 (x * y)) :: st) mem) : RG E M cl sl Fx Z o pc lv (vi y :: vi x :: st) mem :=
  RG_go (fun p e R s m args below meth c H locs ls Q hF hL hs hw hS kk => by
    refine lv_imul (x := Int32.ofInt x) (y := Int32.ofInt y) (rest := st.map (cv E)) hF.1 hF.2.1 hd ?_
    rw [of_mul]
    exact kk ls hL (okS_i (okI_w _) (okS_t (okS_t hs)))) k
theorem RG_ladd {x y : Int} (hd : decode M.2.1 pc = .ok (.ladd, 1)) (k : RG E M cl sl Fx Z o (pc + 1) lv (vl (w64 (x + y)) :: st) mem) : RG E M cl sl Fx Z o pc lv (vl y :: vl x :: st) mem :=
  RG_go (fun p e R s m args below meth c H locs ls Q hF hL hs hw hS kk => by
    refine lv_ladd (x := Int64.ofInt x) (y := Int64.ofInt y) (rest := st.map (cv E)) hF.1 hF.2.1 hd ?_
    rw [ol_add]
    exact kk ls hL (okS_l (okL_w _) (okS_t (okS_t hs)))) k
theorem RG_lsub {x y : Int} (hd : decode M.2.1 pc = .ok (.lsub, 1)) (k : RG E M cl sl Fx Z o (pc + 1) lv (vl (w64 (x - y)) :: st) mem) : RG E M cl sl Fx Z o pc lv (vl y :: vl x :: st) mem :=
  RG_go (fun p e R s m args below meth c H locs ls Q hF hL hs hw hS kk => by
    refine lv_lsub (x := Int64.ofInt x) (y := Int64.ofInt y) (rest := st.map (cv E)) hF.1 hF.2.1 hd ?_
    rw [ol_sub]
    exact kk ls hL (okS_l (okL_w _) (okS_t (okS_t hs)))) k
theorem RG_lmul {x y : Int} (hd : decode M.2.1 pc = .ok (.lmul, 1)) (k : RG E M cl sl Fx Z o (pc + 1) lv (vl (w64 (x * y)) :: st) mem) : RG E M cl sl Fx Z o pc lv (vl y :: vl x :: st) mem :=
  RG_go (fun p e R s m args below meth c H locs ls Q hF hL hs hw hS kk => by
    refine lv_lmul (x := Int64.ofInt x) (y := Int64.ofInt y) (rest := st.map (cv E)) hF.1 hF.2.1 hd ?_
    rw [ol_mul]
    exact kk ls hL (okS_l (okL_w _) (okS_t (okS_t hs)))) k
theorem RG_iand {x y : Int} (hd : decode M.2.1 pc = .ok (.iand, 1)) (k : RG E M cl sl Fx Z o (pc + 1) lv (vi (iand x y) :: st) mem) : RG E M cl sl Fx Z o pc lv (vi y :: vi x :: st) mem :=
  RG_go (fun p e R s m args below meth c H locs ls Q hF hL hs hw hS kk => by
    refine lv_iand (x := Int32.ofInt x) (y := Int32.ofInt y) (rest := st.map (cv E)) hF.1 hF.2.1 hd ?_
    rw [← Int32.ofInt_toInt (Int32.ofInt x &&& Int32.ofInt y)]
    exact kk ls hL (okS_i (okI_32 _) (okS_t (okS_t hs)))) k
theorem RG_ior {x y : Int} (hd : decode M.2.1 pc = .ok (.ior, 1)) (k : RG E M cl sl Fx Z o (pc + 1) lv (vi (ior x y) :: st) mem) : RG E M cl sl Fx Z o pc lv (vi y :: vi x :: st) mem :=
  RG_go (fun p e R s m args below meth c H locs ls Q hF hL hs hw hS kk => by
    refine lv_ior (x := Int32.ofInt x) (y := Int32.ofInt y) (rest := st.map (cv E)) hF.1 hF.2.1 hd ?_
    rw [← Int32.ofInt_toInt (Int32.ofInt x ||| Int32.ofInt y)]
    exact kk ls hL (okS_i (okI_32 _) (okS_t (okS_t hs)))) k
theorem RG_ixor {x y : Int} (hd : decode M.2.1 pc = .ok (.ixor, 1)) (k : RG E M cl sl Fx Z o (pc + 1) lv (vi (ixor x y) :: st) mem) : RG E M cl sl Fx Z o pc lv (vi y :: vi x :: st) mem :=
  RG_go (fun p e R s m args below meth c H locs ls Q hF hL hs hw hS kk => by
    refine lv_ixor (x := Int32.ofInt x) (y := Int32.ofInt y) (rest := st.map (cv E)) hF.1 hF.2.1 hd ?_
    rw [← Int32.ofInt_toInt (Int32.ofInt x ^^^ Int32.ofInt y)]
    exact kk ls hL (okS_i (okI_32 _) (okS_t (okS_t hs)))) k
theorem RG_ishl {x y : Int} (hd : decode M.2.1 pc = .ok (.ishl, 1)) (k : RG E M cl sl Fx Z o (pc + 1) lv (vi (ishl x y) :: st) mem) : RG E M cl sl Fx Z o pc lv (vi y :: vi x :: st) mem :=
  RG_go (fun p e R s m args below meth c H locs ls Q hF hL hs hw hS kk => by
    refine lv_ishl (x := Int32.ofInt x) (y := Int32.ofInt y) (rest := st.map (cv E)) hF.1 hF.2.1 hd ?_
    rw [← Int32.ofInt_toInt (Int32.ofInt x <<< (Int32.ofInt y &&& 31))]
    exact kk ls hL (okS_i (okI_32 _) (okS_t (okS_t hs)))) k
theorem RG_ishr {x y : Int} (hd : decode M.2.1 pc = .ok (.ishr, 1)) (k : RG E M cl sl Fx Z o (pc + 1) lv (vi (ishr x y) :: st) mem) : RG E M cl sl Fx Z o pc lv (vi y :: vi x :: st) mem :=
  RG_go (fun p e R s m args below meth c H locs ls Q hF hL hs hw hS kk => by
    refine lv_ishr (x := Int32.ofInt x) (y := Int32.ofInt y) (rest := st.map (cv E)) hF.1 hF.2.1 hd ?_
    rw [← Int32.ofInt_toInt (Int32.ofInt x >>> (Int32.ofInt y &&& 31))]
    exact kk ls hL (okS_i (okI_32 _) (okS_t (okS_t hs)))) k
theorem RG_land {x y : Int} (hd : decode M.2.1 pc = .ok (.land, 1)) (k : RG E M cl sl Fx Z o (pc + 1) lv (vl (land x y) :: st) mem) : RG E M cl sl Fx Z o pc lv (vl y :: vl x :: st) mem :=
  RG_go (fun p e R s m args below meth c H locs ls Q hF hL hs hw hS kk => by
    refine lv_land (x := Int64.ofInt x) (y := Int64.ofInt y) (rest := st.map (cv E)) hF.1 hF.2.1 hd ?_
    rw [← Int64.ofInt_toInt (Int64.ofInt x &&& Int64.ofInt y)]
    exact kk ls hL (okS_l (okL_64 _) (okS_t (okS_t hs)))) k
theorem RG_lor {x y : Int} (hd : decode M.2.1 pc = .ok (.lor, 1)) (k : RG E M cl sl Fx Z o (pc + 1) lv (vl (lor x y) :: st) mem) : RG E M cl sl Fx Z o pc lv (vl y :: vl x :: st) mem :=
  RG_go (fun p e R s m args below meth c H locs ls Q hF hL hs hw hS kk => by
    refine lv_lor (x := Int64.ofInt x) (y := Int64.ofInt y) (rest := st.map (cv E)) hF.1 hF.2.1 hd ?_
    rw [← Int64.ofInt_toInt (Int64.ofInt x ||| Int64.ofInt y)]
    exact kk ls hL (okS_l (okL_64 _) (okS_t (okS_t hs)))) k
theorem RG_iushr {x y : Int} (hd : decode M.2.1 pc = .ok (.iushr, 1)) (k : RG E M cl sl Fx Z o (pc + 1) lv (vi (iushr x y) :: st) mem) : RG E M cl sl Fx Z o pc lv (vi y :: vi x :: st) mem :=
  RG_go (fun p e R s m args below meth c H locs ls Q hF hL hs hw hS kk => lv_iushr (x := Int32.ofInt x) (y := Int32.ofInt y) (rest := st.map (cv E)) hF.1 hF.2.1 hd (Int32.ofInt_toInt _).symm (kk ls hL (okS_i (okI_32 _) (okS_t (okS_t hs))))) k
theorem RG_lshl {x y : Int} (hd : decode M.2.1 pc = .ok (.lshl, 1)) (k : RG E M cl sl Fx Z o (pc + 1) lv (vl (lshl x y) :: st) mem) : RG E M cl sl Fx Z o pc lv (vi y :: vl x :: st) mem :=
  RG_go (fun p e R s m args below meth c H locs ls Q hF hL hs hw hS kk => lv_lshl (x := Int64.ofInt x) (y := Int32.ofInt y) (rest := st.map (cv E)) hF.1 hF.2.1 hd (Int64.ofInt_toInt _).symm (kk ls hL (okS_l (okL_64 _) (okS_t (okS_t hs))))) k
theorem RG_lshr {x y : Int} (hd : decode M.2.1 pc = .ok (.lshr, 1)) (k : RG E M cl sl Fx Z o (pc + 1) lv (vl (lshr x y) :: st) mem) : RG E M cl sl Fx Z o pc lv (vi y :: vl x :: st) mem :=
  RG_go (fun p e R s m args below meth c H locs ls Q hF hL hs hw hS kk => lv_lshr (x := Int64.ofInt x) (y := Int32.ofInt y) (rest := st.map (cv E)) hF.1 hF.2.1 hd (Int64.ofInt_toInt _).symm (kk ls hL (okS_l (okL_64 _) (okS_t (okS_t hs))))) k
theorem RG_lushr {x y : Int} (hd : decode M.2.1 pc = .ok (.lushr, 1)) (k : RG E M cl sl Fx Z o (pc + 1) lv (vl (lushr x y) :: st) mem) : RG E M cl sl Fx Z o pc lv (vi y :: vl x :: st) mem :=
  RG_go (fun p e R s m args below meth c H locs ls Q hF hL hs hw hS kk => lv_lushr (x := Int64.ofInt x) (y := Int32.ofInt y) (rest := st.map (cv E)) hF.1 hF.2.1 hd (Int64.ofInt_toInt _).symm (kk ls hL (okS_l (okL_64 _) (okS_t (okS_t hs))))) k
theorem RG_ineg {x : Int} (hd : decode M.2.1 pc = .ok (.ineg, 1)) (k : RG E M cl sl Fx Z o (pc + 1) lv (vi (w32 (-x)) :: st) mem) : RG E M cl sl Fx Z o pc lv (vi x :: st) mem :=
  RG_go (fun p e R s m args below meth c H locs ls Q hF hL hs hw hS kk => by
    refine lv_ineg (x := Int32.ofInt x) (rest := st.map (cv E)) hF.1 hF.2.1 hd ?_
    rw [of_neg]
    exact kk ls hL (okS_i (okI_w _) (okS_t hs))) k
theorem RG_i2l {x : Int} (hd : decode M.2.1 pc = .ok (.i2l, 1)) (k : RG E M cl sl Fx Z o (pc + 1) lv (vl x :: st) mem) : RG E M cl sl Fx Z o pc lv (vi x :: st) mem :=
  RG_go (fun p e R s m args below meth c H locs ls Q hF hL hs hw hS kk => by
    have h0 : okI x := okS_h hs
    exact lv_i2l (x := Int32.ofInt x) (rest := st.map (cv E)) hF.1 hF.2.1 hd (of_i2l h0) (kk ls hL (okS_l (show okL x from ⟨by have := h0.1; omega, by have := h0.2; omega⟩) (okS_t hs)))) k
theorem RG_l2i {x : Int} (hd : decode M.2.1 pc = .ok (.l2i, 1)) (k : RG E M cl sl Fx Z o (pc + 1) lv (vi (w32 x) :: st) mem) : RG E M cl sl Fx Z o pc lv (vl x :: st) mem :=
  RG_go (fun p e R s m args below meth c H locs ls Q hF hL hs hw hS kk => lv_l2i (x := Int64.ofInt x) (rest := st.map (cv E)) hF.1 hF.2.1 hd ((of_l2i x).trans (of_w32 x).symm) (kk ls hL (okS_i (okI_w x) (okS_t hs)))) k
theorem RG_i2c {x : Int} (hd : decode M.2.1 pc = .ok (.i2c, 1)) (k : RG E M cl sl Fx Z o (pc + 1) lv (vi (i2c x) :: st) mem) : RG E M cl sl Fx Z o pc lv (vi x :: st) mem :=
  RG_go (fun p e R s m args below meth c H locs ls Q hF hL hs hw hS kk => lv_i2c (x := Int32.ofInt x) (rest := st.map (cv E)) hF.1 hF.2.1 hd (Int32.ofInt_toInt _).symm (kk ls hL (okS_i (okI_32 _) (okS_t hs)))) k
theorem RG_lcmp {x y : Int} (hd : decode M.2.1 pc = .ok (.lcmp, 1)) (k : RG E M cl sl Fx Z o (pc + 1) lv (vi (lcm x y) :: st) mem) : RG E M cl sl Fx Z o pc lv (vl y :: vl x :: st) mem :=
  RG_go (fun p e R s m args below meth c H locs ls Q hF hL hs hw hS kk => by
    refine W.lcmp (x := Int64.ofInt x) (y := Int64.ofInt y) (rest := st.map (cv E)) hF.1 hF.2.1 hd ?_
    rw [of_cmp (okS_h (okS_t hs)) (okS_h hs)]
    exact kk ls hL (okS_i (okI_lcm x y) (okS_t (okS_t hs)))) k
theorem RG_idiv {x y : Int} (hd : decode M.2.1 pc = .ok (.idiv, 1)) (k : RG E M cl sl Fx Z o (pc + 1) lv (vi (idv x y) :: st) mem) : RG E M cl sl Fx Z (if y = 0 then none else o) pc lv (vi y :: vi x :: st) mem := by
  by_cases hy : y = 0
  · rw [if_pos hy]; exact RG_none
  rw [if_neg hy]
  exact RG_go (fun p e R s m args below meth c H locs ls Q hF hL hs hw hS kk => by
    refine lv_idiv (x := Int32.ofInt x) (y := Int32.ofInt y) (rest := st.map (cv E)) hF.1 hF.2.1 hd (fun z => hy ((of_eq (y := 0) (okS_h hs) okI_0).mp z)) ?_
    rw [← Int32.ofInt_toInt (Int32.ofInt x / Int32.ofInt y)]
    exact kk ls hL (okS_i (okI_32 _) (okS_t (okS_t hs)))) k
theorem RG_irem {x y : Int} (hd : decode M.2.1 pc = .ok (.irem, 1)) (k : RG E M cl sl Fx Z o (pc + 1) lv (vi (irm x y) :: st) mem) : RG E M cl sl Fx Z (if y = 0 then none else o) pc lv (vi y :: vi x :: st) mem := by
  by_cases hy : y = 0
  · rw [if_pos hy]; exact RG_none
  rw [if_neg hy]
  exact RG_go (fun p e R s m args below meth c H locs ls Q hF hL hs hw hS kk => by
    refine lv_irem (x := Int32.ofInt x) (y := Int32.ofInt y) (rest := st.map (cv E)) hF.1 hF.2.1 hd (fun z => hy ((of_eq (y := 0) (okS_h hs) okI_0).mp z)) ?_
    rw [← Int32.ofInt_toInt (Int32.ofInt x - Int32.ofInt x / Int32.ofInt y * Int32.ofInt y)]
    exact kk ls hL (okS_i (okI_32 _) (okS_t (okS_t hs)))) k
theorem RG_ldiv {x y : Int} (hd : decode M.2.1 pc = .ok (.ldiv, 1)) (k : RG E M cl sl Fx Z o (pc + 1) lv (vl (ldv x y) :: st) mem) : RG E M cl sl Fx Z (if y = 0 then none else o) pc lv (vl y :: vl x :: st) mem := by
  by_cases hy : y = 0
  · rw [if_pos hy]; exact RG_none
  rw [if_neg hy]
  exact RG_go (fun p e R s m args below meth c H locs ls Q hF hL hs hw hS kk => by
    refine lv_ldiv (x := Int64.ofInt x) (y := Int64.ofInt y) (rest := st.map (cv E)) hF.1 hF.2.1 hd (fun z => hy ((ol_eq (y := 0) (okS_h hs) okL_0).mp z)) ?_
    rw [← Int64.ofInt_toInt (Int64.ofInt x / Int64.ofInt y)]
    exact kk ls hL (okS_l (okL_64 _) (okS_t (okS_t hs)))) k
theorem RG_lrem {x y : Int} (hd : decode M.2.1 pc = .ok (.lrem, 1)) (k : RG E M cl sl Fx Z o (pc + 1) lv (vl (lrm x y) :: st) mem) : RG E M cl sl Fx Z (if y = 0 then none else o) pc lv (vl y :: vl x :: st) mem := by
  by_cases hy : y = 0
  · rw [if_pos hy]; exact RG_none
  rw [if_neg hy]
  exact RG_go (fun p e R s m args below meth c H locs ls Q hF hL hs hw hS kk => by
    refine lv_lrem (x := Int64.ofInt x) (y := Int64.ofInt y) (rest := st.map (cv E)) hF.1 hF.2.1 hd (fun z => hy ((ol_eq (y := 0) (okS_h hs) okL_0).mp z)) ?_
    rw [← Int64.ofInt_toInt (Int64.ofInt x - Int64.ofInt x / Int64.ofInt y * Int64.ofInt y)]
    exact kk ls hL (okS_l (okL_64 _) (okS_t (okS_t hs)))) k
theorem RG_dup {v : VV} (hd : decode M.2.1 pc = .ok (.dup, 1)) (hv : v.1 ≠ 1) (k : RG E M cl sl Fx Z o (pc + 1) lv (v :: v :: st) mem) : RG E M cl sl Fx Z o pc lv (v :: st) mem :=
  RG_go (fun p e R s m args below meth c H locs ls Q hF hL hs hw hS kk => lv_dup hF.1 hF.2.1 hd (cat1 hv) (kk ls hL (okS_c (okS_h hs) hs))) k
theorem RG_pop {v : VV} (hd : decode M.2.1 pc = .ok (.pop, 1)) (hv : v.1 ≠ 1) (k : RG E M cl sl Fx Z o (pc + 1) lv st mem) : RG E M cl sl Fx Z o pc lv (v :: st) mem :=
  RG_go (fun p e R s m args below meth c H locs ls Q hF hL hs hw hS kk => lv_pop hF.1 hF.2.1 hd (cat1 hv) (kk ls hL (okS_t hs))) k
theorem RG_dup2 {v u : VV} (hd : decode M.2.1 pc = .ok (.dup2, 1)) (hv : v.1 ≠ 1) (hu : u.1 ≠ 1) (k : RG E M cl sl Fx Z o (pc + 1) lv (v :: u :: v :: u :: st) mem) : RG E M cl sl Fx Z o pc lv (v :: u :: st) mem :=
  RG_go (fun p e R s m args below meth c H locs ls Q hF hL hs hw hS kk => lv_dup2_11 hF.1 hF.2.1 hd (cat1 hv) (cat1 hu) (kk ls hL (okS_c (okS_h hs) (okS_c (okS_h (okS_t hs)) hs)))) k
theorem RG_goto {off : Int} {tgt : Nat} (hd : decode M.2.1 pc = .ok (.goto off, 3)) (ht : (pc : Int) + off = (tgt : Int)) (k : RG E M cl sl Fx Z o tgt lv st mem) : RG E M cl sl Fx Z o pc lv st mem :=
  RG_go (fun p e R s m args below meth c H locs ls Q hF hL hs hw hS kk => lv_goto hF.1 hF.2.1 hd ht (kk ls hL hs)) k
/-- two ways on -/
theorem RG_two {P : Prop} {inst : Decidable P} {pa pb : Nat} {st' : List VV}
    (h : ∀ (p : Program) (e : Env) (R : Room) (s : State) (m : MethodId) (args : Array Value) (below : List Frame) (meth : Method) (c : Code) (H : Heap) (locs : List Loc) (ls : Array Slot) (Q : State → Prop), FrG E M p R s m args meth c → okS st →
      (P → W p (eL E) e R s m args below meth c H locs cl sl Q (F0 m pa ls (st'.map (cv E)))) → (¬ P → W p (eL E) e R s m args below meth c H locs cl sl Q (F0 m pb ls (st'.map (cv E)))) → W p (eL E) e R s m args below meth c H locs cl sl Q (F0 m pc ls (st.map (cv E))))
    (hst : okS st → okS st') (ka : P → RG E M cl sl Fx Z o1 pa lv st' mem) (kb : ¬ P → RG E M cl sl Fx Z o2 pb lv st' mem) : RG E M cl sl Fx Z (@ite _ P inst o1 o2) pc lv st mem :=
  fun r mem' ho p e R s m args below meth c hF hFx H locs ls hL hs hw hS => h p e R s m args below meth c H locs ls _ hF hs
    (fun hP => ka hP r mem' (by rw [if_pos hP] at ho; exact ho) p e R s m args below meth c hF hFx H locs ls hL (hst hs) hw hS)
    (fun hP => kb hP r mem' (by rw [if_neg hP] at ho; exact ho) p e R s m args below meth c hF hFx H locs ls hL (hst hs) hw hS)
theorem RG_if_eq {x : Int} {off : Int} {tgt : Nat} (hd : decode M.2.1 pc = .ok (.ifCond .eq off, 3)) (ht : (pc : Int) + off = (tgt : Int)) (ka : RG E M cl sl Fx Z o1 tgt lv st mem) (kb : RG E M cl sl Fx Z o2 (pc + 3) lv st mem) : RG E M cl sl Fx Z (if x = 0 then o1 else o2) pc lv (vi x :: st) mem :=
  RG_two (fun p e R s m args below meth c H locs ls Q hF hs ka kb => by
    have iff := (of_eq (x := x) (y := 0) (okS_h hs) okI_0)
    exact lv_if_eq (x := Int32.ofInt x) (rest := st.map (cv E)) hF.1 hF.2.1 hd ht (fun z => ka (iff.mp z)) (fun z => kb (fun q => z (iff.mpr q)))) (fun hs => okS_t hs) (fun _ => ka) (fun _ => kb)
theorem RG_if_ne {x : Int} {off : Int} {tgt : Nat} (hd : decode M.2.1 pc = .ok (.ifCond .ne off, 3)) (ht : (pc : Int) + off = (tgt : Int)) (ka : RG E M cl sl Fx Z o1 (pc + 3) lv st mem) (kb : RG E M cl sl Fx Z o2 tgt lv st mem) : RG E M cl sl Fx Z (if x = 0 then o1 else o2) pc lv (vi x :: st) mem :=
  RG_two (fun p e R s m args below meth c H locs ls Q hF hs ka kb => by
    have iff := (of_eq (x := x) (y := 0) (okS_h hs) okI_0)
    exact lv_if_ne (x := Int32.ofInt x) (rest := st.map (cv E)) hF.1 hF.2.1 hd ht (fun z => kb (fun q => z (iff.mpr q))) (fun z => ka (iff.mp z))) (fun hs => okS_t hs) (fun _ => ka) (fun _ => kb)
theorem RG_if_lt {x : Int} {off : Int} {tgt : Nat} (hd : decode M.2.1 pc = .ok (.ifCond .lt off, 3)) (ht : (pc : Int) + off = (tgt : Int)) (ka : RG E M cl sl Fx Z o1 tgt lv st mem) (kb : RG E M cl sl Fx Z o2 (pc + 3) lv st mem) : RG E M cl sl Fx Z (if x < 0 then o1 else o2) pc lv (vi x :: st) mem :=
  RG_two (fun p e R s m args below meth c H locs ls Q hF hs ka kb => by
    have iff := (of_lt (x := x) (y := 0) (okS_h hs) okI_0)
    exact lv_if_lt (x := Int32.ofInt x) (rest := st.map (cv E)) hF.1 hF.2.1 hd ht (fun z => ka (iff.mp z)) (fun z => kb (fun q => z (iff.mpr q)))) (fun hs => okS_t hs) (fun _ => ka) (fun _ => kb)
theorem RG_if_ge {x : Int} {off : Int} {tgt : Nat} (hd : decode M.2.1 pc = .ok (.ifCond .ge off, 3)) (ht : (pc : Int) + off = (tgt : Int)) (ka : RG E M cl sl Fx Z o1 (pc + 3) lv st mem) (kb : RG E M cl sl Fx Z o2 tgt lv st mem) : RG E M cl sl Fx Z (if x < 0 then o1 else o2) pc lv (vi x :: st) mem :=
  RG_two (fun p e R s m args below meth c H locs ls Q hF hs ka kb => by
    have iff := (of_lt (x := x) (y := 0) (okS_h hs) okI_0)
    exact lv_if_ge (x := Int32.ofInt x) (rest := st.map (cv E)) hF.1 hF.2.1 hd ht (fun z => kb (fun q => absurd z (nle (iff.mpr q)))) (fun z => ka (iff.mp (nlt z)))) (fun hs => okS_t hs) (fun _ => ka) (fun _ => kb)
theorem RG_if_gt {x : Int} {off : Int} {tgt : Nat} (hd : decode M.2.1 pc = .ok (.ifCond .gt off, 3)) (ht : (pc : Int) + off = (tgt : Int)) (ka : RG E M cl sl Fx Z o1 tgt lv st mem) (kb : RG E M cl sl Fx Z o2 (pc + 3) lv st mem) : RG E M cl sl Fx Z (if 0 < x then o1 else o2) pc lv (vi x :: st) mem :=
  RG_two (fun p e R s m args below meth c H locs ls Q hF hs ka kb => by
    have iff := (of_lt (x := 0) (y := x) okI_0 (okS_h hs))
    exact lv_if_gt (x := Int32.ofInt x) (rest := st.map (cv E)) hF.1 hF.2.1 hd ht (fun z => ka (iff.mp z)) (fun z => kb (fun q => z (iff.mpr q)))) (fun hs => okS_t hs) (fun _ => ka) (fun _ => kb)
theorem RG_if_le {x : Int} {off : Int} {tgt : Nat} (hd : decode M.2.1 pc = .ok (.ifCond .le off, 3)) (ht : (pc : Int) + off = (tgt : Int)) (ka : RG E M cl sl Fx Z o1 (pc + 3) lv st mem) (kb : RG E M cl sl Fx Z o2 tgt lv st mem) : RG E M cl sl Fx Z (if 0 < x then o1 else o2) pc lv (vi x :: st) mem :=
  RG_two (fun p e R s m args below meth c H locs ls Q hF hs ka kb => by
    have iff := (of_lt (x := 0) (y := x) okI_0 (okS_h hs))
    exact lv_if_le (x := Int32.ofInt x) (rest := st.map (cv E)) hF.1 hF.2.1 hd ht (fun z => kb (fun q => absurd z (nle (iff.mpr q)))) (fun z => ka (iff.mp (nlt z)))) (fun hs => okS_t hs) (fun _ => ka) (fun _ => kb)
theorem RG_icmp_eq {x y : Int} {off : Int} {tgt : Nat} (hd : decode M.2.1 pc = .ok (.if_icmp .eq off, 3)) (ht : (pc : Int) + off = (tgt : Int)) (ka : RG E M cl sl Fx Z o1 tgt lv st mem) (kb : RG E M cl sl Fx Z o2 (pc + 3) lv st mem) : RG E M cl sl Fx Z (if x = y then o1 else o2) pc lv (vi y :: vi x :: st) mem :=
  RG_two (fun p e R s m args below meth c H locs ls Q hF hs ka kb => by
    have iff := (of_eq (x := x) (y := y) (okS_h (okS_t hs)) (okS_h hs))
    exact lv_icmp_eq (x := Int32.ofInt x) (y := Int32.ofInt y) (rest := st.map (cv E)) hF.1 hF.2.1 hd ht (fun z => ka (iff.mp z)) (fun z => kb (fun q => z (iff.mpr q)))) (fun hs => okS_t (okS_t hs)) (fun _ => ka) (fun _ => kb)
theorem RG_icmp_ne {x y : Int} {off : Int} {tgt : Nat} (hd : decode M.2.1 pc = .ok (.if_icmp .ne off, 3)) (ht : (pc : Int) + off = (tgt : Int)) (ka : RG E M cl sl Fx Z o1 (pc + 3) lv st mem) (kb : RG E M cl sl Fx Z o2 tgt lv st mem) : RG E M cl sl Fx Z (if x = y then o1 else o2) pc lv (vi y :: vi x :: st) mem :=
  RG_two (fun p e R s m args below meth c H locs ls Q hF hs ka kb => by
    have iff := (of_eq (x := x) (y := y) (okS_h (okS_t hs)) (okS_h hs))
    exact lv_icmp_ne (x := Int32.ofInt x) (y := Int32.ofInt y) (rest := st.map (cv E)) hF.1 hF.2.1 hd ht (fun z => kb (fun q => z (iff.mpr q))) (fun z => ka (iff.mp z))) (fun hs => okS_t (okS_t hs)) (fun _ => ka) (fun _ => kb)
theorem RG_icmp_lt {x y : Int} {off : Int} {tgt : Nat} (hd : decode M.2.1 pc = .ok (.if_icmp .lt off, 3)) (ht : (pc : Int) + off = (tgt : Int)) (ka : RG E M cl sl Fx Z o1 tgt lv st mem) (kb : RG E M cl sl Fx Z o2 (pc + 3) lv st mem) : RG E M cl sl Fx Z (if x < y then o1 else o2) pc lv (vi y :: vi x :: st) mem :=
  RG_two (fun p e R s m args below meth c H locs ls Q hF hs ka kb => by
    have iff := (of_lt (x := x) (y := y) (okS_h (okS_t hs)) (okS_h hs))
    exact lv_icmp_lt (x := Int32.ofInt x) (y := Int32.ofInt y) (rest := st.map (cv E)) hF.1 hF.2.1 hd ht (fun z => ka (iff.mp z)) (fun z => kb (fun q => z (iff.mpr q)))) (fun hs => okS_t (okS_t hs)) (fun _ => ka) (fun _ => kb)
theorem RG_icmp_ge {x y : Int} {off : Int} {tgt : Nat} (hd : decode M.2.1 pc = .ok (.if_icmp .ge off, 3)) (ht : (pc : Int) + off = (tgt : Int)) (ka : RG E M cl sl Fx Z o1 (pc + 3) lv st mem) (kb : RG E M cl sl Fx Z o2 tgt lv st mem) : RG E M cl sl Fx Z (if x < y then o1 else o2) pc lv (vi y :: vi x :: st) mem :=
  RG_two (fun p e R s m args below meth c H locs ls Q hF hs ka kb => by
    have iff := (of_lt (x := x) (y := y) (okS_h (okS_t hs)) (okS_h hs))
    exact lv_icmp_ge (x := Int32.ofInt x) (y := Int32.ofInt y) (rest := st.map (cv E)) hF.1 hF.2.1 hd ht (fun z => kb (fun q => absurd z (nle (iff.mpr q)))) (fun z => ka (iff.mp (nlt z)))) (fun hs => okS_t (okS_t hs)) (fun _ => ka) (fun _ => kb)
theorem RG_icmp_gt {x y : Int} {off : Int} {tgt : Nat} (hd : decode M.2.1 pc = .ok (.if_icmp .gt off, 3)) (ht : (pc : Int) + off = (tgt : Int)) (ka : RG E M cl sl Fx Z o1 tgt lv st mem) (kb : RG E M cl sl Fx Z o2 (pc + 3) lv st mem) : RG E M cl sl Fx Z (if y < x then o1 else o2) pc lv (vi y :: vi x :: st) mem :=
  RG_two (fun p e R s m args below meth c H locs ls Q hF hs ka kb => by
    have iff := (of_lt (x := y) (y := x) (okS_h hs) (okS_h (okS_t hs)))
    exact lv_icmp_gt (x := Int32.ofInt x) (y := Int32.ofInt y) (rest := st.map (cv E)) hF.1 hF.2.1 hd ht (fun z => ka (iff.mp z)) (fun z => kb (fun q => z (iff.mpr q)))) (fun hs => okS_t (okS_t hs)) (fun _ => ka) (fun _ => kb)
theorem RG_icmp_le {x y : Int} {off : Int} {tgt : Nat} (hd : decode M.2.1 pc = .ok (.if_icmp .le off, 3)) (ht : (pc : Int) + off = (tgt : Int)) (ka : RG E M cl sl Fx Z o1 (pc + 3) lv st mem) (kb : RG E M cl sl Fx Z o2 tgt lv st mem) : RG E M cl sl Fx Z (if y < x then o1 else o2) pc lv (vi y :: vi x :: st) mem :=
  RG_two (fun p e R s m args below meth c H locs ls Q hF hs ka kb => by
    have iff := (of_lt (x := y) (y := x) (okS_h hs) (okS_h (okS_t hs)))
    exact lv_icmp_le (x := Int32.ofInt x) (y := Int32.ofInt y) (rest := st.map (cv E)) hF.1 hF.2.1 hd ht (fun z => kb (fun q => absurd z (nle (iff.mpr q)))) (fun z => ka (iff.mp (nlt z)))) (fun hs => okS_t (okS_t hs)) (fun _ => ka) (fun _ => kb)

theorem RG_getf {idx ci j n a : Nat} {t : Nat × Int} {v : VV} (hg : GF M.1 idx ci j t) (hk : ly_k a = (ci, n)) (hd : decode M.2.1 pc = .ok (.getfield idx, 3)) (hv : fv E a t (mem a j) = cv E v) (hok : okf t.1 (mem a j) → okv v) (k : RG E M cl sl Fx Z o (pc + 3) lv (v :: st) mem) : RG E M cl sl Fx Z o pc lv (rf a :: st) mem :=
  RG_go (fun p e R s m args below meth c H locs ls Q hF hL hs hw hS kk => by
    obtain ⟨g1, g2, g3⟩ := hg
    have hlt := ly_lt hk (by omega)
    have hkk := kk ls hL (okS_c (hok (okm_f hw.2 hk g2 g3)) (okS_t hs))
    exact va_get (D := eD E) (cl := ly_cl) (ci := ci) (v := cv E v) (C := ly_cn ci) (T := ly_T ci) (N := (ly_tg ci).length) (rest := st.map (cv E)) hF.1 hF.2.1 hF.2.2.2.2.2.1 (ly_lay g2) hF.2.2.2.2.1 hF.2.2.2.2.2.2.2.1 hw.1 a ((wL_get hlt).trans (by rw [ent_obj hk g2]; rfl)) (ly_clg g2) j (List.getElem?_eq_some_iff.mp g3).1 (hF.2.2.2.2.2.1 _ g1) (fun _ h9 => h9) (by rw [rowO_get g3, hv]) hd hkk) k
theorem RG_getN {idx ci j n a : Nat} {t : Nat × Int} {v : VV} {host : String} (hm : Cond.fieldLinkNest M.1 idx (ly_cn ci) (ly_T ci j).2.1 (ly_T ci j).2.2.1 host ∈ nsW) (g2 : ci < 12) (g3 : (ly_tg ci)[j]? = some t) (hk : ly_k a = (ci, n)) (hd : decode M.2.1 pc = .ok (.getfield idx, 3)) (hv : fv E a t (mem a j) = cv E v) (hok : okf t.1 (mem a j) → okv v) (k : RG E M cl sl Fx Z o (pc + 3) lv (v :: st) mem) : RG E M cl sl Fx Z o pc lv (rf a :: st) mem :=
  RG_go (fun p e R s m args below meth c H locs ls Q hF hL hs hw hS kk => by
    have hlt := ly_lt hk (by omega)
    have hkk := kk ls hL (okS_c (hok (okm_f hw.2 hk g2 g3)) (okS_t hs))
    exact va_getN (D := eD E) (cl := ly_cl) (ci := ci) (v := cv E v) (C := ly_cn ci) (T := ly_T ci) (N := (ly_tg ci).length) (rest := st.map (cv E)) hF.1 hF.2.1 hF.2.2.2.2.2.1 (ly_lay g2) hF.2.2.2.2.1 hF.2.2.2.2.2.2.2.1 hw.1 a ((wL_get hlt).trans (by rw [ent_obj hk g2]; rfl)) (ly_clg g2) j (List.getElem?_eq_some_iff.mp g3).1 (va_Nw.use rfl (hF.2.2.2.2.2.2.2.2.1 _ hm)) (fun _ h9 => h9) (by rw [rowO_get g3, hv]) hd hkk) k
theorem RG_getI {idx ci j n a : Nat} (hg : GF M.1 idx ci j (0, 0)) (hk : ly_k a = (ci, n)) (hd : decode M.2.1 pc = .ok (.getfield idx, 3)) (k : RG E M cl sl Fx Z o (pc + 3) lv (vi (mem a j) :: st) mem) : RG E M cl sl Fx Z o pc lv (rf a :: st) mem := RG_getf (v := vi (mem a j)) hg hk hd rfl (fun h => h) k
theorem RG_getZ {idx ci j n a : Nat} (hg : GF M.1 idx ci j (4, 0)) (hk : ly_k a = (ci, n)) (hd : decode M.2.1 pc = .ok (.getfield idx, 3)) (k : RG E M cl sl Fx Z o (pc + 3) lv (vi (mem a j) :: st) mem) : RG E M cl sl Fx Z o pc lv (rf a :: st) mem :=
  RG_getf (v := vi (mem a j)) hg hk hd rfl (fun h => by
    show okI (mem a j)
    rcases h with h | h <;> rw [h] <;> exact ⟨by decide, by decide⟩) k
theorem RG_getL {idx ci j n a : Nat} (hg : GF M.1 idx ci j (1, 0)) (hk : ly_k a = (ci, n)) (hd : decode M.2.1 pc = .ok (.getfield idx, 3)) (k : RG E M cl sl Fx Z o (pc + 3) lv (vl (mem a j) :: st) mem) : RG E M cl sl Fx Z o pc lv (rf a :: st) mem := RG_getf (v := vl (mem a j)) hg hk hd rfl (fun h => h) k
theorem RG_getW {idx ci j n a : Nat} (hg : GF M.1 idx ci j (3, 0)) (hk : ly_k a = (ci, n)) (hd : decode M.2.1 pc = .ok (.getfield idx, 3)) (k : RG E M cl sl Fx Z o (pc + 3) lv (vw (mem a j) :: st) mem) : RG E M cl sl Fx Z o pc lv (rf a :: st) mem := RG_getf (v := vw (mem a j)) hg hk hd rfl (fun h => h) k
theorem RG_getR {idx ci j n a b : Nat} {off : Int} (hg : GF M.1 idx ci j (5, off)) (hk : ly_k a = (ci, n)) (hb : ((a : Int) + off).toNat = b) (hd : decode M.2.1 pc = .ok (.getfield idx, 3)) (k : RG E M cl sl Fx Z o (pc + 3) lv (rf b :: st) mem) : RG E M cl sl Fx Z o pc lv (rf a :: st) mem := RG_getf (v := rf b) hg hk hd (by rw [← hb]; rfl) (fun _ => trivial) k
theorem RG_getRN {idx ci j n a b : Nat} {off : Int} {host : String} (hm : Cond.fieldLinkNest M.1 idx (ly_cn ci) (ly_T ci j).2.1 (ly_T ci j).2.2.1 host ∈ nsW) (g2 : ci < 12) (g3 : (ly_tg ci)[j]? = some (5, off)) (hk : ly_k a = (ci, n)) (hb : ((a : Int) + off).toNat = b) (hd : decode M.2.1 pc = .ok (.getfield idx, 3)) (k : RG E M cl sl Fx Z o (pc + 3) lv (rf b :: st) mem) : RG E M cl sl Fx Z o pc lv (rf a :: st) mem := RG_getN (v := rf b) hm g2 g3 hk hd (by rw [← hb]; rfl) (fun _ => trivial) k
theorem RG_getM {idx ci j n a : Nat} (hg : GF M.1 idx ci j (2, 0)) (hk : ly_k a = (ci, n)) (h0 : 0 ≤ mem a j) (hd : decode M.2.1 pc = .ok (.getfield idx, 3)) (k : RG E M cl sl Fx Z o (pc + 3) lv (rf (mem a j).toNat :: st) mem) : RG E M cl sl Fx Z o pc lv (rf a :: st) mem :=
  RG_getf (v := rf (mem a j).toNat) hg hk hd (by
    show (if mem a j < 0 then Value.null else .ref (eB E + (mem a j).toNat)) = .ref (eB E + (((mem a j).toNat : Nat) : Int).toNat)
    rw [if_neg (by omega)]
    rfl) (fun _ => trivial) k
theorem RG_putf {idx ci j n a : Nat} {t : Nat × Int} {ty : FieldType} {v : VV} {x : Int} (hg : GP M.1 idx ci j t ty) (hk : ly_k a = (ci, n)) (hd : decode M.2.1 pc = .ok (.putfield idx, 3)) (hv : cv E v = fv E a t x) (hn : narrow ty (cv E v) = cv E v) (hfit : fits ty (cv E v) = true) (hok : okv v → okf t.1 x) (k : RG E M cl sl Fx Z o (pc + 3) lv st (mst mem a j x)) : RG E M cl sl Fx Z o pc lv (v :: rf a :: st) mem := by
  intro r mem' ho p e R s m args below meth c hF hFx H locs ls hL hs hw hS
  obtain ⟨⟨g1, g2, g3⟩, g4, g5⟩ := hg
  have hlt := ly_lt hk (by omega)
  have he : (wL E mem)[a]? = some (eB E + a, .inr (ci, rowO E a ci (mem a))) := (wL_get hlt).trans (by rw [ent_obj hk g2])
  subst g5
  have hjl := (List.getElem?_eq_some_iff.mp g3).1
  refine va_put (D := eD E) (cl := ly_cl) (ci := ci) (v := cv E v) (ty := ly_ty ci j) (C := ly_cn ci) (T := ly_T ci) (N := (ly_tg ci).length) (rest := st.map (cv E)) hF.1 hF.2.1 hF.2.2.2.2.2.1 (ly_lay g2) (ly_ty ci) (ly_hty g2) (ly_hnm g2) hF.2.2.2.2.1 hF.2.2.2.2.2.2.2.1 hw.1 wL_D hS a he (ly_clg g2) j hjl (hF.2.2.2.2.2.1 _ g1) (fun _ h9 => h9) g4 (ly_hty g2 j hjl) hn hfit (by rw [rowO_len]; exact hjl) hd (fun H1 locs1 hP1 _ hS1 => ?_)
  refine k r mem' ho p e R s m args below meth c hF hFx H1 locs1 ls hL (okS_t (okS_t hs)) ⟨?_, okm_mst hw.2 (okc_f hk g2 g3 (hok (okS_h hs)))⟩ hS1
  rw [← wL_set (mem := mem) (mem' := mst mem a j x) (k := a) (en := .inr (ci, (rowO E a ci (mem a)).set j (cv E v))) hlt (by rw [ent_obj hk g2, hv, rowO_set g3]) (fun b hb => mst_row mem a j x hb)]
  exact hP1
theorem RG_putI {idx ci j n a : Nat} {x : Int} (hg : GP M.1 idx ci j (0, 0) .int) (hk : ly_k a = (ci, n)) (hd : decode M.2.1 pc = .ok (.putfield idx, 3)) (k : RG E M cl sl Fx Z o (pc + 3) lv st (mst mem a j x)) : RG E M cl sl Fx Z o pc lv (vi x :: rf a :: st) mem := RG_putf (v := vi x) hg hk hd rfl (vp_nar_int _) rfl (fun h => h) k
theorem RG_putL {idx ci j n a : Nat} {x : Int} (hg : GP M.1 idx ci j (1, 0) .long) (hk : ly_k a = (ci, n)) (hd : decode M.2.1 pc = .ok (.putfield idx, 3)) (k : RG E M cl sl Fx Z o (pc + 3) lv st (mst mem a j x)) : RG E M cl sl Fx Z o pc lv (vl x :: rf a :: st) mem := RG_putf (v := vl x) hg hk hd rfl rfl rfl (fun h => h) k
theorem RG_putZ {idx ci j n a : Nat} {x : Int} (hg : GP M.1 idx ci j (4, 0) .boolean) (hk : ly_k a = (ci, n)) (hx : x = 0 ∨ x = 1) (hd : decode M.2.1 pc = .ok (.putfield idx, 3)) (k : RG E M cl sl Fx Z o (pc + 3) lv st (mst mem a j x)) : RG E M cl sl Fx Z o pc lv (vi x :: rf a :: st) mem := RG_putf (v := vi x) hg hk hd rfl (by rcases hx with rfl | rfl <;> rfl) (by rcases hx with rfl | rfl <;> rfl) (fun _ => hx) k
theorem RG_putW {idx ci j n a : Nat} {x : Int} {C : String} (hg : GP M.1 idx ci j (3, 0) (.object C)) (hk : ly_k a = (ci, n)) (hd : decode M.2.1 pc = .ok (.putfield idx, 3)) (k : RG E M cl sl Fx Z o (pc + 3) lv st (mst mem a j x)) : RG E M cl sl Fx Z o pc lv (vw x :: rf a :: st) mem :=
  RG_putf (v := vw x) hg hk hd rfl (by show narrow _ (wv E x) = wv E x; rcases wv_or E x with ⟨-, e1⟩ | ⟨-, e1⟩ <;> rw [e1] <;> rfl) (by show fits _ (wv E x) = true; rcases wv_or E x with ⟨-, e1⟩ | ⟨-, e1⟩ <;> rw [e1] <;> rfl) (fun h => h) k
theorem RG_putM {idx ci j n a b : Nat} {C : String} (hg : GP M.1 idx ci j (2, 0) (.object C)) (hk : ly_k a = (ci, n)) (hd : decode M.2.1 pc = .ok (.putfield idx, 3)) (k : RG E M cl sl Fx Z o (pc + 3) lv st (mst mem a j (b : Int))) : RG E M cl sl Fx Z o pc lv (rf b :: rf a :: st) mem :=
  RG_putf (v := rf b) (x := (b : Int)) hg hk hd (by
    show Value.ref (eB E + ((b : Int)).toNat) = (if (b : Int) < 0 then Value.null else .ref (eB E + ((b : Int)).toNat))
    rw [if_neg (by omega)]) rfl rfl (fun _ => trivial) k

theorem RG_iald {a n : Nat} {i : Int} (hk : ly_k a = (12, n)) (hn : n < 2147483648) (h0 : 0 ≤ i) (h1 : i < n) (hd : decode M.2.1 pc = .ok (.iaload, 1)) (k : RG E M cl sl Fx Z o (pc + 1) lv (vi (mem a i.toNat) :: st) mem) : RG E M cl sl Fx Z o pc lv (vi i :: rf a :: st) mem :=
  RG_go (fun p e R s m args below meth c H locs ls Q hF hL hs hw hS kk => by
    have hlt := ly_lt hk (by omega)
    obtain ⟨q1, q2⟩ := of_ix hn h0 h1
    have hok : okI (mem a i.toNat) := by have := hw.2 a i.toNat; rw [hk] at this; exact this
    refine va_iald (D := eD E) (cl := ly_cl) (tys := tyL E) (cA := eA E 12) (n := n) (f := fun j => Int32.ofInt (mem a j)) (i := Int32.ofInt i) (rest := st.map (cv E)) hF.1 hF.2.1 hF.2.2.2.2.2.2.2.1 hw.1 a 0 ((wL_get hlt).trans (by rw [ent_arr hk (by decide)]; rfl)) rfl q1 hd ?_
    rw [q2]
    exact kk ls hL (okS_i hok (okS_t (okS_t hs)))) k
theorem RG_zald {a n : Nat} {i : Int} (hk : ly_k a = (15, n)) (hn : n < 2147483648) (h0 : 0 ≤ i) (h1 : i < n) (hd : decode M.2.1 pc = .ok (.baload, 1)) (k : RG E M cl sl Fx Z o (pc + 1) lv (vi (mem a i.toNat) :: st) mem) : RG E M cl sl Fx Z o pc lv (vi i :: rf a :: st) mem :=
  RG_go (fun p e R s m args below meth c H locs ls Q hF hL hs hw hS kk => by
    have hlt := ly_lt hk (by omega)
    obtain ⟨q1, q2⟩ := of_ix hn h0 h1
    have hok : mem a i.toNat = 0 ∨ mem a i.toNat = 1 := by have := hw.2 a i.toNat; rw [hk] at this; exact this
    have hok : okI (mem a i.toNat) := by rcases hok with h | h <;> rw [h] <;> exact ⟨by decide, by decide⟩
    refine va_zald (D := eD E) (cl := ly_cl) (tys := tyL E) (cA := eA E 15) (n := n) (f := fun j => Int32.ofInt (mem a j)) (i := Int32.ofInt i) (rest := st.map (cv E)) hF.1 hF.2.1 hF.2.2.2.2.2.2.2.1 hw.1 a 3 ((wL_get hlt).trans (by rw [ent_arr hk (by decide)]; rfl)) rfl q1 hd ?_
    rw [q2]
    exact kk ls hL (okS_i hok (okS_t (okS_t hs)))) k
theorem RG_cald {a n : Nat} {i : Int} (hk : ly_k a = (14, n)) (hn : n < 2147483648) (h0 : 0 ≤ i) (h1 : i < n) (hd : decode M.2.1 pc = .ok (.caload, 1)) (k : RG E M cl sl Fx Z o (pc + 1) lv (vi (mem a i.toNat) :: st) mem) : RG E M cl sl Fx Z o pc lv (vi i :: rf a :: st) mem :=
  RG_go (fun p e R s m args below meth c H locs ls Q hF hL hs hw hS kk => by
    have hlt := ly_lt hk (by omega)
    obtain ⟨q1, q2⟩ := of_ix hn h0 h1
    have hok : 0 ≤ mem a i.toNat ∧ mem a i.toNat ≤ 65535 := by have := hw.2 a i.toNat; rw [hk] at this; exact this
    have hok : okI (mem a i.toNat) := ⟨by omega, by omega⟩
    refine va_cald (D := eD E) (cl := ly_cl) (tys := tyL E) (cA := eA E 14) (n := n) (f := fun j => Int32.ofInt (mem a j)) (i := Int32.ofInt i) (rest := st.map (cv E)) hF.1 hF.2.1 hF.2.2.2.2.2.2.2.1 hw.1 a 2 ((wL_get hlt).trans (by rw [ent_arr hk (by decide)]; rfl)) rfl q1 hd ?_
    rw [q2]
    exact kk ls hL (okS_i hok (okS_t (okS_t hs)))) k
theorem RG_lald {a n : Nat} {i : Int} (hk : ly_k a = (13, n)) (hn : n < 2147483648) (h0 : 0 ≤ i) (h1 : i < n) (hd : decode M.2.1 pc = .ok (.laload, 1)) (k : RG E M cl sl Fx Z o (pc + 1) lv (vl (mem a i.toNat) :: st) mem) : RG E M cl sl Fx Z o pc lv (vi i :: rf a :: st) mem :=
  RG_go (fun p e R s m args below meth c H locs ls Q hF hL hs hw hS kk => by
    have hlt := ly_lt hk (by omega)
    obtain ⟨q1, q2⟩ := of_ix hn h0 h1
    have hok : okL (mem a i.toNat) := by have := hw.2 a i.toNat; rw [hk] at this; exact this
    refine va_lald (D := eD E) (cl := ly_cl) (tys := tyL E) (cA := eA E 13) (n := n) (f := fun j => Int64.ofInt (mem a j)) (i := Int32.ofInt i) (rest := st.map (cv E)) hF.1 hF.2.1 hF.2.2.2.2.2.2.2.1 hw.1 a 1 ((wL_get hlt).trans (by rw [ent_arr hk (by decide)]; rfl)) rfl q1 hd ?_
    rw [q2]
    exact kk ls hL (okS_l hok (okS_t (okS_t hs)))) k
theorem RG_aald {a n kd b : Nat} {i : Int} (hkd : kd = 16 ∨ kd = 17 ∨ kd = 18) (hk : ly_k a = (kd, n)) (hn : n < 2147483648) (h0 : 0 ≤ i) (h1 : i < n) (hb : a + (raO kd).1 + (raO kd).2 * i.toNat = b) (hd : decode M.2.1 pc = .ok (.aaload, 1)) (k : RG E M cl sl Fx Z o (pc + 1) lv (rf b :: st) mem) : RG E M cl sl Fx Z o pc lv (vi i :: rf a :: st) mem :=
  RG_go (fun p e R s m args below meth c H locs ls Q hF hL hs hw hS kk => by
    have hlt := ly_lt hk (by omega)
    obtain ⟨q1, q2⟩ := of_ix hn h0 h1
    have hkk := kk ls hL (okS_c trivial (okS_t (okS_t hs)))
    subst hb
    rcases hkd with rfl | rfl | rfl
    · refine va_aldq (D := eD E) (cl := ly_cl) (tys := tyL E) (cA := eA E 16) (C := "HillClock$Standing") (n := n) (f := fun j => some (eB E + (a + 18 + 11 * j))) (i := Int32.ofInt i) (rest := st.map (cv E)) hF.1 hF.2.1 hF.2.2.2.2.2.2.2.1 hw.1 a 4 ((wL_get hlt).trans (by rw [ent_arr hk (by decide)]; rfl)) rfl q1 hd ?_
      rw [q2]
      exact hkk
    · refine va_aldq (D := eD E) (cl := ly_cl) (tys := tyL E) (cA := eA E 17) (C := "HillClock$State") (n := n) (f := fun j => some (eB E + (a + 61 + 3 * j))) (i := Int32.ofInt i) (rest := st.map (cv E)) hF.1 hF.2.1 hF.2.2.2.2.2.2.2.1 hw.1 a 5 ((wL_get hlt).trans (by rw [ent_arr hk (by decide)]; rfl)) rfl q1 hd ?_
      rw [q2]
      exact hkk
    · refine va_aldq (D := eD E) (cl := ly_cl) (tys := tyL E) (cA := eA E 18) (C := "HillClock$Walker") (n := n) (f := fun j => some (eB E + (a + 7 + 4 * j))) (i := Int32.ofInt i) (rest := st.map (cv E)) hF.1 hF.2.1 hF.2.2.2.2.2.2.2.1 hw.1 a 6 ((wL_get hlt).trans (by rw [ent_arr hk (by decide)]; rfl)) rfl q1 hd ?_
      rw [q2]
      exact hkk) k
theorem RG_alen {a n kd : Nat} {x : Int} (hkd : kd = 12 ∨ kd = 13 ∨ kd = 14 ∨ kd = 15) (hk : ly_k a = (kd, n)) (hx : x = (n : Int)) (hn : n < 2147483648) (hd : decode M.2.1 pc = .ok (.arraylength, 1)) (k : RG E M cl sl Fx Z o (pc + 1) lv (vi x :: st) mem) : RG E M cl sl Fx Z o pc lv (rf a :: st) mem :=
  RG_go (fun p e R s m args below meth c H locs ls Q hF hL hs hw hS kk => by
    have hlt := ly_lt hk (by omega)
    subst hx
    have hkk := kk ls hL (okS_i ⟨by omega, by omega⟩ (okS_t hs))
    rcases hkd with rfl | rfl | rfl | rfl
    · exact va_alen (D := eD E) (cl := ly_cl) (tys := tyL E) (cA := eA E 12) (x := entA E a 12 n (mem a)) (rest := st.map (cv E)) hF.1 hF.2.1 hF.2.2.2.2.2.2.2.1 hw.1 a 0 ((wL_get hlt).trans (by rw [ent_arr hk (by decide)]; rfl)) (ty := .int) rfl rfl hd hkk
    · exact va_alen (D := eD E) (cl := ly_cl) (tys := tyL E) (cA := eA E 13) (x := entA E a 13 n (mem a)) (rest := st.map (cv E)) hF.1 hF.2.1 hF.2.2.2.2.2.2.2.1 hw.1 a 1 ((wL_get hlt).trans (by rw [ent_arr hk (by decide)]; rfl)) (ty := .long) rfl rfl hd hkk
    · exact va_alen (D := eD E) (cl := ly_cl) (tys := tyL E) (cA := eA E 14) (x := entA E a 14 n (mem a)) (rest := st.map (cv E)) hF.1 hF.2.1 hF.2.2.2.2.2.2.2.1 hw.1 a 2 ((wL_get hlt).trans (by rw [ent_arr hk (by decide)]; rfl)) (ty := .char) rfl rfl hd hkk
    · exact va_alen (D := eD E) (cl := ly_cl) (tys := tyL E) (cA := eA E 15) (x := entA E a 15 n (mem a)) (rest := st.map (cv E)) hF.1 hF.2.1 hF.2.2.2.2.2.2.2.1 hw.1 a 3 ((wL_get hlt).trans (by rw [ent_arr hk (by decide)]; rfl)) (ty := .boolean) rfl rfl hd hkk) k
theorem RG_iast {a n : Nat} {i x : Int} (hk : ly_k a = (12, n)) (hn : n < 2147483648) (h0 : 0 ≤ i) (h1 : i < n) (hd : decode M.2.1 pc = .ok (.iastore, 1)) (k : RG E M cl sl Fx Z o (pc + 1) lv st (mst mem a i.toNat x)) : RG E M cl sl Fx Z o pc lv (vi x :: vi i :: rf a :: st) mem := by
  intro r mem' ho p e R s m args below meth c hF hFx H locs ls hL hs hw hS
  have hlt := ly_lt hk (by omega)
  obtain ⟨q1, q2⟩ := of_ix hn h0 h1
  have hok : okI x := okS_h hs
  refine va_iast (D := eD E) (cl := ly_cl) (tys := tyL E) (cA := eA E 12) (n := n) (f := fun j => Int32.ofInt (mem a j)) (i := Int32.ofInt i) (x := Int32.ofInt x) (rest := st.map (cv E)) hF.1 hF.2.1 hF.2.2.2.2.2.2.2.1 hw.1 wL_D hS a 0 ((wL_get hlt).trans (by rw [ent_arr hk (by decide)]; rfl)) rfl q1 hd (fun H1 locs1 hP1 _ hS1 => ?_)
  refine k r mem' ho p e R s m args below meth c hF hFx H1 locs1 ls hL (okS_t (okS_t (okS_t hs))) ⟨?_, okm_mst hw.2 (by rw [hk]; exact hok)⟩ hS1
  rw [q2, upd_mst] at hP1
  rw [← wL_set (mem := mem) (mem' := mst mem a i.toNat x) (k := a) hlt (by rw [ent_arr hk (by decide)]) (fun b hb => mst_row mem a i.toNat x hb)]
  exact hP1
theorem RG_zast {a n : Nat} {i x : Int} (hk : ly_k a = (15, n)) (hn : n < 2147483648) (h0 : 0 ≤ i) (h1 : i < n) (hx : x = 0 ∨ x = 1) (hd : decode M.2.1 pc = .ok (.bastore, 1)) (k : RG E M cl sl Fx Z o (pc + 1) lv st (mst mem a i.toNat x)) : RG E M cl sl Fx Z o pc lv (vi x :: vi i :: rf a :: st) mem := by
  intro r mem' ho p e R s m args below meth c hF hFx H locs ls hL hs hw hS
  have hlt := ly_lt hk (by omega)
  obtain ⟨q1, q2⟩ := of_ix hn h0 h1
  have e9 : vp_nar .boolean (Int32.ofInt x) = Int32.ofInt x := by rcases hx with rfl | rfl <;> rfl
  refine va_zast (D := eD E) (cl := ly_cl) (tys := tyL E) (cA := eA E 15) (n := n) (f := fun j => Int32.ofInt (mem a j)) (i := Int32.ofInt i) (x := Int32.ofInt x) (rest := st.map (cv E)) hF.1 hF.2.1 hF.2.2.2.2.2.2.2.1 hw.1 wL_D hS a 3 ((wL_get hlt).trans (by rw [ent_arr hk (by decide)]; rfl)) rfl q1 hd (fun H1 locs1 hP1 _ hS1 => ?_)
  refine k r mem' ho p e R s m args below meth c hF hFx H1 locs1 ls hL (okS_t (okS_t (okS_t hs))) ⟨?_, okm_mst hw.2 (by rw [hk]; exact hx)⟩ hS1
  rw [q2, e9, upd_mst] at hP1
  rw [← wL_set (mem := mem) (mem' := mst mem a i.toNat x) (k := a) hlt (by rw [ent_arr hk (by decide)]) (fun b hb => mst_row mem a i.toNat x hb)]
  exact hP1
theorem RG_cast {a n : Nat} {i x : Int} (hk : ly_k a = (14, n)) (hn : n < 2147483648) (h0 : 0 ≤ i) (h1 : i < n) (hx : 0 ≤ x ∧ x ≤ 65535) (hd : decode M.2.1 pc = .ok (.castore, 1)) (k : RG E M cl sl Fx Z o (pc + 1) lv st (mst mem a i.toNat x)) : RG E M cl sl Fx Z o pc lv (vi x :: vi i :: rf a :: st) mem := by
  intro r mem' ho p e R s m args below meth c hF hFx H locs ls hL hs hw hS
  have hlt := ly_lt hk (by omega)
  obtain ⟨q1, q2⟩ := of_ix hn h0 h1
  have e9 : vp_nar .char (Int32.ofInt x) = Int32.ofInt x := by
    obtain ⟨w, hw0⟩ : ∃ w : Nat, x = (w : Int) := ⟨x.toNat, by omega⟩
    subst hw0
    have h8 := (pk_charN (q := w) (by omega)).1
    show vp_nar .char (nI w) = nI w
    unfold vp_nar
    rw [h8]
  refine va_cast (D := eD E) (cl := ly_cl) (tys := tyL E) (cA := eA E 14) (n := n) (f := fun j => Int32.ofInt (mem a j)) (i := Int32.ofInt i) (x := Int32.ofInt x) (rest := st.map (cv E)) hF.1 hF.2.1 hF.2.2.2.2.2.2.2.1 hw.1 wL_D hS a 2 ((wL_get hlt).trans (by rw [ent_arr hk (by decide)]; rfl)) rfl q1 hd (fun H1 locs1 hP1 _ hS1 => ?_)
  refine k r mem' ho p e R s m args below meth c hF hFx H1 locs1 ls hL (okS_t (okS_t (okS_t hs))) ⟨?_, okm_mst hw.2 (by rw [hk]; exact hx)⟩ hS1
  rw [q2, e9, upd_mst] at hP1
  rw [← wL_set (mem := mem) (mem' := mst mem a i.toNat x) (k := a) hlt (by rw [ent_arr hk (by decide)]) (fun b hb => mst_row mem a i.toNat x hb)]
  exact hP1
theorem RG_last {a n : Nat} {i x : Int} (hk : ly_k a = (13, n)) (hn : n < 2147483648) (h0 : 0 ≤ i) (h1 : i < n) (hd : decode M.2.1 pc = .ok (.lastore, 1)) (k : RG E M cl sl Fx Z o (pc + 1) lv st (mst mem a i.toNat x)) : RG E M cl sl Fx Z o pc lv (vl x :: vi i :: rf a :: st) mem := by
  intro r mem' ho p e R s m args below meth c hF hFx H locs ls hL hs hw hS
  have hlt := ly_lt hk (by omega)
  obtain ⟨q1, q2⟩ := of_ix hn h0 h1
  have hok : okL x := okS_h hs
  refine va_last (D := eD E) (cl := ly_cl) (tys := tyL E) (cA := eA E 13) (n := n) (f := fun j => Int64.ofInt (mem a j)) (i := Int32.ofInt i) (x := Int64.ofInt x) (rest := st.map (cv E)) hF.1 hF.2.1 hF.2.2.2.2.2.2.2.1 hw.1 wL_D hS a 1 ((wL_get hlt).trans (by rw [ent_arr hk (by decide)]; rfl)) rfl q1 hd (fun H1 locs1 hP1 _ hS1 => ?_)
  refine k r mem' ho p e R s m args below meth c hF hFx H1 locs1 ls hL (okS_t (okS_t (okS_t hs))) ⟨?_, okm_mst hw.2 (by rw [hk]; exact hok)⟩ hS1
  rw [q2, updL_mst] at hP1
  rw [← wL_set (mem := mem) (mem' := mst mem a i.toNat x) (k := a) hlt (by rw [ent_arr hk (by decide)]) (fun b hb => mst_row mem a i.toNat x hb)]
  exact hP1

theorem RG_idivc {x y : Int} (hy : y ≠ 0) (hd : decode M.2.1 pc = .ok (.idiv, 1)) (k : RG E M cl sl Fx Z o (pc + 1) lv (vi (idv x y) :: st) mem) : RG E M cl sl Fx Z o pc lv (vi y :: vi x :: st) mem := by
  have h := RG_idiv (x := x) (y := y) hd k
  rwa [if_neg hy] at h
theorem RG_iremc {x y : Int} (hy : y ≠ 0) (hd : decode M.2.1 pc = .ok (.irem, 1)) (k : RG E M cl sl Fx Z o (pc + 1) lv (vi (irm x y) :: st) mem) : RG E M cl sl Fx Z o pc lv (vi y :: vi x :: st) mem := by
  have h := RG_irem (x := x) (y := y) hd k
  rwa [if_neg hy] at h
theorem RG_ldivc {x y : Int} (hy : y ≠ 0) (hd : decode M.2.1 pc = .ok (.ldiv, 1)) (k : RG E M cl sl Fx Z o (pc + 1) lv (vl (ldv x y) :: st) mem) : RG E M cl sl Fx Z o pc lv (vl y :: vl x :: st) mem := by
  have h := RG_ldiv (x := x) (y := y) hd k
  rwa [if_neg hy] at h
theorem RG_lremc {x y : Int} (hy : y ≠ 0) (hd : decode M.2.1 pc = .ok (.lrem, 1)) (k : RG E M cl sl Fx Z o (pc + 1) lv (vl (lrm x y) :: st) mem) : RG E M cl sl Fx Z o pc lv (vl y :: vl x :: st) mem := by
  have h := RG_lrem (x := x) (y := y) hd k
  rwa [if_neg hy] at h
theorem RG_null (hd : decode M.2.1 pc = .ok (.aconst_null, 1)) (k : RG E M cl sl Fx Z o (pc + 1) lv (vw (-1) :: st) mem) : RG E M cl sl Fx Z o pc lv st mem :=
  RG_go (fun p e R s m args below meth c H locs ls Q hF hL hs hw hS kk => lv_null hF.1 hF.2.1 hd (kk ls hL (okS_c (v := vw (-1)) (okw (by decide) (by decide)) hs))) k
theorem RG_getsW {idx : Nat} (i : Nat) (hi : i < 29) {x : Int} (hx : x = -(i : Int) - 2) (hl : Cond.fieldLink M.1 idx "HillClock$Word" (wdN.getD i "") "LHillClock$Word;" ∈ TBL) (hd : decode M.2.1 pc = .ok (.getstatic idx, 3)) (k : RG E M cl sl Fx Z o (pc + 3) lv (vw x :: st) mem) : RG E M cl sl Fx Z o pc lv st mem :=
  RG_go (fun p e R s m args below meth c H locs ls Q hF hL hs hw hS kk => by
    have hkk := kk ls hL (okS_c (v := vw x) (show -30 ≤ x ∧ x ≤ -1 from ⟨by omega, by omega⟩) hs)
    have e1 : cv E (vw x) = .ref (eW E i) := by
      show wv E x = _
      unfold wv
      rw [if_neg (by omega), show (-x - 2).toNat = i by omega]
    refine va_gets (v := .ref (eW E i)) hF.1 hF.2.1 (hF.2.2.2.2.2.2.2.2.2.2.1.1 i hi).1 hS hF.2.2.2.2.1 (hF.2.2.2.2.2.1 _ hl) (fun _ h => h) hd ?_
    rw [← e1]
    exact hkk) k
theorem RG_acmp_eq {x y : Int} {off : Int} {tgt : Nat} (hd : decode M.2.1 pc = .ok (.if_acmp .eq off, 3)) (ht : (pc : Int) + off = (tgt : Int)) (ka : RG E M cl sl Fx Z o1 tgt lv st mem) (kb : RG E M cl sl Fx Z o2 (pc + 3) lv st mem) : RG E M cl sl Fx Z (if x = y then o1 else o2) pc lv (vw y :: vw x :: st) mem :=
  RG_two (fun p e R s m args below meth c H locs ls Q hF hs ka kb => by
    have iff := wr_inj hF.2.2.2.2.2.2.2 (okS_h (okS_t hs)) (okS_h hs)
    show W p (eL E) e R s m args below meth c H locs cl sl Q (F0 m pc ls (wv E y :: wv E x :: st.map (cv E)))
    rw [wv_rf, wv_rf]
    exact lv_acmp_eq (rest := st.map (cv E)) hF.1 hF.2.1 hd ht (fun z => ka (iff.mp z)) (fun z => kb (fun q => z (iff.mpr q)))) (fun hs => okS_t (okS_t hs)) (fun _ => ka) (fun _ => kb)
theorem RG_acmp_ne {x y : Int} {off : Int} {tgt : Nat} (hd : decode M.2.1 pc = .ok (.if_acmp .ne off, 3)) (ht : (pc : Int) + off = (tgt : Int)) (ka : RG E M cl sl Fx Z o1 (pc + 3) lv st mem) (kb : RG E M cl sl Fx Z o2 tgt lv st mem) : RG E M cl sl Fx Z (if x = y then o1 else o2) pc lv (vw y :: vw x :: st) mem :=
  RG_two (fun p e R s m args below meth c H locs ls Q hF hs ka kb => by
    have iff := wr_inj hF.2.2.2.2.2.2.2 (okS_h (okS_t hs)) (okS_h hs)
    show W p (eL E) e R s m args below meth c H locs cl sl Q (F0 m pc ls (wv E y :: wv E x :: st.map (cv E)))
    rw [wv_rf, wv_rf]
    exact lv_acmp_ne (rest := st.map (cv E)) hF.1 hF.2.1 hd ht (fun z => kb (fun q => z (iff.mpr q))) (fun z => ka (iff.mp z))) (fun hs => okS_t (okS_t hs)) (fun _ => ka) (fun _ => kb)
theorem RG_ifnull {x : Int} {off : Int} {tgt : Nat} (hd : decode M.2.1 pc = .ok (.ifnull off, 3)) (ht : (pc : Int) + off = (tgt : Int)) (ka : RG E M cl sl Fx Z o1 tgt lv st mem) (kb : RG E M cl sl Fx Z o2 (pc + 3) lv st mem) : RG E M cl sl Fx Z (if x = -1 then o1 else o2) pc lv (vw x :: st) mem :=
  RG_two (fun p e R s m args below meth c H locs ls Q hF hs ka kb => by
    show W p (eL E) e R s m args below meth c H locs cl sl Q (F0 m pc ls (wv E x :: st.map (cv E)))
    rcases wv_or E x with ⟨h, e1⟩ | ⟨h, e1⟩
    · rw [e1]; exact lv_ifnullN hF.1 hF.2.1 hd ht (ka h)
    · rw [e1]; exact lv_ifnull hF.1 hF.2.1 hd (kb h)) (fun hs => okS_t hs) (fun _ => ka) (fun _ => kb)

theorem RG_table {dflt lo hi : Int} {offs : Array Int} {len : Nat} {x : Int} {os : List Res} {od : Res} {td : Nat} {ts : List Nat} (hd : decode M.2.1 pc = .ok (.tableswitch dflt lo hi offs, len)) (hh : hi + 1 = lo + os.length) (htd : (pc : Int) + dflt = (td : Int)) (hto : offs.toList.map (fun z => (pc : Int) + z) = ts.map (fun z : Nat => (z : Int)))
    (k : ∀ (i t : Nat) (q : Res), ts[i]? = some t → os[i]? = some q → RG E M cl sl Fx Z q t lv st mem) (hl : ts.length = os.length) (kd : RG E M cl sl Fx Z od td lv st mem) : RG E M cl sl Fx Z (swi x lo os od) pc lv (vi x :: st) mem := by
  intro r mem' ho p e R s m args below meth c hF hFx H locs ls hL hs hw hS
  have hx : (Int32.ofInt x).toInt = x := toI (okS_h hs)
  unfold swi at ho
  by_cases hr : lo ≤ x ∧ x < lo + os.length
  · rw [if_pos hr] at ho
    have hi1 : (x - lo).toNat < os.length := by omega
    obtain ⟨q, hq⟩ : ∃ q, os[(x - lo).toNat]? = some q := ⟨_, List.getElem?_eq_getElem hi1⟩
    obtain ⟨t, ht⟩ : ∃ t, ts[(x - lo).toNat]? = some t := ⟨_, List.getElem?_eq_getElem (by omega)⟩
    have h1 : (offs.toList.map (fun z => (pc : Int) + z))[(x - lo).toNat]? = some (t : Int) := by rw [hto, List.getElem?_map, ht]; rfl
    rw [List.getElem?_map] at h1
    cases h2 : offs.toList[(x - lo).toNat]? with
    | none => rw [h2] at h1; cases h1
    | some off =>
      rw [h2] at h1
      have h3 : (pc : Int) + off = (t : Int) := by simpa using h1
      have ho2 : q = some (r, mem') := by rw [List.getD_eq_getElem?_getD, hq] at ho; exact ho
      exact lv_tableIn (x := Int32.ofInt x) (rest := st.map (cv E)) hF.1 hF.2.1 hd (by rw [hx]; omega) (by rw [hx]; omega) (by rw [hx, ← Array.getElem?_toList]; exact h2) h3 (k _ t q ht hq r mem' ho2 p e R s m args below meth c hF hFx H locs ls hL (okS_t hs) hw hS)
  · rw [if_neg hr] at ho
    exact lv_tableOut (x := Int32.ofInt x) (rest := st.map (cv E)) hF.1 hF.2.1 hd (by rw [hx]; omega) htd (kd r mem' ho p e R s m args below meth c hF hFx H locs ls hL (okS_t hs) hw hS)

end RowsG
