section More1
variable {E : EE} {M : MT} {o o1 o2 : Res} {pc : Nat} {lv : List (Nat × VV)} {st : List VV} {mem : Mm}
theorem RO_wload {i : Nat} {x : Int} (hd : decode M.2.1 pc = .ok (.aload i, 2)) (hg : lget lv i = some (vw x)) (k : RO E M o (pc + 2) lv (vw x :: st) mem) : RO E M o pc lv st mem :=
  RO_go (fun p e R s m args below meth c H locs ls Q hF hL hs hw hS kk => by
    have h1 := (hL.2.2 _ _ hg).1
    have h2 := kk ls hL (okS_c (hL.2.2 _ _ hg).2 hs)
    change ls[i]? = some (.val (wv E x)) at h1
    change W p (eL E) e R s m args below meth c H locs 0 0 Q (F0 m (pc + 2) ls (wv E x :: st.map (cv E))) at h2
    rcases wv_or E x with ⟨-, e1⟩ | ⟨-, e1⟩
    · rw [e1] at h1 h2
      exact lv_aloadN hF.1 hF.2.1 hd h1 h2
    · rw [e1] at h1 h2
      exact lv_aload hF.1 hF.2.1 hd h1 h2) k
theorem RO_wstore {i : Nat} {x : Int} (hd : decode M.2.1 pc = .ok (.astore i, 2)) (hn : i < M.2.2.1) (k : RO E M o (pc + 2) ((i, vw x) :: lv) st mem) : RO E M o pc lv (vw x :: st) mem :=
  RO_go (fun p e R s m args below meth c H locs ls Q hF hL hs hw hS kk => by
    have hk : ∀ ls' : Array Slot, lv_has ls' M.2.2.1 ((i, wv E x) :: (KL E M.2.2.1 lv).filter (fun q => !(q.1 == i) && !(q.1 + 1 == i && q.2.category == 2))) → W p (eL E) e R s m args below meth c H locs 0 0 Q (F0 m (pc + 2) ls' (st.map (cv E))) := fun ls' h' => kk ls' (LO_store1 (v := vw x) hL (by show (3 : Nat) ≠ 1; decide) (okS_h hs) h') (okS_t hs)
    show W p (eL E) e R s m args below meth c H locs 0 0 Q (F0 m pc ls (wv E x :: st.map (cv E)))
    rcases wv_or E x with ⟨-, e1⟩ | ⟨-, e1⟩
    · rw [e1] at hk ⊢
      exact lv_astoreN hF.1 hF.2.1 hd (LO_has hL) hn rfl hk
    · rw [e1] at hk ⊢
      exact lv_astore hF.1 hF.2.1 hd (LO_has hL) hn rfl hk) k
theorem RO_tab2 {dflt lo hi : Int} {offs : Array Int} {len : Nat} {x : Int} {o10 o11 od : Res} {t0 t1 td : Nat} (hd : decode M.2.1 pc = .ok (.tableswitch dflt lo hi offs, len)) (hh : hi + 1 = lo + 2) (htd : (pc : Int) + dflt = (td : Int)) (hto : offs.toList.map (fun z => (pc : Int) + z) = ([t0, t1] : List Nat).map (fun z : Nat => (z : Int))) (k0 : RO E M o10 t0 lv st mem) (k1 : RO E M o11 t1 lv st mem) (kd : RO E M od td lv st mem) : RO E M (swi x lo [o10, o11] od) pc lv (vi x :: st) mem :=
  RO_table (ts := [t0, t1]) hd hh htd hto (fun i t q ht hq => match i, ht, hq with
  | 0, ht, hq => by simp at ht hq; subst ht; subst hq; exact k0
  | 1, ht, hq => by simp at ht hq; subst ht; subst hq; exact k1
  | i + 2, ht, hq => by simp at ht) rfl kd
theorem RO_tab3 {dflt lo hi : Int} {offs : Array Int} {len : Nat} {x : Int} {o10 o11 o12 od : Res} {t0 t1 t2 td : Nat} (hd : decode M.2.1 pc = .ok (.tableswitch dflt lo hi offs, len)) (hh : hi + 1 = lo + 3) (htd : (pc : Int) + dflt = (td : Int)) (hto : offs.toList.map (fun z => (pc : Int) + z) = ([t0, t1, t2] : List Nat).map (fun z : Nat => (z : Int))) (k0 : RO E M o10 t0 lv st mem) (k1 : RO E M o11 t1 lv st mem) (k2 : RO E M o12 t2 lv st mem) (kd : RO E M od td lv st mem) : RO E M (swi x lo [o10, o11, o12] od) pc lv (vi x :: st) mem :=
  RO_table (ts := [t0, t1, t2]) hd hh htd hto (fun i t q ht hq => match i, ht, hq with
  | 0, ht, hq => by simp at ht hq; subst ht; subst hq; exact k0
  | 1, ht, hq => by simp at ht hq; subst ht; subst hq; exact k1
  | 2, ht, hq => by simp at ht hq; subst ht; subst hq; exact k2
  | i + 3, ht, hq => by simp at ht) rfl kd
theorem RO_tab4 {dflt lo hi : Int} {offs : Array Int} {len : Nat} {x : Int} {o10 o11 o12 o13 od : Res} {t0 t1 t2 t3 td : Nat} (hd : decode M.2.1 pc = .ok (.tableswitch dflt lo hi offs, len)) (hh : hi + 1 = lo + 4) (htd : (pc : Int) + dflt = (td : Int)) (hto : offs.toList.map (fun z => (pc : Int) + z) = ([t0, t1, t2, t3] : List Nat).map (fun z : Nat => (z : Int))) (k0 : RO E M o10 t0 lv st mem) (k1 : RO E M o11 t1 lv st mem) (k2 : RO E M o12 t2 lv st mem) (k3 : RO E M o13 t3 lv st mem) (kd : RO E M od td lv st mem) : RO E M (swi x lo [o10, o11, o12, o13] od) pc lv (vi x :: st) mem :=
  RO_table (ts := [t0, t1, t2, t3]) hd hh htd hto (fun i t q ht hq => match i, ht, hq with
  | 0, ht, hq => by simp at ht hq; subst ht; subst hq; exact k0
  | 1, ht, hq => by simp at ht hq; subst ht; subst hq; exact k1
  | 2, ht, hq => by simp at ht hq; subst ht; subst hq; exact k2
  | 3, ht, hq => by simp at ht hq; subst ht; subst hq; exact k3
  | i + 4, ht, hq => by simp at ht) rfl kd
theorem RO_tab14 {dflt lo hi : Int} {offs : Array Int} {len : Nat} {x : Int} {o10 o11 o12 o13 o14 o15 o16 o17 o18 o19 o20 o21 o22 o23 od : Res} {t0 t1 t2 t3 t4 t5 t6 t7 t8 t9 t10 t11 t12 t13 td : Nat} (hd : decode M.2.1 pc = .ok (.tableswitch dflt lo hi offs, len)) (hh : hi + 1 = lo + 14) (htd : (pc : Int) + dflt = (td : Int)) (hto : offs.toList.map (fun z => (pc : Int) + z) = ([t0, t1, t2, t3, t4, t5, t6, t7, t8, t9, t10, t11, t12, t13] : List Nat).map (fun z : Nat => (z : Int))) (k0 : RO E M o10 t0 lv st mem) (k1 : RO E M o11 t1 lv st mem) (k2 : RO E M o12 t2 lv st mem) (k3 : RO E M o13 t3 lv st mem) (k4 : RO E M o14 t4 lv st mem) (k5 : RO E M o15 t5 lv st mem) (k6 : RO E M o16 t6 lv st mem) (k7 : RO E M o17 t7 lv st mem) (k8 : RO E M o18 t8 lv st mem) (k9 : RO E M o19 t9 lv st mem) (k10 : RO E M o20 t10 lv st mem) (k11 : RO E M o21 t11 lv st mem) (k12 : RO E M o22 t12 lv st mem) (k13 : RO E M o23 t13 lv st mem) (kd : RO E M od td lv st mem) : RO E M (swi x lo [o10, o11, o12, o13, o14, o15, o16, o17, o18, o19, o20, o21, o22, o23] od) pc lv (vi x :: st) mem :=
  RO_table (ts := [t0, t1, t2, t3, t4, t5, t6, t7, t8, t9, t10, t11, t12, t13]) hd hh htd hto (fun i t q ht hq => match i, ht, hq with
  | 0, ht, hq => by simp at ht hq; subst ht; subst hq; exact k0
  | 1, ht, hq => by simp at ht hq; subst ht; subst hq; exact k1
  | 2, ht, hq => by simp at ht hq; subst ht; subst hq; exact k2
  | 3, ht, hq => by simp at ht hq; subst ht; subst hq; exact k3
  | 4, ht, hq => by simp at ht hq; subst ht; subst hq; exact k4
  | 5, ht, hq => by simp at ht hq; subst ht; subst hq; exact k5
  | 6, ht, hq => by simp at ht hq; subst ht; subst hq; exact k6
  | 7, ht, hq => by simp at ht hq; subst ht; subst hq; exact k7
  | 8, ht, hq => by simp at ht hq; subst ht; subst hq; exact k8
  | 9, ht, hq => by simp at ht hq; subst ht; subst hq; exact k9
  | 10, ht, hq => by simp at ht hq; subst ht; subst hq; exact k10
  | 11, ht, hq => by simp at ht hq; subst ht; subst hq; exact k11
  | 12, ht, hq => by simp at ht hq; subst ht; subst hq; exact k12
  | 13, ht, hq => by simp at ht hq; subst ht; subst hq; exact k13
  | i + 14, ht, hq => by simp at ht) rfl kd
theorem RO_tab28 {dflt lo hi : Int} {offs : Array Int} {len : Nat} {x : Int} {o10 o11 o12 o13 o14 o15 o16 o17 o18 o19 o20 o21 o22 o23 o24 o25 o26 o27 o28 o29 o30 o31 o32 o33 o34 o35 o36 o37 od : Res} {t0 t1 t2 t3 t4 t5 t6 t7 t8 t9 t10 t11 t12 t13 t14 t15 t16 t17 t18 t19 t20 t21 t22 t23 t24 t25 t26 t27 td : Nat} (hd : decode M.2.1 pc = .ok (.tableswitch dflt lo hi offs, len)) (hh : hi + 1 = lo + 28) (htd : (pc : Int) + dflt = (td : Int)) (hto : offs.toList.map (fun z => (pc : Int) + z) = ([t0, t1, t2, t3, t4, t5, t6, t7, t8, t9, t10, t11, t12, t13, t14, t15, t16, t17, t18, t19, t20, t21, t22, t23, t24, t25, t26, t27] : List Nat).map (fun z : Nat => (z : Int))) (k0 : RO E M o10 t0 lv st mem) (k1 : RO E M o11 t1 lv st mem) (k2 : RO E M o12 t2 lv st mem) (k3 : RO E M o13 t3 lv st mem) (k4 : RO E M o14 t4 lv st mem) (k5 : RO E M o15 t5 lv st mem) (k6 : RO E M o16 t6 lv st mem) (k7 : RO E M o17 t7 lv st mem) (k8 : RO E M o18 t8 lv st mem) (k9 : RO E M o19 t9 lv st mem) (k10 : RO E M o20 t10 lv st mem) (k11 : RO E M o21 t11 lv st mem) (k12 : RO E M o22 t12 lv st mem) (k13 : RO E M o23 t13 lv st mem) (k14 : RO E M o24 t14 lv st mem) (k15 : RO E M o25 t15 lv st mem) (k16 : RO E M o26 t16 lv st mem) (k17 : RO E M o27 t17 lv st mem) (k18 : RO E M o28 t18 lv st mem) (k19 : RO E M o29 t19 lv st mem) (k20 : RO E M o30 t20 lv st mem) (k21 : RO E M o31 t21 lv st mem) (k22 : RO E M o32 t22 lv st mem) (k23 : RO E M o33 t23 lv st mem) (k24 : RO E M o34 t24 lv st mem) (k25 : RO E M o35 t25 lv st mem) (k26 : RO E M o36 t26 lv st mem) (k27 : RO E M o37 t27 lv st mem) (kd : RO E M od td lv st mem) : RO E M (swi x lo [o10, o11, o12, o13, o14, o15, o16, o17, o18, o19, o20, o21, o22, o23, o24, o25, o26, o27, o28, o29, o30, o31, o32, o33, o34, o35, o36, o37] od) pc lv (vi x :: st) mem :=
  RO_table (ts := [t0, t1, t2, t3, t4, t5, t6, t7, t8, t9, t10, t11, t12, t13, t14, t15, t16, t17, t18, t19, t20, t21, t22, t23, t24, t25, t26, t27]) hd hh htd hto (fun i t q ht hq => match i, ht, hq with
  | 0, ht, hq => by simp at ht hq; subst ht; subst hq; exact k0
  | 1, ht, hq => by simp at ht hq; subst ht; subst hq; exact k1
  | 2, ht, hq => by simp at ht hq; subst ht; subst hq; exact k2
  | 3, ht, hq => by simp at ht hq; subst ht; subst hq; exact k3
  | 4, ht, hq => by simp at ht hq; subst ht; subst hq; exact k4
  | 5, ht, hq => by simp at ht hq; subst ht; subst hq; exact k5
  | 6, ht, hq => by simp at ht hq; subst ht; subst hq; exact k6
  | 7, ht, hq => by simp at ht hq; subst ht; subst hq; exact k7
  | 8, ht, hq => by simp at ht hq; subst ht; subst hq; exact k8
  | 9, ht, hq => by simp at ht hq; subst ht; subst hq; exact k9
  | 10, ht, hq => by simp at ht hq; subst ht; subst hq; exact k10
  | 11, ht, hq => by simp at ht hq; subst ht; subst hq; exact k11
  | 12, ht, hq => by simp at ht hq; subst ht; subst hq; exact k12
  | 13, ht, hq => by simp at ht hq; subst ht; subst hq; exact k13
  | 14, ht, hq => by simp at ht hq; subst ht; subst hq; exact k14
  | 15, ht, hq => by simp at ht hq; subst ht; subst hq; exact k15
  | 16, ht, hq => by simp at ht hq; subst ht; subst hq; exact k16
  | 17, ht, hq => by simp at ht hq; subst ht; subst hq; exact k17
  | 18, ht, hq => by simp at ht hq; subst ht; subst hq; exact k18
  | 19, ht, hq => by simp at ht hq; subst ht; subst hq; exact k19
  | 20, ht, hq => by simp at ht hq; subst ht; subst hq; exact k20
  | 21, ht, hq => by simp at ht hq; subst ht; subst hq; exact k21
  | 22, ht, hq => by simp at ht hq; subst ht; subst hq; exact k22
  | 23, ht, hq => by simp at ht hq; subst ht; subst hq; exact k23
  | 24, ht, hq => by simp at ht hq; subst ht; subst hq; exact k24
  | 25, ht, hq => by simp at ht hq; subst ht; subst hq; exact k25
  | 26, ht, hq => by simp at ht hq; subst ht; subst hq; exact k26
  | 27, ht, hq => by simp at ht hq; subst ht; subst hq; exact k27
  | i + 28, ht, hq => by simp at ht) rfl kd
end More1
