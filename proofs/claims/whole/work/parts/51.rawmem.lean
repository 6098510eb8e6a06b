/-! Rows of the raw memory: fields, arrays, making, calls, entry. -/
section RawC
variable {E : EE} {n0 tN : Nat} {nm : String} {M : MT} {o o1 o2 : Res} {pc : Nat} {lv : List (Nat × VV)} {st : List VV} {mem : Mm}
theorem RC_getf {idx ci j n a : Nat} {t : Nat × Int} {v : VV} (hg : GF M.1 idx ci j t) (hk : ly_k a = (ci, n)) (ha : a < mN mem) (hd : decode M.2.1 pc = .ok (.getfield idx, 3)) (hv : fvR E t.1 (mem a j) = cv E v) (hok : okf t.1 (mem a j) → okv v) (k : RC E n0 tN nm M o (pc + 3) lv (v :: st) mem) : RC E n0 tN nm M o pc lv (rf a :: st) mem :=
  RC_go (fun p e R s m args below meth c H locs ls Q hF hL hs hw hS kk => by
    obtain ⟨g1, g2, g3⟩ := hg
    have hkk := kk ls hL (okS_c (hok (okm_f hw.2.1 hk g2 g3)) (okS_t hs))
    exact va_get (D := eD E) (cl := ly_cl) (ci := ci) (v := cv E v) (C := ly_cn ci) (T := ly_T ci) (N := (ly_tg ci).length) (rest := st.map (cv E)) hF.1 hF.2.1 hF.2.2.2.2.2.1 (ly_lay g2) hF.2.2.2.2.1 hF.2.2.2.2.2.2.2.1.1 hw.1 a ((wR_get ha).trans (by rw [entR_obj hk g2]; rfl)) (ly_clg g2) j (List.getElem?_eq_some_iff.mp g3).1 (hF.2.2.2.2.2.1 _ g1) (fun _ h9 => h9) (by rw [rowR_get g3, hv]) hd hkk) k
theorem RC_getI {idx ci j n a : Nat} (hg : GF M.1 idx ci j (0, 0)) (hk : ly_k a = (ci, n)) (ha : a < mN mem) (hd : decode M.2.1 pc = .ok (.getfield idx, 3)) (k : RC E n0 tN nm M o (pc + 3) lv (vi (mem a j) :: st) mem) : RC E n0 tN nm M o pc lv (rf a :: st) mem := RC_getf (v := vi (mem a j)) hg hk ha hd rfl (fun h => h) k
theorem fvR_ref {E : EE} {t : Nat} {x : Int} (ht : t = 2 ∨ t = 5) (h0 : 0 ≤ x) : fvR E t x = .ref (eB E + x.toNat) := by
  rcases ht with rfl | rfl
  · show va_rf (rfR E x) = _
    unfold rfR
    rw [if_neg (by omega)]
    rfl
  · show va_rf (rfR E x) = _
    unfold rfR
    rw [if_neg (by omega)]
    rfl
theorem RC_getR {idx ci j n a : Nat} {t : Nat × Int} (hg : GF M.1 idx ci j t) (ht : t.1 = 2 ∨ t.1 = 5) (hk : ly_k a = (ci, n)) (ha : a < mN mem) (h0 : 0 ≤ mem a j) (hd : decode M.2.1 pc = .ok (.getfield idx, 3)) (k : RC E n0 tN nm M o (pc + 3) lv (rf (mem a j).toNat :: st) mem) : RC E n0 tN nm M o pc lv (rf a :: st) mem :=
  RC_getf (v := rf (mem a j).toNat) hg hk ha hd (by rw [fvR_ref ht h0]; rfl) (fun _ => trivial) k
/-- what a write needs behind it -/
theorem Wc_st {H1 : Heap} {a i : Nat} {x : Int} {en : va_E} (hw : okm mem ∧ mN mem ≤ 261) (ha : a < mN mem) (hx : okc (ly_k a) i x) (he : en = entR E a (mst mem a i x a)) (hP : va_P (eD E) ly_cl ((wR E mem).set a (eB E + a, en)) H1) : Wc E (mst mem a i x) H1 ∧ mN (mst mem a i x) = mN mem := by
  have hN : mN (mst mem a i x) = mN mem := mN_st (by omega)
  refine ⟨⟨?_, okm_mst hw.1 hx, by rw [hN]; exact hw.2⟩, hN⟩
  rw [← wR_set (mem := mem) (mem' := mst mem a i x) (k := a) (en := en) hN ha he (fun b hb _ => mst_row mem a i x hb) hw.2]
  exact hP
theorem RC_putf {idx ci j n a : Nat} {t : Nat × Int} {ty : FieldType} {v : VV} {x : Int} (hg : GF M.1 idx ci j t) (hfin : (ly_T ci j).2.2.2 = false ∨ ((ly_T ci j).2.2.2 = true ∧ nm = "<init>" ∧ ly_cn ci = M.1)) (hty : ly_ty ci j = ty) (hk : ly_k a = (ci, n)) (ha : a < mN mem) (hd : decode M.2.1 pc = .ok (.putfield idx, 3)) (hv : cv E v = fvR E t.1 x) (hn : narrow ty (cv E v) = cv E v) (hfit : fits ty (cv E v) = true) (hok : okv v → okf t.1 x) (k : RC E n0 tN nm M o (pc + 3) lv st (mst mem a j x)) : RC E n0 tN nm M o pc lv (v :: rf a :: st) mem := by
  intro r mem' ho p e R s m args below meth c hF hnm H locs ls hL hs hw hn0 hS
  obtain ⟨g1, g2, g3⟩ := hg
  have he : (wR E mem)[a]? = some (eB E + a, .inr (ci, rowR E ci (mem a))) := (wR_get ha).trans (by rw [entR_obj hk g2])
  subst hty
  have hjl := (List.getElem?_eq_some_iff.mp g3).1
  have fin : ∀ (H1 : Heap) (locs1 : List Loc), va_P (eD E) ly_cl ((wR E mem).set a (eB E + a, .inr (ci, (rowR E ci (mem a)).set j (cv E v)))) H1 → va_S (nw E) s.heap H1 locs1 → W p (eL E) e R s m args below meth c H1 locs1 (mN mem - n0) (cS (mN mem) - cS n0) (MQ below (QC E tN M.2.2.2.1 r mem') args s (tN - n0) (cS tN - cS n0) (nw E)) (F0 m (pc + 3) ls (st.map (cv E))) := by
    intro H1 locs1 hP1 hS1
    obtain ⟨w1, w2⟩ := Wc_st (i := j) (x := x) ⟨hw.2.1, hw.2.2⟩ ha (okc_f hk g2 g3 (hok (okS_h hs))) (by rw [entR_obj hk g2, hv, rowR_set g3]) hP1
    have h9 := k r mem' ho p e R s m args below meth c hF hnm H1 locs1 ls hL (okS_t (okS_t hs)) w1 (by rw [w2]; exact hn0) hS1
    rw [w2] at h9
    exact h9
  rcases hfin with hf | ⟨hf, hf2, hf3⟩
  · exact va_put (D := eD E) (cl := ly_cl) (ci := ci) (v := cv E v) (ty := ly_ty ci j) (C := ly_cn ci) (T := ly_T ci) (N := (ly_tg ci).length) (rest := st.map (cv E)) hF.1 hF.2.1 hF.2.2.2.2.2.1 (ly_lay g2) (ly_ty ci) (ly_hty g2) (ly_hnm g2) hF.2.2.2.2.1 hF.2.2.2.2.2.2.2.1.1 hw.1 wR_D hS a he (ly_clg g2) j hjl (hF.2.2.2.2.2.1 _ g1) (fun _ h9 => h9) hf (ly_hty g2 j hjl) hn hfit (by rw [rowR_len]; exact hjl) hd (fun H1 locs1 hP1 _ hS1 => fin H1 locs1 hP1 hS1)
  · exact va_putF (D := eD E) (cl := ly_cl) (ci := ci) (v := cv E v) (ty := ly_ty ci j) (C := ly_cn ci) (T := ly_T ci) (N := (ly_tg ci).length) (rest := st.map (cv E)) hF.1 hF.2.1 hF.2.2.2.2.2.1 (ly_lay g2) (ly_ty ci) (ly_hty g2) (ly_hnm g2) hF.2.2.2.2.1 hF.2.2.2.2.2.2.2.1.1 hw.1 wR_D hS a he (ly_clg g2) j hjl (hF.2.2.2.2.2.1 _ g1) (fun _ h9 => h9) hf (hnm.trans hf2) hf3 (ly_hty g2 j hjl) hn hfit (by rw [rowR_len]; exact hjl) hd (fun H1 locs1 hP1 _ hS1 => fin H1 locs1 hP1 hS1)
theorem RC_putI {idx ci j n a : Nat} {x : Int} (hg : GF M.1 idx ci j (0, 0)) (hfin : (ly_T ci j).2.2.2 = false) (hty : ly_ty ci j = .int) (hk : ly_k a = (ci, n)) (ha : a < mN mem) (hd : decode M.2.1 pc = .ok (.putfield idx, 3)) (k : RC E n0 tN nm M o (pc + 3) lv st (mst mem a j x)) : RC E n0 tN nm M o pc lv (vi x :: rf a :: st) mem := RC_putf (v := vi x) hg (Or.inl hfin) hty hk ha hd rfl (vp_nar_int _) rfl (fun h => h) k
theorem RC_putR {idx ci j n a b : Nat} {t : Nat × Int} {ty : FieldType} (hg : GF M.1 idx ci j t) (ht : t.1 = 2 ∨ t.1 = 5) (hfin : (ly_T ci j).2.2.2 = false ∨ ((ly_T ci j).2.2.2 = true ∧ nm = "<init>" ∧ ly_cn ci = M.1)) (hty : ly_ty ci j = ty) (hrt : (∃ C, ty = .object C) ∨ ∃ t', ty = .array t') (hk : ly_k a = (ci, n)) (ha : a < mN mem) (hd : decode M.2.1 pc = .ok (.putfield idx, 3)) (k : RC E n0 tN nm M o (pc + 3) lv st (mst mem a j (b : Int))) : RC E n0 tN nm M o pc lv (rf b :: rf a :: st) mem :=
  RC_putf (v := rf b) (x := (b : Int)) hg hfin hty hk ha hd (by rw [fvR_ref ht (by omega)]; rfl) (by rcases hrt with ⟨C, rfl⟩ | ⟨t', rfl⟩ <;> rfl) (by rcases hrt with ⟨C, rfl⟩ | ⟨t', rfl⟩ <;> rfl) (fun _ => by rcases ht with h | h <;> rw [h] <;> trivial) k
theorem RC_iast {a n : Nat} {i x : Int} (hk : ly_k a = (12, n)) (ha : a < mN mem) (hi : 0 ≤ i ∧ i < (n : Int)) (hd : decode M.2.1 pc = .ok (.iastore, 1)) (k : RC E n0 tN nm M o (pc + 1) lv st (mst mem a i.toNat x)) : RC E n0 tN nm M o pc lv (vi x :: vi i :: rf a :: st) mem := by
  intro r mem' ho p e R s m args below meth c hF hnm H locs ls hL hs hw hn0 hS
  obtain ⟨q1, q2⟩ := of_ix (ly_n hk) hi.1 hi.2
  have hok : okI x := okS_h hs
  refine va_iast (D := eD E) (cl := ly_cl) (tys := tyL E) (cA := eA E 12) (n := n) (f := fun j => Int32.ofInt (mem a j)) (i := Int32.ofInt i) (x := Int32.ofInt x) (rest := st.map (cv E)) hF.1 hF.2.1 hF.2.2.2.2.2.2.2.1.1 hw.1 wR_D hS a 0 ((wR_get ha).trans (by rw [entR_arr hk (by decide)]; rfl)) rfl q1 hd (fun H1 locs1 hP1 _ hS1 => ?_)
  rw [q2, upd_mst] at hP1
  obtain ⟨w1, w2⟩ := Wc_st (i := i.toNat) (x := x) ⟨hw.2.1, hw.2.2⟩ ha (by rw [hk]; exact hok) (by rw [entR_arr hk (by decide)]; rfl) hP1
  have h9 := k r mem' ho p e R s m args below meth c hF hnm H1 locs1 ls hL (okS_t (okS_t (okS_t hs))) w1 (by rw [w2]; exact hn0) hS1
  rw [w2] at h9
  exact h9
theorem RC_alen {a n : Nat} {x : Int} (hk : ly_k a = (12, n)) (ha : a < mN mem) (hx : x = (n : Int)) (hd : decode M.2.1 pc = .ok (.arraylength, 1)) (k : RC E n0 tN nm M o (pc + 1) lv (vi x :: st) mem) : RC E n0 tN nm M o pc lv (rf a :: st) mem :=
  RC_go (fun p e R s m args below meth c H locs ls Q hF hL hs hw hS kk => by
    subst hx
    have hn := ly_n hk
    exact va_alen (D := eD E) (cl := ly_cl) (tys := tyL E) (cA := eA E 12) (x := entAR E 12 n (mem a)) (rest := st.map (cv E)) hF.1 hF.2.1 hF.2.2.2.2.2.2.2.1.1 hw.1 a 0 ((wR_get ha).trans (by rw [entR_arr hk (by decide)]; rfl)) (ty := .int) rfl rfl hd (kk ls hL (okS_i ⟨by omega, by omega⟩ (okS_t hs)))) k
theorem upd_rfR (E : EE) (mem : Mm) (a i b : Nat) : va_up (fun j => rfR E (mem a j)) i (some (eB E + b)) = fun j => rfR E (mst mem a i (b : Int) a j) := by
  funext j
  unfold va_up
  by_cases h : j = i
  · subst h; rw [if_pos rfl, mst_at]; unfold rfR; rw [if_neg (by omega)]; rfl
  · rw [if_neg h]; simp [mst, h]
theorem RC_aast {a n kd b ci m : Nat} {i : Int} (hkd : (kd = 16 ∧ ci = 5) ∨ (kd = 17 ∧ ci = 6) ∨ (kd = 18 ∧ ci = 9)) (hk : ly_k a = (kd, n)) (ha : a < mN mem) (hkb : ly_k b = (ci, m)) (hb : b < mN mem) (hi : 0 ≤ i ∧ i < (n : Int)) (hd : decode M.2.1 pc = .ok (.aastore, 1)) (k : RC E n0 tN nm M o (pc + 1) lv st (mst mem a i.toNat (b : Int))) : RC E n0 tN nm M o pc lv (rf b :: vi i :: rf a :: st) mem := by
  intro r mem' ho p e R s m args below meth c hF hnm H locs ls hL hs hw hn0 hS
  obtain ⟨q1, q2⟩ := of_ix (ly_n hk) hi.1 hi.2
  have hc12 : ci < 12 := by rcases hkd with h | h | h <;> omega
  have hvb := (wR_get (E := E) hb).trans (show _ = some (eB E + b, .inr (ci, rowR E ci (mem b))) by rw [entR_obj hkb hc12])
  have fin : ∀ (H1 : Heap) (locs1 : List Loc), va_P (eD E) ly_cl ((wR E mem).set a (eB E + a, .inl (eA E kd, n, .inr (.inr (.inr (.inr (fun j => rfR E (mst mem a i.toNat (b : Int) a j)))))))) H1 → va_S (nw E) s.heap H1 locs1 → W p (eL E) e R s m args below meth c H1 locs1 (mN mem - n0) (cS (mN mem) - cS n0) (MQ below (QC E tN M.2.2.2.1 r mem') args s (tN - n0) (cS tN - cS n0) (nw E)) (F0 m (pc + 1) ls (st.map (cv E))) := by
    intro H1 locs1 hP1 hS1
    obtain ⟨w1, w2⟩ := Wc_st (i := i.toNat) (x := (b : Int)) ⟨hw.2.1, hw.2.2⟩ ha (by rw [hk]; rcases hkd with ⟨rfl, -⟩ | ⟨rfl, -⟩ | ⟨rfl, -⟩ <;> exact trivial) (by rw [entR_arr hk (by omega)]; rcases hkd with ⟨rfl, -⟩ | ⟨rfl, -⟩ | ⟨rfl, -⟩ <;> rfl) hP1
    have h9 := k r mem' ho p e R s m args below meth c hF hnm H1 locs1 ls hL (okS_t (okS_t (okS_t hs))) w1 (by rw [w2]; exact hn0) hS1
    rw [w2] at h9
    exact h9
  rcases hkd with ⟨rfl, rfl⟩ | ⟨rfl, rfl⟩ | ⟨rfl, rfl⟩
  · refine va_astq (D := eD E) (cl := ly_cl) (tys := tyL E) (cA := eA E 16) (n := n) (f := fun j => rfR E (mem a j)) (i := Int32.ofInt i) (v := eB E + b) (rest := st.map (cv E)) hF.1 hF.2.1 hF.2.2.2.2.2.2.2.1.1 hw.1 wR_D hS a 4 b 5 ((wR_get ha).trans (by rw [entR_arr hk (by decide)]; rfl)) (r := (ly_cn 5, ly_T 5, (ly_tg 5).length)) rfl hvb (ly_clg hc12) q1 hd (fun H1 locs1 hP1 _ hS1 => fin H1 locs1 ?_ hS1)
    rw [q2, upd_rfR] at hP1
    exact hP1
  · refine va_astq (D := eD E) (cl := ly_cl) (tys := tyL E) (cA := eA E 17) (n := n) (f := fun j => rfR E (mem a j)) (i := Int32.ofInt i) (v := eB E + b) (rest := st.map (cv E)) hF.1 hF.2.1 hF.2.2.2.2.2.2.2.1.1 hw.1 wR_D hS a 5 b 6 ((wR_get ha).trans (by rw [entR_arr hk (by decide)]; rfl)) (r := (ly_cn 6, ly_T 6, (ly_tg 6).length)) rfl hvb (ly_clg hc12) q1 hd (fun H1 locs1 hP1 _ hS1 => fin H1 locs1 ?_ hS1)
    rw [q2, upd_rfR] at hP1
    exact hP1
  · refine va_astq (D := eD E) (cl := ly_cl) (tys := tyL E) (cA := eA E 18) (n := n) (f := fun j => rfR E (mem a j)) (i := Int32.ofInt i) (v := eB E + b) (rest := st.map (cv E)) hF.1 hF.2.1 hF.2.2.2.2.2.2.2.1.1 hw.1 wR_D hS a 6 b 9 ((wR_get ha).trans (by rw [entR_arr hk (by decide)]; rfl)) (r := (ly_cn 9, ly_T 9, (ly_tg 9).length)) rfl hvb (ly_clg hc12) q1 hd (fun H1 locs1 hP1 _ hS1 => fin H1 locs1 ?_ hS1)
    rw [q2, upd_rfR] at hP1
    exact hP1
theorem RC_vret (hr : M.2.2.2.1 = none) (ht : mN mem = tN) (hd : decode M.2.1 pc = .ok (.return_, 1)) : RC E n0 tN nm M (some (0, mem)) pc lv [] mem := by
  intro r mem' ho p e R s m args below meth c hF hnm H locs ls hL hs hw hn0 hS
  cases ho
  have hk : meth.locks = false := hF.2.2.2.2.2.2.1
  subst ht
  refine W.vret hF.1 hF.2.1 (hF.2.2.2.1.trans hr) (fun t ht hW => ⟨?_, ?_, by rw [ht]; exact hw, hS.F ht, rfl⟩) hS.2.2 hd
  · rw [hr]; rfl
  · rw [hr]; trivial
theorem RC_objInit {idx : Nat} (h1 : Cond.methodLink M.1 idx Lib.objectInit ∈ TBL) (h2 : Cond.instanceMethod Lib.objectInit ∈ TBL) (h3 : Cond.code Lib.objectInit ⟨#[0xb1]⟩ 1 none ∈ TBL) (hdd : 0 < M.2.2.2.2) (hr : argsW st ≤ 8) {a : Nat} (hd : decode M.2.1 pc = .ok (.invokespecial idx, 3)) (k : RC E n0 tN nm M o (pc + 3) lv st mem) : RC E n0 tN nm M o pc lv (rf a :: st) mem :=
  RC_go (fun p e R s m args below meth c H locs ls Q hF hL hs hw hS kk => by
    have hts := hF.2.2.2.2.2.1
    have hR := hF.2.2.2.2.2.2.2.2.1
    exact W.objInit (rest := st.map (cv E)) hF.1 hF.2.1 hF.2.2.2.2.1 (hts _ h1) (hts _ h2) (hts _ h3) rfl (hL.1.trans hF.2.2.1.symm) rfl hd (by rw [hR]; exact hdd) (by rw [hR, cat_sum]; show 2 * 0 + _ + 12 ≤ 40 * M.2.2.2.2; omega) (kk ls hL (okS_t hs))) k
end RawC
