/-! Rows of the memory, returns, calls, a method's entry. -/
def GF (own : String) (idx ci j : Nat) (t : Nat × Int) : Prop := Cond.fieldLink own idx (ly_cn ci) (ly_T ci j).2.1 (ly_T ci j).2.2.1 ∈ TBL ∧ ci < 12 ∧ (ly_tg ci)[j]? = some t
def GP (own : String) (idx ci j : Nat) (t : Nat × Int) (ty : FieldType) : Prop := GF own idx ci j t ∧ (ly_T ci j).2.2.2 = false ∧ ly_ty ci j = ty
theorem okm_f {mem : Mm} {a ci n j : Nat} {t : Nat × Int} (h : okm mem) (hk : ly_k a = (ci, n)) (hc : ci < 12) (ht : (ly_tg ci)[j]? = some t) : okf t.1 (mem a j) := by
  have h1 := h a j
  unfold okc at h1
  rw [hk] at h1
  simp only [hc, if_true, List.getD_eq_getElem?_getD, ht, Option.getD_some] at h1
  exact h1
theorem okc_f {a ci n j : Nat} {t : Nat × Int} {x : Int} (hk : ly_k a = (ci, n)) (hc : ci < 12) (ht : (ly_tg ci)[j]? = some t) (hx : okf t.1 x) : okc (ly_k a) j x := by
  unfold okc
  rw [hk]
  simp only [hc, if_true, List.getD_eq_getElem?_getD, ht, Option.getD_some]
  exact hx
section Rows2
variable {E : EE} {M : MT} {o o1 o2 : Res} {pc : Nat} {lv : List (Nat × VV)} {st : List VV} {mem : Mm}
theorem RO_getf {idx ci j n a : Nat} {t : Nat × Int} {v : VV} (hg : GF M.1 idx ci j t) (hk : ly_k a = (ci, n)) (hd : decode M.2.1 pc = .ok (.getfield idx, 3)) (hv : fv E a t (mem a j) = cv E v) (hok : okf t.1 (mem a j) → okv v) (k : RO E M o (pc + 3) lv (v :: st) mem) : RO E M o pc lv (rf a :: st) mem :=
  RO_go (fun p e R s m args below meth c H locs ls Q hF hL hs hw hS kk => by
    obtain ⟨g1, g2, g3⟩ := hg
    have hlt := ly_lt hk (by omega)
    have hkk := kk ls hL (okS_c (hok (okm_f hw.2 hk g2 g3)) (okS_t hs))
    exact va_get (D := eD E) (cl := ly_cl) (ci := ci) (v := cv E v) (C := ly_cn ci) (T := ly_T ci) (N := (ly_tg ci).length) (rest := st.map (cv E)) hF.1 hF.2.1 hF.2.2.2.2.2.1 (ly_lay g2) hF.2.2.2.2.1 hF.2.2.2.2.2.2.2.1.1 hw.1 a ((wL_get hlt).trans (by rw [ent_obj hk g2]; rfl)) (ly_clg g2) j (List.getElem?_eq_some_iff.mp g3).1 (hF.2.2.2.2.2.1 _ g1) (fun _ h9 => h9) (by rw [rowO_get g3, hv]) hd hkk) k
theorem RO_getN {idx ci j n a : Nat} {t : Nat × Int} {v : VV} {host : String} (hm : Cond.fieldLinkNest M.1 idx (ly_cn ci) (ly_T ci j).2.1 (ly_T ci j).2.2.1 host ∈ nsW) (g2 : ci < 12) (g3 : (ly_tg ci)[j]? = some t) (hk : ly_k a = (ci, n)) (hd : decode M.2.1 pc = .ok (.getfield idx, 3)) (hv : fv E a t (mem a j) = cv E v) (hok : okf t.1 (mem a j) → okv v) (k : RO E M o (pc + 3) lv (v :: st) mem) : RO E M o pc lv (rf a :: st) mem :=
  RO_go (fun p e R s m args below meth c H locs ls Q hF hL hs hw hS kk => by
    have hlt := ly_lt hk (by omega)
    have hkk := kk ls hL (okS_c (hok (okm_f hw.2 hk g2 g3)) (okS_t hs))
    exact va_getN (D := eD E) (cl := ly_cl) (ci := ci) (v := cv E v) (C := ly_cn ci) (T := ly_T ci) (N := (ly_tg ci).length) (rest := st.map (cv E)) hF.1 hF.2.1 hF.2.2.2.2.2.1 (ly_lay g2) hF.2.2.2.2.1 hF.2.2.2.2.2.2.2.1.1 hw.1 a ((wL_get hlt).trans (by rw [ent_obj hk g2]; rfl)) (ly_clg g2) j (List.getElem?_eq_some_iff.mp g3).1 (va_Nw.use rfl (hF.2.2.2.2.2.2.2.1.2.1 _ hm)) (fun _ h9 => h9) (by rw [rowO_get g3, hv]) hd hkk) k
theorem RO_getI {idx ci j n a : Nat} (hg : GF M.1 idx ci j (0, 0)) (hk : ly_k a = (ci, n)) (hd : decode M.2.1 pc = .ok (.getfield idx, 3)) (k : RO E M o (pc + 3) lv (vi (mem a j) :: st) mem) : RO E M o pc lv (rf a :: st) mem := RO_getf (v := vi (mem a j)) hg hk hd rfl (fun h => h) k
theorem RO_getZ {idx ci j n a : Nat} (hg : GF M.1 idx ci j (4, 0)) (hk : ly_k a = (ci, n)) (hd : decode M.2.1 pc = .ok (.getfield idx, 3)) (k : RO E M o (pc + 3) lv (vi (mem a j) :: st) mem) : RO E M o pc lv (rf a :: st) mem :=
  RO_getf (v := vi (mem a j)) hg hk hd rfl (fun h => by
    show okI (mem a j)
    rcases h with h | h <;> rw [h] <;> exact ⟨by decide, by decide⟩) k
theorem RO_getL {idx ci j n a : Nat} (hg : GF M.1 idx ci j (1, 0)) (hk : ly_k a = (ci, n)) (hd : decode M.2.1 pc = .ok (.getfield idx, 3)) (k : RO E M o (pc + 3) lv (vl (mem a j) :: st) mem) : RO E M o pc lv (rf a :: st) mem := RO_getf (v := vl (mem a j)) hg hk hd rfl (fun h => h) k
theorem RO_getW {idx ci j n a : Nat} (hg : GF M.1 idx ci j (3, 0)) (hk : ly_k a = (ci, n)) (hd : decode M.2.1 pc = .ok (.getfield idx, 3)) (k : RO E M o (pc + 3) lv (vw (mem a j) :: st) mem) : RO E M o pc lv (rf a :: st) mem := RO_getf (v := vw (mem a j)) hg hk hd rfl (fun h => h) k
theorem RO_getR {idx ci j n a b : Nat} {off : Int} (hg : GF M.1 idx ci j (5, off)) (hk : ly_k a = (ci, n)) (hb : ((a : Int) + off).toNat = b) (hd : decode M.2.1 pc = .ok (.getfield idx, 3)) (k : RO E M o (pc + 3) lv (rf b :: st) mem) : RO E M o pc lv (rf a :: st) mem := RO_getf (v := rf b) hg hk hd (by rw [← hb]; rfl) (fun _ => trivial) k
theorem RO_getRN {idx ci j n a b : Nat} {off : Int} {host : String} (hm : Cond.fieldLinkNest M.1 idx (ly_cn ci) (ly_T ci j).2.1 (ly_T ci j).2.2.1 host ∈ nsW) (g2 : ci < 12) (g3 : (ly_tg ci)[j]? = some (5, off)) (hk : ly_k a = (ci, n)) (hb : ((a : Int) + off).toNat = b) (hd : decode M.2.1 pc = .ok (.getfield idx, 3)) (k : RO E M o (pc + 3) lv (rf b :: st) mem) : RO E M o pc lv (rf a :: st) mem := RO_getN (v := rf b) hm g2 g3 hk hd (by rw [← hb]; rfl) (fun _ => trivial) k
theorem RO_getM {idx ci j n a : Nat} (hg : GF M.1 idx ci j (2, 0)) (hk : ly_k a = (ci, n)) (h0 : 0 ≤ mem a j) (hd : decode M.2.1 pc = .ok (.getfield idx, 3)) (k : RO E M o (pc + 3) lv (rf (mem a j).toNat :: st) mem) : RO E M o pc lv (rf a :: st) mem :=
  RO_getf (v := rf (mem a j).toNat) hg hk hd (by
    show (if mem a j < 0 then Value.null else .ref (eB E + (mem a j).toNat)) = .ref (eB E + (((mem a j).toNat : Nat) : Int).toNat)
    rw [if_neg (by omega)]
    rfl) (fun _ => trivial) k
theorem RO_putf {idx ci j n a : Nat} {t : Nat × Int} {ty : FieldType} {v : VV} {x : Int} (hg : GP M.1 idx ci j t ty) (hk : ly_k a = (ci, n)) (hd : decode M.2.1 pc = .ok (.putfield idx, 3)) (hv : cv E v = fv E a t x) (hn : narrow ty (cv E v) = cv E v) (hfit : fits ty (cv E v) = true) (hok : okv v → okf t.1 x) (k : RO E M o (pc + 3) lv st (mst mem a j x)) : RO E M o pc lv (v :: rf a :: st) mem := by
  intro r mem' ho p e R s m args below meth c hF H locs ls hL hs hw hS
  obtain ⟨⟨g1, g2, g3⟩, g4, g5⟩ := hg
  have hlt := ly_lt hk (by omega)
  have he : (wL E mem)[a]? = some (eB E + a, .inr (ci, rowO E a ci (mem a))) := (wL_get hlt).trans (by rw [ent_obj hk g2])
  subst g5
  have hjl := (List.getElem?_eq_some_iff.mp g3).1
  refine va_put (D := eD E) (cl := ly_cl) (ci := ci) (v := cv E v) (ty := ly_ty ci j) (C := ly_cn ci) (T := ly_T ci) (N := (ly_tg ci).length) (rest := st.map (cv E)) hF.1 hF.2.1 hF.2.2.2.2.2.1 (ly_lay g2) (ly_ty ci) (ly_hty g2) (ly_hnm g2) hF.2.2.2.2.1 hF.2.2.2.2.2.2.2.1.1 hw.1 wL_D hS a he (ly_clg g2) j hjl (hF.2.2.2.2.2.1 _ g1) (fun _ h9 => h9) g4 (ly_hty g2 j hjl) hn hfit (by rw [rowO_len]; exact hjl) hd (fun H1 locs1 hP1 _ hS1 => ?_)
  refine k r mem' ho p e R s m args below meth c hF H1 locs1 ls hL (okS_t (okS_t hs)) ⟨?_, okm_mst hw.2 (okc_f hk g2 g3 (hok (okS_h hs)))⟩ hS1
  rw [← wL_set (mem := mem) (mem' := mst mem a j x) (k := a) (en := .inr (ci, (rowO E a ci (mem a)).set j (cv E v))) hlt (by rw [ent_obj hk g2, hv, rowO_set g3]) (fun b hb => mst_row mem a j x hb)]
  exact hP1
theorem RO_putI {idx ci j n a : Nat} {x : Int} (hg : GP M.1 idx ci j (0, 0) .int) (hk : ly_k a = (ci, n)) (hd : decode M.2.1 pc = .ok (.putfield idx, 3)) (k : RO E M o (pc + 3) lv st (mst mem a j x)) : RO E M o pc lv (vi x :: rf a :: st) mem := RO_putf (v := vi x) hg hk hd rfl (vp_nar_int _) rfl (fun h => h) k
theorem RO_putL {idx ci j n a : Nat} {x : Int} (hg : GP M.1 idx ci j (1, 0) .long) (hk : ly_k a = (ci, n)) (hd : decode M.2.1 pc = .ok (.putfield idx, 3)) (k : RO E M o (pc + 3) lv st (mst mem a j x)) : RO E M o pc lv (vl x :: rf a :: st) mem := RO_putf (v := vl x) hg hk hd rfl rfl rfl (fun h => h) k
theorem RO_putZ {idx ci j n a : Nat} {x : Int} (hg : GP M.1 idx ci j (4, 0) .boolean) (hk : ly_k a = (ci, n)) (hx : x = 0 ∨ x = 1) (hd : decode M.2.1 pc = .ok (.putfield idx, 3)) (k : RO E M o (pc + 3) lv st (mst mem a j x)) : RO E M o pc lv (vi x :: rf a :: st) mem := RO_putf (v := vi x) hg hk hd rfl (by rcases hx with rfl | rfl <;> rfl) (by rcases hx with rfl | rfl <;> rfl) (fun _ => hx) k
theorem RO_putW {idx ci j n a : Nat} {x : Int} {C : String} (hg : GP M.1 idx ci j (3, 0) (.object C)) (hk : ly_k a = (ci, n)) (hd : decode M.2.1 pc = .ok (.putfield idx, 3)) (k : RO E M o (pc + 3) lv st (mst mem a j x)) : RO E M o pc lv (vw x :: rf a :: st) mem :=
  RO_putf (v := vw x) hg hk hd rfl (by show narrow _ (wv E x) = wv E x; rcases wv_or E x with ⟨-, e1⟩ | ⟨-, e1⟩ <;> rw [e1] <;> rfl) (by show fits _ (wv E x) = true; rcases wv_or E x with ⟨-, e1⟩ | ⟨-, e1⟩ <;> rw [e1] <;> rfl) (fun h => h) k
theorem RO_putM {idx ci j n a b : Nat} {C : String} (hg : GP M.1 idx ci j (2, 0) (.object C)) (hk : ly_k a = (ci, n)) (hd : decode M.2.1 pc = .ok (.putfield idx, 3)) (k : RO E M o (pc + 3) lv st (mst mem a j (b : Int))) : RO E M o pc lv (rf b :: rf a :: st) mem :=
  RO_putf (v := rf b) (x := (b : Int)) hg hk hd (by
    show Value.ref (eB E + ((b : Int)).toNat) = (if (b : Int) < 0 then Value.null else .ref (eB E + ((b : Int)).toNat))
    rw [if_neg (by omega)]) rfl rfl (fun _ => trivial) k
/-! arrays -/
theorem ty_at {E : EE} {kd : Nat} {ty : FieldType} (t0 : Nat) (h : (tyL E)[t0]? = some (eA E kd, ty)) : (tyL E)[t0]? = some (eA E kd, ty) := h
theorem RO_iald {a n : Nat} {i : Int} (hk : ly_k a = (12, n)) (hn : n < 2147483648) (h0 : 0 ≤ i) (h1 : i < n) (hd : decode M.2.1 pc = .ok (.iaload, 1)) (k : RO E M o (pc + 1) lv (vi (mem a i.toNat) :: st) mem) : RO E M o pc lv (vi i :: rf a :: st) mem :=
  RO_go (fun p e R s m args below meth c H locs ls Q hF hL hs hw hS kk => by
    have hlt := ly_lt hk (by omega)
    obtain ⟨q1, q2⟩ := of_ix hn h0 h1
    have hok : okI (mem a i.toNat) := by have := hw.2 a i.toNat; rw [hk] at this; exact this
    refine va_iald (D := eD E) (cl := ly_cl) (tys := tyL E) (cA := eA E 12) (n := n) (f := fun j => Int32.ofInt (mem a j)) (i := Int32.ofInt i) (rest := st.map (cv E)) hF.1 hF.2.1 hF.2.2.2.2.2.2.2.1.1 hw.1 a 0 ((wL_get hlt).trans (by rw [ent_arr hk (by decide)]; rfl)) rfl q1 hd ?_
    rw [q2]
    exact kk ls hL (okS_i hok (okS_t (okS_t hs)))) k
theorem RO_zald {a n : Nat} {i : Int} (hk : ly_k a = (15, n)) (hn : n < 2147483648) (h0 : 0 ≤ i) (h1 : i < n) (hd : decode M.2.1 pc = .ok (.baload, 1)) (k : RO E M o (pc + 1) lv (vi (mem a i.toNat) :: st) mem) : RO E M o pc lv (vi i :: rf a :: st) mem :=
  RO_go (fun p e R s m args below meth c H locs ls Q hF hL hs hw hS kk => by
    have hlt := ly_lt hk (by omega)
    obtain ⟨q1, q2⟩ := of_ix hn h0 h1
    have hok : mem a i.toNat = 0 ∨ mem a i.toNat = 1 := by have := hw.2 a i.toNat; rw [hk] at this; exact this
    have hok : okI (mem a i.toNat) := by rcases hok with h | h <;> rw [h] <;> exact ⟨by decide, by decide⟩
    refine va_zald (D := eD E) (cl := ly_cl) (tys := tyL E) (cA := eA E 15) (n := n) (f := fun j => Int32.ofInt (mem a j)) (i := Int32.ofInt i) (rest := st.map (cv E)) hF.1 hF.2.1 hF.2.2.2.2.2.2.2.1.1 hw.1 a 3 ((wL_get hlt).trans (by rw [ent_arr hk (by decide)]; rfl)) rfl q1 hd ?_
    rw [q2]
    exact kk ls hL (okS_i hok (okS_t (okS_t hs)))) k
theorem RO_cald {a n : Nat} {i : Int} (hk : ly_k a = (14, n)) (hn : n < 2147483648) (h0 : 0 ≤ i) (h1 : i < n) (hd : decode M.2.1 pc = .ok (.caload, 1)) (k : RO E M o (pc + 1) lv (vi (mem a i.toNat) :: st) mem) : RO E M o pc lv (vi i :: rf a :: st) mem :=
  RO_go (fun p e R s m args below meth c H locs ls Q hF hL hs hw hS kk => by
    have hlt := ly_lt hk (by omega)
    obtain ⟨q1, q2⟩ := of_ix hn h0 h1
    have hok : 0 ≤ mem a i.toNat ∧ mem a i.toNat ≤ 65535 := by have := hw.2 a i.toNat; rw [hk] at this; exact this
    have hok : okI (mem a i.toNat) := ⟨by omega, by omega⟩
    refine va_cald (D := eD E) (cl := ly_cl) (tys := tyL E) (cA := eA E 14) (n := n) (f := fun j => Int32.ofInt (mem a j)) (i := Int32.ofInt i) (rest := st.map (cv E)) hF.1 hF.2.1 hF.2.2.2.2.2.2.2.1.1 hw.1 a 2 ((wL_get hlt).trans (by rw [ent_arr hk (by decide)]; rfl)) rfl q1 hd ?_
    rw [q2]
    exact kk ls hL (okS_i hok (okS_t (okS_t hs)))) k
theorem RO_lald {a n : Nat} {i : Int} (hk : ly_k a = (13, n)) (hn : n < 2147483648) (h0 : 0 ≤ i) (h1 : i < n) (hd : decode M.2.1 pc = .ok (.laload, 1)) (k : RO E M o (pc + 1) lv (vl (mem a i.toNat) :: st) mem) : RO E M o pc lv (vi i :: rf a :: st) mem :=
  RO_go (fun p e R s m args below meth c H locs ls Q hF hL hs hw hS kk => by
    have hlt := ly_lt hk (by omega)
    obtain ⟨q1, q2⟩ := of_ix hn h0 h1
    have hok : okL (mem a i.toNat) := by have := hw.2 a i.toNat; rw [hk] at this; exact this
    refine va_lald (D := eD E) (cl := ly_cl) (tys := tyL E) (cA := eA E 13) (n := n) (f := fun j => Int64.ofInt (mem a j)) (i := Int32.ofInt i) (rest := st.map (cv E)) hF.1 hF.2.1 hF.2.2.2.2.2.2.2.1.1 hw.1 a 1 ((wL_get hlt).trans (by rw [ent_arr hk (by decide)]; rfl)) rfl q1 hd ?_
    rw [q2]
    exact kk ls hL (okS_l hok (okS_t (okS_t hs)))) k
def raO (kd : Nat) : Nat × Nat := match kd with
  | 16 => (18, 11)
  | 17 => (61, 3)
  | _ => (7, 4)
theorem RO_aald {a n kd b : Nat} {i : Int} (hkd : kd = 16 ∨ kd = 17 ∨ kd = 18) (hk : ly_k a = (kd, n)) (hn : n < 2147483648) (h0 : 0 ≤ i) (h1 : i < n) (hb : a + (raO kd).1 + (raO kd).2 * i.toNat = b) (hd : decode M.2.1 pc = .ok (.aaload, 1)) (k : RO E M o (pc + 1) lv (rf b :: st) mem) : RO E M o pc lv (vi i :: rf a :: st) mem :=
  RO_go (fun p e R s m args below meth c H locs ls Q hF hL hs hw hS kk => by
    have hlt := ly_lt hk (by omega)
    obtain ⟨q1, q2⟩ := of_ix hn h0 h1
    have hkk := kk ls hL (okS_c trivial (okS_t (okS_t hs)))
    subst hb
    rcases hkd with rfl | rfl | rfl
    · refine va_aldq (D := eD E) (cl := ly_cl) (tys := tyL E) (cA := eA E 16) (C := "HillClock$Standing") (n := n) (f := fun j => some (eB E + (a + 18 + 11 * j))) (i := Int32.ofInt i) (rest := st.map (cv E)) hF.1 hF.2.1 hF.2.2.2.2.2.2.2.1.1 hw.1 a 4 ((wL_get hlt).trans (by rw [ent_arr hk (by decide)]; rfl)) rfl q1 hd ?_
      rw [q2]
      exact hkk
    · refine va_aldq (D := eD E) (cl := ly_cl) (tys := tyL E) (cA := eA E 17) (C := "HillClock$State") (n := n) (f := fun j => some (eB E + (a + 61 + 3 * j))) (i := Int32.ofInt i) (rest := st.map (cv E)) hF.1 hF.2.1 hF.2.2.2.2.2.2.2.1.1 hw.1 a 5 ((wL_get hlt).trans (by rw [ent_arr hk (by decide)]; rfl)) rfl q1 hd ?_
      rw [q2]
      exact hkk
    · refine va_aldq (D := eD E) (cl := ly_cl) (tys := tyL E) (cA := eA E 18) (C := "HillClock$Walker") (n := n) (f := fun j => some (eB E + (a + 7 + 4 * j))) (i := Int32.ofInt i) (rest := st.map (cv E)) hF.1 hF.2.1 hF.2.2.2.2.2.2.2.1.1 hw.1 a 6 ((wL_get hlt).trans (by rw [ent_arr hk (by decide)]; rfl)) rfl q1 hd ?_
      rw [q2]
      exact hkk) k
theorem RO_alen {a n kd : Nat} {x : Int} (hkd : kd = 12 ∨ kd = 13 ∨ kd = 14 ∨ kd = 15) (hk : ly_k a = (kd, n)) (hx : x = (n : Int)) (hn : n < 2147483648) (hd : decode M.2.1 pc = .ok (.arraylength, 1)) (k : RO E M o (pc + 1) lv (vi x :: st) mem) : RO E M o pc lv (rf a :: st) mem :=
  RO_go (fun p e R s m args below meth c H locs ls Q hF hL hs hw hS kk => by
    have hlt := ly_lt hk (by omega)
    subst hx
    have hkk := kk ls hL (okS_i ⟨by omega, by omega⟩ (okS_t hs))
    rcases hkd with rfl | rfl | rfl | rfl
    · exact va_alen (D := eD E) (cl := ly_cl) (tys := tyL E) (cA := eA E 12) (x := entA E a 12 n (mem a)) (rest := st.map (cv E)) hF.1 hF.2.1 hF.2.2.2.2.2.2.2.1.1 hw.1 a 0 ((wL_get hlt).trans (by rw [ent_arr hk (by decide)]; rfl)) (ty := .int) rfl rfl hd hkk
    · exact va_alen (D := eD E) (cl := ly_cl) (tys := tyL E) (cA := eA E 13) (x := entA E a 13 n (mem a)) (rest := st.map (cv E)) hF.1 hF.2.1 hF.2.2.2.2.2.2.2.1.1 hw.1 a 1 ((wL_get hlt).trans (by rw [ent_arr hk (by decide)]; rfl)) (ty := .long) rfl rfl hd hkk
    · exact va_alen (D := eD E) (cl := ly_cl) (tys := tyL E) (cA := eA E 14) (x := entA E a 14 n (mem a)) (rest := st.map (cv E)) hF.1 hF.2.1 hF.2.2.2.2.2.2.2.1.1 hw.1 a 2 ((wL_get hlt).trans (by rw [ent_arr hk (by decide)]; rfl)) (ty := .char) rfl rfl hd hkk
    · exact va_alen (D := eD E) (cl := ly_cl) (tys := tyL E) (cA := eA E 15) (x := entA E a 15 n (mem a)) (rest := st.map (cv E)) hF.1 hF.2.1 hF.2.2.2.2.2.2.2.1.1 hw.1 a 3 ((wL_get hlt).trans (by rw [ent_arr hk (by decide)]; rfl)) (ty := .boolean) rfl rfl hd hkk) k
theorem upd_mst (mem : Mm) (a i : Nat) (x : Int) : upd (fun j => Int32.ofInt (mem a j)) i (Int32.ofInt x) = fun j => Int32.ofInt (mst mem a i x a j) := by
  funext j
  by_cases h : j = i
  · subst h; rw [pk_us, mst_at]
  · rw [pk_un h]; simp [mst, h]
theorem updL_mst (mem : Mm) (a i : Nat) (x : Int) : vp_updL (fun j => Int64.ofInt (mem a j)) i (Int64.ofInt x) = fun j => Int64.ofInt (mst mem a i x a j) := by
  funext j
  by_cases h : j = i
  · subst h; rw [pk_uLs, mst_at]
  · rw [pk_uLn h]; simp [mst, h]
theorem RO_iast {a n : Nat} {i x : Int} (hk : ly_k a = (12, n)) (hn : n < 2147483648) (h0 : 0 ≤ i) (h1 : i < n) (hd : decode M.2.1 pc = .ok (.iastore, 1)) (k : RO E M o (pc + 1) lv st (mst mem a i.toNat x)) : RO E M o pc lv (vi x :: vi i :: rf a :: st) mem := by
  intro r mem' ho p e R s m args below meth c hF H locs ls hL hs hw hS
  have hlt := ly_lt hk (by omega)
  obtain ⟨q1, q2⟩ := of_ix hn h0 h1
  have hok : okI x := okS_h hs
  refine va_iast (D := eD E) (cl := ly_cl) (tys := tyL E) (cA := eA E 12) (n := n) (f := fun j => Int32.ofInt (mem a j)) (i := Int32.ofInt i) (x := Int32.ofInt x) (rest := st.map (cv E)) hF.1 hF.2.1 hF.2.2.2.2.2.2.2.1.1 hw.1 wL_D hS a 0 ((wL_get hlt).trans (by rw [ent_arr hk (by decide)]; rfl)) rfl q1 hd (fun H1 locs1 hP1 _ hS1 => ?_)
  refine k r mem' ho p e R s m args below meth c hF H1 locs1 ls hL (okS_t (okS_t (okS_t hs))) ⟨?_, okm_mst hw.2 (by rw [hk]; exact hok)⟩ hS1
  rw [q2, upd_mst] at hP1
  rw [← wL_set (mem := mem) (mem' := mst mem a i.toNat x) (k := a) hlt (by rw [ent_arr hk (by decide)]) (fun b hb => mst_row mem a i.toNat x hb)]
  exact hP1
theorem RO_zast {a n : Nat} {i x : Int} (hk : ly_k a = (15, n)) (hn : n < 2147483648) (h0 : 0 ≤ i) (h1 : i < n) (hx : x = 0 ∨ x = 1) (hd : decode M.2.1 pc = .ok (.bastore, 1)) (k : RO E M o (pc + 1) lv st (mst mem a i.toNat x)) : RO E M o pc lv (vi x :: vi i :: rf a :: st) mem := by
  intro r mem' ho p e R s m args below meth c hF H locs ls hL hs hw hS
  have hlt := ly_lt hk (by omega)
  obtain ⟨q1, q2⟩ := of_ix hn h0 h1
  have e9 : vp_nar .boolean (Int32.ofInt x) = Int32.ofInt x := by rcases hx with rfl | rfl <;> rfl
  refine va_zast (D := eD E) (cl := ly_cl) (tys := tyL E) (cA := eA E 15) (n := n) (f := fun j => Int32.ofInt (mem a j)) (i := Int32.ofInt i) (x := Int32.ofInt x) (rest := st.map (cv E)) hF.1 hF.2.1 hF.2.2.2.2.2.2.2.1.1 hw.1 wL_D hS a 3 ((wL_get hlt).trans (by rw [ent_arr hk (by decide)]; rfl)) rfl q1 hd (fun H1 locs1 hP1 _ hS1 => ?_)
  refine k r mem' ho p e R s m args below meth c hF H1 locs1 ls hL (okS_t (okS_t (okS_t hs))) ⟨?_, okm_mst hw.2 (by rw [hk]; exact hx)⟩ hS1
  rw [q2, e9, upd_mst] at hP1
  rw [← wL_set (mem := mem) (mem' := mst mem a i.toNat x) (k := a) hlt (by rw [ent_arr hk (by decide)]) (fun b hb => mst_row mem a i.toNat x hb)]
  exact hP1
theorem RO_cast {a n : Nat} {i x : Int} (hk : ly_k a = (14, n)) (hn : n < 2147483648) (h0 : 0 ≤ i) (h1 : i < n) (hx : 0 ≤ x ∧ x ≤ 65535) (hd : decode M.2.1 pc = .ok (.castore, 1)) (k : RO E M o (pc + 1) lv st (mst mem a i.toNat x)) : RO E M o pc lv (vi x :: vi i :: rf a :: st) mem := by
  intro r mem' ho p e R s m args below meth c hF H locs ls hL hs hw hS
  have hlt := ly_lt hk (by omega)
  obtain ⟨q1, q2⟩ := of_ix hn h0 h1
  have e9 : vp_nar .char (Int32.ofInt x) = Int32.ofInt x := by
    obtain ⟨w, hw0⟩ : ∃ w : Nat, x = (w : Int) := ⟨x.toNat, by omega⟩
    subst hw0
    have h8 := (pk_charN (q := w) (by omega)).1
    show vp_nar .char (nI w) = nI w
    unfold vp_nar
    rw [h8]
  refine va_cast (D := eD E) (cl := ly_cl) (tys := tyL E) (cA := eA E 14) (n := n) (f := fun j => Int32.ofInt (mem a j)) (i := Int32.ofInt i) (x := Int32.ofInt x) (rest := st.map (cv E)) hF.1 hF.2.1 hF.2.2.2.2.2.2.2.1.1 hw.1 wL_D hS a 2 ((wL_get hlt).trans (by rw [ent_arr hk (by decide)]; rfl)) rfl q1 hd (fun H1 locs1 hP1 _ hS1 => ?_)
  refine k r mem' ho p e R s m args below meth c hF H1 locs1 ls hL (okS_t (okS_t (okS_t hs))) ⟨?_, okm_mst hw.2 (by rw [hk]; exact hx)⟩ hS1
  rw [q2, e9, upd_mst] at hP1
  rw [← wL_set (mem := mem) (mem' := mst mem a i.toNat x) (k := a) hlt (by rw [ent_arr hk (by decide)]) (fun b hb => mst_row mem a i.toNat x hb)]
  exact hP1
theorem RO_last {a n : Nat} {i x : Int} (hk : ly_k a = (13, n)) (hn : n < 2147483648) (h0 : 0 ≤ i) (h1 : i < n) (hd : decode M.2.1 pc = .ok (.lastore, 1)) (k : RO E M o (pc + 1) lv st (mst mem a i.toNat x)) : RO E M o pc lv (vl x :: vi i :: rf a :: st) mem := by
  intro r mem' ho p e R s m args below meth c hF H locs ls hL hs hw hS
  have hlt := ly_lt hk (by omega)
  obtain ⟨q1, q2⟩ := of_ix hn h0 h1
  have hok : okL x := okS_h hs
  refine va_last (D := eD E) (cl := ly_cl) (tys := tyL E) (cA := eA E 13) (n := n) (f := fun j => Int64.ofInt (mem a j)) (i := Int32.ofInt i) (x := Int64.ofInt x) (rest := st.map (cv E)) hF.1 hF.2.1 hF.2.2.2.2.2.2.2.1.1 hw.1 wL_D hS a 1 ((wL_get hlt).trans (by rw [ent_arr hk (by decide)]; rfl)) rfl q1 hd (fun H1 locs1 hP1 _ hS1 => ?_)
  refine k r mem' ho p e R s m args below meth c hF H1 locs1 ls hL (okS_t (okS_t (okS_t hs))) ⟨?_, okm_mst hw.2 (by rw [hk]; exact hok)⟩ hS1
  rw [q2, updL_mst] at hP1
  rw [← wL_set (mem := mem) (mem' := mst mem a i.toNat x) (k := a) hlt (by rw [ent_arr hk (by decide)]) (fun b hb => mst_row mem a i.toNat x hb)]
  exact hP1
end Rows2
