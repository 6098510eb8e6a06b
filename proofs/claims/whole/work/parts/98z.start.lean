/-! The law from its entry. -/
section Ls
theorem nw_at {m : Mm} {d : Nat → Int} {a : Nat} (h1 : a ≠ 1000) (h2 : a ≠ mN m) (j : Nat) : mnw m d a j = m a j := by
  unfold mnw
  rw [if_neg h1, if_neg h2]
theorem chkI_nw {m : Mm} {d : Nat → Int} (hN : mN m = 260) (h : chkI m = true) : chkI (mnw m d) = true := by
  have hb : (ini0.all fun q => decide (q.1 < 260)) = true := by decide +kernel
  unfold chkI at h ⊢
  refine List.all_eq_true.mpr (fun q hq => ?_)
  have h1 := List.all_eq_true.mp h q hq
  have h2 : q.1 < 260 := of_decide_eq_true (List.all_eq_true.mp hb q hq)
  rw [nw_at (by omega) (by omega)]
  exact h1
theorem chkZ_nw {m : Mm} {d : Nat → Int} (hN : mN m = 260) (h : chkZ m = true) : chkZ (mnw m d) = true := by
  have e : ∀ a j, a < 260 → mnw m d a j = m a j := fun a j ha => nw_at (by omega) (by omega) j
  have e2 : chkZ (mnw m d) = chkZ m := by
    unfold chkZ
    simp only [fun j => e 8 j (by decide), fun j => e 209 j (by decide), fun j => e 250 j (by decide), e 82 6 (by decide), e 221 0 (by decide), e 222 0 (by decide), e 236 0 (by decide), e 240 0 (by decide), e 14 2 (by decide), e 15 0 (by decide)]
  rw [e2]
  exact h
theorem lay_of {m : Mm} (h : chkL m 0 260 = true) {k : Nat} (hk : k < 260) : (∀ j t, (ly_tg (ly_k k).1)[j]? = some t → (ly_k k).1 < 12 → t.1 = 5 → m k j = (k : Int) + t.2) ∧ (∀ j, j < (ly_k k).2 → (ly_k k).1 = 16 ∨ (ly_k k).1 = 17 ∨ (ly_k k).1 = 18 → m k j = ((k + (raO (ly_k k).1).1 + (raO (ly_k k).1).2 * j : Nat) : Int)) := by
  unfold chkL at h
  have h1 := (List.all_eq_true.mp h) k (List.mem_range.mpr (by omega))
  simp only [Nat.zero_add] at h1
  refine ⟨fun j t hj hc h5 => ?_, fun j hj hq => ?_⟩
  · rw [if_pos hc] at h1
    have h2 := (List.all_eq_true.mp h1) j (List.mem_range.mpr (List.getElem?_eq_some_iff.mp hj).1)
    have e : (ly_tg (ly_k k).1).getD j (0, 0) = t := by rw [List.getD_eq_getElem?_getD, hj]; rfl
    simp only [e, h5] at h2
    rcases Bool.or_eq_true_iff.mp h2 with h3 | h3
    · exact absurd h3 (by decide)
    · exact of_decide_eq_true h3
  · rw [if_neg (by omega), if_neg (by omega)] at h1
    exact of_decide_eq_true ((List.all_eq_true.mp h1) j (List.mem_range.mpr hj))
theorem lay_nw {m : Mm} {d : Nat → Int} (hN : mN m = 260) (h : chkL m 0 260 = true) : ∀ k, k < 261 → (∀ j t, (ly_tg (ly_k k).1)[j]? = some t → (ly_k k).1 < 12 → t.1 = 5 → mnw m d k j = (k : Int) + t.2) ∧ (∀ j, j < (ly_k k).2 → (ly_k k).1 = 16 ∨ (ly_k k).1 = 17 ∨ (ly_k k).1 = 18 → mnw m d k j = ((k + (raO (ly_k k).1).1 + (raO (ly_k k).1).2 * j : Nat) : Int)) := by
  intro k hk
  by_cases h9 : k = 260
  · subst h9
    have e : (ly_k 260).1 = 13 := by decide +kernel
    refine ⟨fun j t _ hc _ => ?_, fun j _ hq => ?_⟩
    · omega
    · omega
  · have h1 := lay_of h (k := k) (by omega)
    refine ⟨fun j t hj hc h5 => ?_, fun j hj hq => ?_⟩
    · rw [nw_at (by omega) (by omega)]; exact h1.1 j t hj hc h5
    · rw [nw_at (by omega) (by omega)]; exact h1.2 j hj hq
theorem okm00 : okm mem00 := by
  intro k j
  have h0 : mem00 k j = 0 ∨ (k = 1 ∧ j = 2) := by
    unfold mem00
    by_cases h : k = 1 ∧ j = 2
    · exact Or.inr h
    · rw [if_neg h]; exact Or.inl rfl
  rcases h0 with h0 | ⟨rfl, rfl⟩
  · rw [h0]
    unfold okc
    by_cases hk : k < 261
    · split
      · rename_i hc
        by_cases hj : j < (ly_tg (ly_k k).1).length
        · have ht : ∀ ci, ci < 12 → ∀ j, j < (ly_tg ci).length → ((ly_tg ci).getD j (5, 0)).1 = 3 → ci = 7 ∧ j = 2 := by decide +kernel
          have hcell : ∀ k, k < 261 → (ly_k k).1 = 7 → k = 1 := by decide +kernel
          generalize hq : ((ly_tg (ly_k k).1).getD j (5, 0)).1 = q
          unfold okf
          split
          · exact okI_0
          · exact okL_0
          · trivial
          · have := ht _ hc j hj hq
            have h7 := hcell k hk this.1
            subst h7
            rw [this.2] at h0
            exact absurd h0 (by decide)
          · exact Or.inl rfl
          · trivial
        · have e1 : (ly_tg (ly_k k).1).getD j (5, 0) = (5, 0) := by rw [List.getD_eq_getElem?_getD, List.getElem?_eq_none (by omega)]; rfl
          rw [e1]
          trivial
      · split
        · exact okI_0
        · exact okL_0
        · exact ⟨by decide, by decide⟩
        · exact Or.inl rfl
        · trivial
    · have e : ly_k k = (99, 0) := by
        unfold ly_k
        rw [List.getD_eq_getElem?_getD, List.getElem?_eq_none (by have : ly_TY.length = 261 := by decide +kernel
                                                                  omega)]
        rfl
      rw [e]
      trivial
  · exact ⟨by decide, by decide⟩
theorem Wc00 {E : EE} {H : Heap} : Wc E mem00 H := by
  refine ⟨fun k q hk => ?_, okm00, by decide⟩
  have e : wR E mem00 = [] := rfl
  rw [e] at hk
  cases hk
theorem EV_w {E0 : EE} {s : State} (w : Nat → Nat) (hw : ∀ i, i < 32 → w i = eW E0 i) (h : EV E0 s) : EV (E0.1, E0.2.1, E0.2.2.1, E0.2.2.2.1, E0.2.2.2.2.1, w) s := by
  obtain ⟨k1, k2, k3, ⟨s1, s2, s3, s4, s5, s6⟩, k5⟩ := h
  refine ⟨k1, k2, k3, ⟨fun i hi => ?_, fun i j hi hj he => ?_, ?_, ?_, s5, ?_⟩, ?_⟩
  · have := s1 i hi
    rw [← hw i (by omega)] at this
    exact this
  · refine s2 i j hi hj ?_
    rw [← hw i (by omega), ← hw j (by omega)]
    exact he
  · have := s3
    rw [← hw 29 (by omega)] at this
    exact this
  · obtain ⟨cell, q1, q2, q3, q4, q5, q6, q7⟩ := s4
    rw [← hw 29 (by omega)] at q1 q7
    exact ⟨cell, q1, q2, q3, q4, q5, fun j hj => by rw [q6 j hj]; show some (Value.ref (eW E0 j)) = some (Value.ref (w j)); rw [hw j (by omega)], q7⟩
  · have := s6
    rw [← hw 30 (by omega), ← hw 31 (by omega)] at this
    exact this
  · have := k5
    rw [← hw 30 (by omega)] at this
    exact this
theorem exB_on {w : Cond} (h : exB w = true) : w.onTables = true := by
  cases w <;> first | rfl | (exact absurd h (by decide)) | cases h
theorem ex_lu : Cond.laysStatic Bundle.tN "UNASSIGNED_STACK" Bundle.steD ∈ tables_1 := by
  have h : (tables_1.any fun v => decide (v = Cond.laysStatic Bundle.tN "UNASSIGNED_STACK" Bundle.steD)) = true := by decide +kernel
  obtain ⟨v, v1, v2⟩ := List.any_eq_true.mp h
  rw [← of_decide_eq_true v2]; exact v1
theorem ex_ls : Cond.laysStatic Bundle.tN "SUPPRESSED_SENTINEL" Bundle.listD ∈ tables_1 := by
  have h : (tables_1.any fun v => decide (v = Cond.laysStatic Bundle.tN "SUPPRESSED_SENTINEL" Bundle.listD)) = true := by decide +kernel
  obtain ⟨v, v1, v2⟩ := List.any_eq_true.mp h
  rw [← of_decide_eq_true v2]; exact v1
theorem ex_it : Cond.initialized Bundle.tN ∈ tables_1 := List.mem_of_getElem? (i := 24) (by decide +kernel)
theorem ex_ru : Cond.isRef (.static Bundle.tN "UNASSIGNED_STACK" Bundle.steD) ∈ fl1 := by decide +kernel
theorem ex_rs : Cond.isRef (.static Bundle.tN "SUPPRESSED_SENTINEL" Bundle.listD) ∈ fl1 := by decide +kernel
theorem exF_start {E : EE} {s : State} {args : Array Value} (hts : ∀ w ∈ lw_tbl, w.before args s = true) (hfl : ∀ c ∈ fl1, c.before args s = true) (hB : eB E = s.heap.size) : exF E s := by
  have ht : ∀ w ∈ tables_1, w.before args s = true := fun w hw => hts w (List.mem_append_right _ hw)
  have hA : ∀ a : Nat, a < s.heap.size → ¬ nw E a := fun a ha q => by have : eB E ≤ a := q; omega
  exact ⟨fun w hw hb => va_Nw.of (exB_on hb) (ht w (ex_in w hw)), vx_Zqof (ht _ ex_lu) (ht _ ex_it) (hfl _ ex_ru) hA, vx_Zqof (ht _ ex_ls) (ht _ ex_it) (hfl _ ex_rs) hA⟩
theorem law_start {E : EE} {b L : Nat} {xs : Nat → Int32} (hL : L ≤ 3584) (hst : (eL E).stackTraces = false) : RP E b L xs 0 [(0, vk 32)] [] mem00 := by
  obtain ⟨m1, m2, h1, h2, n1, n2, hl, hi⟩ := ini_mem
  have hz := iniZ_of h1 h2
  refine RP_new (idx := 8) (ci := 10) (n := 19) (by decide) rfl rfl xcl_8 ei_10 xit_10 dl_0 ?_
  show RP E b L xs 3 [(0, vk 32)] [rf 0] (mnw mem00 (dfO 10))
  refine RP_dup dl_3 ?_
  refine RP_init (t1 := 203) xmi_Clock_init xii_Clock_init rfl xml_15 (by rw [mN_nw]; decide) (by decide) (by decide) (Nat.le_of_ble_eq_true rfl) dl_4 (pc_Clock_init 203 0 _ h1) (fun _ => ?_)
  refine RP_astore_n (i := 1) dl_7 rfl (by decide) ?_
  refine RP_new (idx := 16) (ci := 11) (n := 72) (by decide) rfl (by rw [n1]; rfl) xcl_16 ei_11 xit_11 dl_8 ?_
  rw [n1]
  refine RP_dup dl_11 ?_
  refine RP_init (t1 := 260) xmi_Model_init xii_Model_init rfl xml_18 (by rw [mN_nw, n1]; decide) (by decide) (by decide) (Nat.le_of_ble_eq_true rfl) dl_12 (pc_Model_init 260 203 _ h2) (fun _ => ?_)
  refine RP_astore_n (i := 2) dl_15 rfl (by decide) ?_
  refine RP_iconst dl_16 ?_
  refine RP_newaJ (n := 1) rfl (by decide) (by rw [n2]; rfl) dl_17 ?_
  rw [n2]
  refine RP_astore_n (i := 3) dl_19 rfl (by decide) ?_
  refine RP_iconst dl_20 ?_
  refine RP_istore dl_21 (by decide) ?_
  have n3 : mN (mnw m2 (fun _ => 0)) = 261 := by rw [mN_nw, n2]
  refine RP_end n3 (fun H hw => Wd_of hw n3 (lay_nw n2 hl)) (fun hok => ?_)
  have h243 : ∀ j, mnw m2 (fun _ => 0) 243 j = 0 ∨ mnw m2 (fun _ => 0) 243 j = 1 := fun j => hok 243 j
  have a1 : (L : Int) < 0 + 7 * ((513 : Nat) : Int) + 7 := by omega
  have a2 : 261 + 513 ≤ 601024 := by decide
  have a3 : cS 261 + 6 * 513 ≤ 7293034 := Nat.le_trans (Nat.add_le_add_right cS_261 _) (by decide)
  exact law_loop hL hst 513 0 261 (cS 261) _ _ (by decide) a1 a2 a3 (RR_ini (chkI_nw n2 hi) (chkZ_nw n2 hz) h243) (by decide)
theorem whole_start {p : Program} {e : Env} {s : State} {m : MethodId} {below : List Frame} {meth : Method} {c : Code} (l : Launch) (hflags : l.flags = flags0) {b L : Nat} {xs : Nat → Int32} (hL : L ≤ 3584) (C0 : lw_At p s m meth c b L xs) : W p l e room_1 s m #[Value.ref b] below meth c s.heap [] 0 0 (lw_Z below #[Value.ref b] s) (entryFrame m ([Value.ref b] : List Value).toArray 7) := by
  obtain ⟨hx, hb, hr, hml, hown, hts, hX, hbl, hlocks, hgv⟩ := C0
  have hfl : ∀ c ∈ fl1, c.before #[Value.ref b] s = true := flat_of_before _ hgv
  have main : ∀ E : EE, eL E = l → eB E = s.heap.size → eW E 32 = b → EV E s → AO3 s → W p l e room_1 s m #[Value.ref b] below meth c s.heap [] 0 0 (lw_Z below #[Value.ref b] s) (entryFrame m ([Value.ref b] : List Value).toArray 7) := by
    intro E e1 e2 e3 hev hao
    have hst : (eL E).stackTraces = false := by
      rw [e1]
      unfold Launch.stackTraces
      rw [hflags]
      decide
    subst e1
    subst e3
    have hl := lv_entry ([vk 32].map (cv E)) (n := 7) (by rw [sl_len]; exact Nat.le_of_ble_eq_true rfl)
    rw [lg_entry_eq]
    exact law_start hL hst p e room_1 s m #[Value.ref (eW E 32)] below meth c ⟨hx, hb, hml, hr, hown, fun w hw => hts w (List.mem_filter.mp hw).1, hlocks, hev⟩ ⟨rfl, e2, rfl, hX, hbl, exF_start hts hfl e2, rfl, hst⟩ hao s.heap [] _ ⟨hl.1, hl.2.1, fun i v hg => ⟨hl.2.2 _ (args_mem E [vk 32] 0 i v (lget_mem hg)), by
      have := args_ok [vk 32] 0 i v (lget_mem hg)
      rw [List.mem_singleton.mp this]
      trivial⟩⟩ (fun v hv => by cases hv) Wc00 va_S.rf
  obtain ⟨E0, e1, e2, hev, hao⟩ := ev_start l hts hfl
  exact main (E0.1, E0.2.1, E0.2.2.1, E0.2.2.2.1, E0.2.2.2.2.1, fun k => if k = 32 then b else eW E0 k) e1 e2 rfl (EV_w _ (fun i hi => if_neg (by omega)) hev) hao
end Ls
