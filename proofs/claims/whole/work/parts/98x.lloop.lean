/-! The law's loop. -/
section Ll
variable {E : EE} {b L : Nat} {xs : Nat → Int32}
theorem swi_same (x lo : Int) (n : Nat) (o : Res) : swi x lo (List.replicate n o) o = o := by
  unfold swi
  split
  · rw [List.getD_eq_getElem?_getD, List.getElem?_replicate]
    split <;> rfl
  · rfl
theorem law_all {cl sl : Nat} {mem : Mm} {f : Int → Int → Int → Int} {i : Int} (hL : L ≤ 3584) (h0 : 0 ≤ i) (h1 : i + 6 < L) (hc : cl + 1 ≤ 601024) (hsl : sl + 6 ≤ 7293034) (hst : (eL E).stackTraces = false) (hR : RR f mem mem) (K : Nx E b L xs cl sl i) :
    ∀ t ∈ ([168, 315, 328, 341, 378, 415, 452, 489, 538, 575, 600, 637, 650, 663, 676, 701, 766, 791, 804, 829, 878, 927, 952, 989, 1026, 1118, 1167, 1220] : List Nat), RL E b L xs cl sl t (LV i) [] mem :=
  List.forall_mem_cons.mpr ⟨case_0 hL h0 h1 hc hsl hst hR K, List.forall_mem_cons.mpr ⟨case_1 hL h0 h1 hc hsl hst hR K, List.forall_mem_cons.mpr ⟨case_2 hL h0 h1 hc hsl hst hR K, List.forall_mem_cons.mpr ⟨case_3 hL h0 h1 hc hsl hst hR K, List.forall_mem_cons.mpr ⟨case_4 hL h0 h1 hc hsl hst hR K, List.forall_mem_cons.mpr ⟨case_5 hL h0 h1 hc hsl hst hR K, List.forall_mem_cons.mpr ⟨case_6 hL h0 h1 hc hsl hst hR K, List.forall_mem_cons.mpr ⟨case_7 hL h0 h1 hc hsl hst hR K, List.forall_mem_cons.mpr ⟨case_8 hL h0 h1 hc hsl hst hR K, List.forall_mem_cons.mpr ⟨case_9 hL h0 h1 hc hsl hst hR K, List.forall_mem_cons.mpr ⟨case_10 hL h0 h1 hc hsl hst hR K, List.forall_mem_cons.mpr ⟨case_11 hL h0 h1 hc hsl hst hR K, List.forall_mem_cons.mpr ⟨case_12 hL h0 h1 hc hsl hst hR K, List.forall_mem_cons.mpr ⟨case_13 hL h0 h1 hc hsl hst hR K, List.forall_mem_cons.mpr ⟨case_14 hL h0 h1 hc hsl hst hR K, List.forall_mem_cons.mpr ⟨case_15 hL h0 h1 hc hsl hst hR K, List.forall_mem_cons.mpr ⟨case_16 hL h0 h1 hc hsl hst hR K, List.forall_mem_cons.mpr ⟨case_17 hL h0 h1 hc hsl hst hR K, List.forall_mem_cons.mpr ⟨case_18 hL h0 h1 hc hsl hst hR K, List.forall_mem_cons.mpr ⟨case_19 hL h0 h1 hc hsl hst hR K, List.forall_mem_cons.mpr ⟨case_20 hL h0 h1 hc hsl hst hR K, List.forall_mem_cons.mpr ⟨case_21 hL h0 h1 hc hsl hst hR K, List.forall_mem_cons.mpr ⟨case_22 hL h0 h1 hc hsl hst hR K, List.forall_mem_cons.mpr ⟨case_23 hL h0 h1 hc hsl hst hR K, List.forall_mem_cons.mpr ⟨case_24 hL h0 h1 hc hsl hst hR K, List.forall_mem_cons.mpr ⟨case_25 hL h0 h1 hc hsl hst hR K, List.forall_mem_cons.mpr ⟨case_26 hL h0 h1 hc hsl hst hR K, List.forall_mem_cons.mpr ⟨case_27 hL h0 h1 hc hsl hst hR K, fun _ h => absurd h List.not_mem_nil⟩⟩⟩⟩⟩⟩⟩⟩⟩⟩⟩⟩⟩⟩⟩⟩⟩⟩⟩⟩⟩⟩⟩⟩⟩⟩⟩⟩
theorem law_loop (hL : L ≤ 3584) (hst : (eL E).stackTraces = false) : ∀ (n : Nat) (i : Int) (cl sl : Nat) (mem : Mm) (f : Int → Int → Int → Int), 0 ≤ i → (L : Int) < i + 7 * n + 7 → cl + n ≤ 601024 → sl + 6 * n ≤ 7293034 → RR f mem mem → i ≤ 3600 → RL E b L xs cl sl 23 (LV i) [] mem := by
  intro n
  induction n with
  | zero =>
    intro i cl sl mem f h0 h1 hc hs hR hi
    refine RG_iload dl_23 rfl ?_
    refine RG_ldS dl_25 rfl ?_
    refine RL_len hL dl_26 ?_
    refine RG_bipush dl_27 ?_
    refine RG_isub dl_29 ?_
    rw [w32_in (by omega) (by omega)]
    refine RG_gtT (tgt := 1251) (by omega) dl_30 rfl ?_
    exact RL_end (by omega) (by omega) dl_1251 dl_1252
  | succ n ih =>
    intro i cl sl mem f h0 h1 hc hs hR hi
    refine RG_iload dl_23 rfl ?_
    refine RG_ldS dl_25 rfl ?_
    refine RL_len hL dl_26 ?_
    refine RG_bipush dl_27 ?_
    refine RG_isub dl_29 ?_
    rw [w32_in (by omega) (by omega)]
    by_cases h : (L : Int) - 7 < i
    · refine RG_gtT (tgt := 1251) h dl_30 rfl ?_
      exact RL_end (by omega) (by omega) dl_1251 dl_1252
    · have K : Nx E b L xs cl sl i := by
        intro f' m' cl' sl' hc' hs' hR'
        refine RG_iinc dl_1245 rfl (by decide) ?_
        refine RG_goto (tgt := 23) dl_1248 rfl ?_
        rw [w32_in (by omega) (by omega)]
        refine RG_sub (lv' := LV (i + 7)) ⟨rfl, rfl, rfl, rfl, rfl, trivial⟩ ?_
        exact ih (i + 7) cl' sl' m' f' (by omega) (by omega) (by omega) (by omega) hR' (by omega)
      refine RG_gtF (tgt := 1251) h dl_30 rfl ?_
      refine RG_ldS dl_33 rfl ?_
      refine RG_iload dl_34 rfl ?_
      refine RL_ld h0 (by omega) hL dl_36 ?_
      refine RG_bipush dl_37 ?_
      refine RG_iand dl_39 ?_
      have hall := law_all (E := E) (xs := xs) (b := b) (cl := cl) (sl := sl) hL h0 (by omega) (by omega) (by omega) hst hR K
      have ht := RG_table (E := E) (M := mt_law) (cl := cl) (sl := sl) (Fx := FLW E b L xs) (Z := ZW) (pc := 40) (lv := LV i) (st := []) (mem := mem) (x := iand (xs i.toNat).toInt 31) (os := List.replicate 28 oW) (od := oW) (td := 1245) (ts := [168, 315, 328, 341, 378, 415, 452, 489, 538, 575, 600, 637, 650, 663, 676, 701, 766, 791, 804, 829, 878, 927, 952, 989, 1026, 1118, 1167, 1220]) dl_40 (by decide) (by decide) (by decide +kernel) (fun j t q h1 h2 => by
        have e : q = oW := List.eq_of_mem_replicate (List.mem_of_getElem? h2)
        rw [e]
        exact hall t (List.mem_of_getElem? h1)) (by decide) (K f mem cl sl (by omega) (by omega) hR)
      rw [swi_same] at ht
      exact ht
end Ll
