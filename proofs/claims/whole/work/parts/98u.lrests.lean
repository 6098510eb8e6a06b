/-! The law's call of its own rests. -/
section Lx
variable {E : EE} {b L : Nat} {xs : Nat → Int32} {cl sl : Nat} {pc : Nat} {lv : List (Nat × VV)} {st : List VV} {mem : Mm}
theorem RL_rests {p1 p2 p3 p4 r1 : Int} {mem1 : Mm} {rest : List VV} (hc : cl + 1 ≤ 601024) (hsl : sl + 6 ≤ 7293034) (hst : (eL E).stackTraces = false) (hr : argsW rest ≤ 8) (hd : decode code pc = .ok (.invokestatic 126, 3)) (h1 : fn_Law_rests p1 p2 p3 p4 mem = some (r1, mem1))
    (k : RL E b L xs (cl + 1) (sl + 6) (pc + 3) lv (vi r1 :: rest) mem1) : RL E b L xs cl sl pc lv ([rf 0, vi p1, vi p2, vi p3, vi p4, rf 260].reverse ++ rest) mem := by
  intro r mem' ho p e R s m args below meth c hF hFx H locs ls hL hs hw hS
  obtain ⟨hR, -, -, -, -, hx, -, -⟩ := id hFx
  obtain ⟨okA, okR⟩ := okS_rev hs
  have hts := hF.2.2.2.2.2.1
  have hst2 : ([rf 0, vi p1, vi p2, vi p3, vi p4, rf 260].reverse ++ rest).map (cv E) = ([rf 0, vi p1, vi p2, vi p3, vi p4, rf 260].map (cv E)).reverse ++ rest.map (cv E) := by rw [List.map_append, List.map_reverse]
  rw [hst2]
  have hcw : vx_CSW R s args "HillClockLaw" 126 yn_Law_rests cd_Law_rests 7 (some .int) hh_Law_rests (.codeWith yn_Law_rests cd_Law_rests 7 (some .int) hh_Law_rests :: TBL) (rmY 7) 1 6 6 := by
    refine ⟨⟨rfl, rfl, ?_, ?_, ?_, List.mem_cons_self⟩, hts _ cw_Law_rests, hts _ in_Law, ⟨by decide, by decide⟩, ?_, hts _ ml_Law_126, hts _ ms_Law_rests⟩
    · rw [hR]; decide
    · rw [hR]; decide
    · intro w hw a' U hW
      rcases List.mem_cons.mp hw with rfl | hw
      · exact tb_pay hts cw_Law_rests a' U hW
      · exact tb_pay hts hw a' U hW
    · intro sig h
      have h2 : (parseMethodDescriptor yn_Law_rests.desc).map (fun d => d.parameters.length) = some 6 := by decide +kernel
      rw [h] at h2
      exact (Option.some.inj h2).symm
  have hrun := vx_runSX (nL := mt_law.2.2.1) (As := [rf 0, vi p1, vi p2, vi p3, vi p4, rf 260].map (cv E)) (rest := rest.map (cv E)) (H := H) (locs := locs) (cells := cl) (slots := sl) (g := F0 m pc ls (([rf 0, vi p1, vi p2, vi p3, vi p4, rf 260].map (cv E)).reverse ++ rest.map (cv E))) (p := p) (e := e) (below := below) (meth := meth) (c := c) ⟨hF.1, hF.2.1, hF.2.2.1, hF.2.2.2.2.1, hF.2.2.2.2.2.1⟩ (pf_Law_rests hst p1 p2 p3 p4 mem h1) hcw ⟨PcY_blind, fun U hU hW => ⟨rfl, okA, by rw [hU]; exact hw, EV_atG hF hS hU hW, exF_move hx hW (fun a h1 h2 => by rw [hU]; exact hS.2.1 a h1 h2)⟩⟩ rfl rfl hL.1 rfl (by show 2 * 0 + _ ≤ 8; rw [cat_sum]; omega) hd ⟨by rw [hR]; exact hc, by rw [hR]; exact hsl⟩
  intro T hT Xt
  rcases hrun T hT Xt with ⟨v, st₀, t, T', L9, h0, X', hL', e1, e2, ⟨hv, hok, hw1, hF1⟩, stp⟩ | ⟨q, st₀, t, T', L9, E', ce, h0, X', hL', e1, e2, hno, -⟩
  · cases hv
    have keep : va_S (nw E) s.heap T'.heap (locs ++ L9) := by
      obtain ⟨hz, hk⟩ := hF1
      rw [h0] at hz hk
      exact ⟨Nat.le_trans hS.1 (by rw [e1]; exact hz), fun q h1 h2 => by rw [e1, hk q (Nat.lt_of_lt_of_le h1 hS.1) h2]; exact hS.2.1 q h1 h2, fun q hq => by
        rcases List.mem_append.mp hq with h | h
        · exact hS.2.2 q h
        · exact hL' q h⟩
    obtain ⟨t2, a1, b1⟩ := k r mem' ho p e R s m args below meth c hF hFx T'.heap (locs ++ L9) ls hL (okS_i hok okR) (by rw [e1]; exact hw1) keep T' rfl X'
    exact ⟨t2, stp t2 a1, b1⟩
  · exact hno.elim
end Lx
