/-! 'throw new NoSuchElementException()' in the class. -/
section Et
variable {E : EE} {M : MT} {pc d : Nat} {lv : List (Nat × VV)} {mem : Mm}
theorem ex_words {p : Program} {R : Room} {s : State} {m : MethodId} {args : Array Value} {meth : Method} {c : Code} (hF : FrG E M p R s m args meth c) (hx : exF E s) : ∀ w ∈ exL, w.before args s = true := fun w hw => by
  have h := List.all_eq_true.mp ex_gb w hw
  rcases Bool.or_eq_true_iff.mp h with g | g
  · exact hF.2.2.2.2.2.1 w (List.mem_filter.mpr ⟨List.mem_append_right _ (ex_in w hw), g⟩)
  · exact vx_ot_at (State.WarmedH.refl s) rfl (List.all_eq_true.mp ex_ot w hw) (hx.1 w hw g)
theorem RG_throwY (hM : M.1 = "HillClock") (d6 : 6 ≤ d) (d0 : decode M.2.1 pc = .ok (.new 308, 3)) (d3 : decode M.2.1 (pc + 3) = .ok (.dup, 1)) (d4 : decode M.2.1 (pc + 4) = .ok (.invokespecial 310, 3)) (d7 : decode M.2.1 (pc + 7) = .ok (.athrow, 1)) : RG E M 0 0 (FY E d) (ZY E) (some (THR, mem)) pc lv [] mem := by
  intro r mem' ho p e R s m args below meth c hF hFx H locs ls hL hs hw hS
  cases ho
  have hw2 := ex_words hF hFx.2.2.1
  have hk : meth.locks = false := hF.2.2.2.2.2.2.1
  obtain ⟨hR, ht, hX, hst⟩ := hFx
  subst hR
  refine vx_throw0 (own := "HillClock") (cls := exN) (names := exU) (ik := 308) (ic := 310) (mc := 1) (ms := 6) (A := nw E) hF.1 hF.2.1 hst ?_ ?_ ?_ ?_ ?_ ?_ ?_ hX.2.1 hX.2.2 hS ?_ d0 d3 d4 d7 (fun x hx => (ht x hx).elim) ?_ ?_ ?_ ?_ hk ?_ hS.2.2 (by decide) (by decide)
  · rw [← hM]; exact hF.2.2.2.2.1
  · decide +kernel
  · decide +kernel
  · exact hw2 _ List.mem_cons_self
  · exact hw2 _ (List.mem_cons_of_mem _ List.mem_cons_self)
  · exact fun w h => hw2 w (List.mem_cons_of_mem _ (List.mem_cons_of_mem _ h))
  · exact fun w h => List.all_eq_true.mp ex_ot w h
  · rw [hF.2.2.1]; exact hL.1
  · show 2 + 3 < d; omega
  · show 0 + (13 * (2 + 1) + 42) ≤ 40 * d; omega
  · exact Nat.le_refl _
  · exact Nat.le_refl _
  · intro t hal hsz heq
    refine ⟨rfl, rfl, ⟨hw.1.kept (fun k q hk => heq _ (hw.1 k q hk).lt), hw.2⟩, ⟨Nat.le_trans hS.1 hsz, fun q h1 h2 => (heq q (Nat.lt_of_lt_of_le h1 hS.1)).trans (hS.2.1 q h1 h2)⟩⟩
end Et
