/-! What is told between two calls stands in the first halves. -/
section Hf
variable {f : Int → Int → Int → Int}
theorem HlR_half {c d d' : Mm} {o : Nat} (h : HlR f c o d) (e : ∀ a, 205 ≤ a → a ≤ 220 → ∀ j, j < half a → d' a j = d a j) (e221 : d' 221 0 = d 221 0) (e222 : d' 222 0 = d 222 0) (e223 : ∀ j, j < 1000 → d' 223 j = d 223 j) (e250 : d' 250 = d 250) : HlR f c o d' := by
  obtain ⟨g1, g2, g3, g4, g5, g6, g7, g8, g9, g10, g11⟩ := h
  obtain ⟨n, wk, w250, p209, ho⟩ := g1
  have x : ∀ (a K : Nat) (i : Int), 205 ≤ a → a ≤ 220 → half a = K → 0 ≤ i → i < K → d' a i.toNat = d a i.toNat := fun a K i a0 a1 hK i0 i1 => e a a0 a1 _ (by omega)
  have n0 : d' 205 0 = d 205 0 := x 205 5 0 (by decide) (by decide) rfl (by decide) (by decide)
  have n1 : d' 205 1 = d 205 1 := x 205 5 1 (by decide) (by decide) rfl (by decide) (by decide)
  have n2 : d' 205 2 = d 205 2 := x 205 5 2 (by decide) (by decide) rfl (by decide) (by decide)
  have n3 : d' 205 3 = d 205 3 := x 205 5 3 (by decide) (by decide) rfl (by decide) (by decide)
  have n4 : d' 205 4 = d 205 4 := x 205 5 4 (by decide) (by decide) rfl (by decide) (by decide)
  have r6 : ∀ (a : Nat) (i : Int), ((210 ≤ a ∧ a ≤ 213) ∨ a = 215 ∨ (218 ≤ a ∧ a ≤ 220) ∨ (206 ≤ a ∧ a ≤ 208)) → 0 ≤ i → i < 6 → d' a i.toNat = d a i.toNat := fun a i ha i0 i1 => by
    refine x a 6 i (by omega) (by omega) ?_ i0 (by omega)
    have : a = 206 ∨ a = 207 ∨ a = 208 ∨ a = 210 ∨ a = 211 ∨ a = 212 ∨ a = 213 ∨ a = 215 ∨ a = 218 ∨ a = 219 ∨ a = 220 := by omega
    rcases this with rfl | rfl | rfl | rfl | rfl | rfl | rfl | rfl | rfl | rfl | rfl <;> rfl
  have r14 : ∀ i : Int, 0 ≤ i → i < 24 → d' 214 i.toNat = d 214 i.toNat := fun i i0 i1 => x 214 24 i (by decide) (by decide) rfl i0 (by omega)
  have r36 : ∀ (a : Nat) (i : Int), (a = 209 ∨ a = 216 ∨ a = 217) → 0 ≤ i → i < 36 → d' a i.toNat = d a i.toNat := fun a i ha i0 i1 => by
    rcases ha with rfl | rfl | rfl
    · exact x 209 36 i (by decide) (by decide) rfl i0 (by omega)
    · exact x 216 36 i (by decide) (by decide) rfl i0 (by omega)
    · exact x 217 36 i (by decide) (by decide) rfl i0 (by omega)
  refine ⟨⟨by rw [n0, n1, n2]; exact n, fun w w0 w1 => ?_, by rw [e250, n0]; exact w250, fun p q p0 p1 q0 q1 => ?_, fun h h0 h1 => ?_⟩, ?_, fun h h0 h1 => ?_, by rw [n3]; exact g4, by rw [n4]; exact g5, fun p q p0 p1 q0 q1 => ?_, fun i i0 i1 => ?_, fun i i0 i1 => ?_, fun i i0 i1 => ?_, g10, ?_⟩
  · rw [n1] at w1
    obtain ⟨a1, a2, a3, a4, a5, a6, a7, a8, a9, a10, b1, b2, b3⟩ := wk w w0 w1
    unfold WKo
    rw [r6 210 w (by omega) w0 (by omega), r6 211 w (by omega) w0 (by omega), r6 212 w (by omega) w0 (by omega), r6 213 w (by omega) w0 (by omega), r6 215 w (by omega) w0 (by omega), n0, n1]
    refine ⟨a1, a2, a3, a4, a5, a6, a7, a8, a9, a10, fun i i0 i1 => ?_, fun i i0 i1 => ?_, fun p p0 p1 => ?_⟩
    · rw [r14 _ (by omega) (by omega)]; exact b1 i i0 i1
    · rw [r14 _ (by omega) (by omega), r14 _ (by omega) (by omega)]; exact b2 i i0 i1
    · rw [r36 216 _ (by omega) (by omega) (by omega), r36 217 _ (by omega) (by omega) (by omega)]; exact b3 p p0 p1
  · rw [r36 209 _ (by omega) (by omega) (by omega)]; exact p209 p q p0 p1 q0 q1
  · rw [n2] at h1
    rw [r6 218 h (by omega) h0 (by omega), r6 219 h (by omega) h0 (by omega), r6 220 h (by omega) h0 (by omega), n0, n1]
    exact ho h h0 h1
  · obtain ⟨k1, k2, k3, k4, k5, k6⟩ := g2
    refine ⟨k1, by rw [n0]; exact k2, by rw [n1]; exact k3, by rw [n2]; exact k4, fun w w0 w1 => ?_, fun p q p0 p1 q0 q1 => ?_⟩
    · rw [n1] at w1
      have h215 := (wk w w0 w1).2.2.2.2.2.2.2.2.2.1
      obtain ⟨a1, a2, a3, a4, a5, a6, a7⟩ := k5 w w0 w1
      rw [r6 210 w (by omega) w0 (by omega), r6 211 w (by omega) w0 (by omega), r6 212 w (by omega) w0 (by omega), r6 213 w (by omega) w0 (by omega), r6 215 w (by omega) w0 (by omega)]
      refine ⟨a1, a2, a3, a4, a5, fun i i0 i1 => ?_, fun p p0 p1 => ?_⟩
      · rw [r14 _ (by omega) (by omega)]; exact a6 i i0 i1
      · rw [r36 216 _ (by omega) (by omega) (by omega), r36 217 _ (by omega) (by omega) (by omega)]; exact a7 p p0 p1
    · rw [n0] at p1 q1
      unfold wayS
      rw [e250]
      exact k6 p q p0 p1 q0 q1
  · rw [n2] at h1
    rw [r6 218 h (by omega) h0 (by omega), r6 219 h (by omega) h0 (by omega), r6 220 h (by omega) h0 (by omega)]
    exact g3 h h0 h1
  · rw [r36 209 _ (by omega) (by omega) (by omega)]; exact g6 p q p0 p1 q0 q1
  · rw [n0] at i1
    rw [r6 206 i (by omega) i0 (by omega)]; exact g7 i i0 i1
  · rw [n1] at i1
    rw [r6 207 i (by omega) i0 (by omega)]; exact g8 i i0 i1
  · rw [n2] at i1
    rw [r6 208 i (by omega) i0 (by omega)]; exact g9 i i0 i1
  · unfold LawM at g11 ⊢
    rw [e221, e222]
    intro m o s y q1 q2 q3
    exact g11 m o s y q1 q2 (fun j hj => (q3 j hj).trans (e223 j hj))
theorem RR_half {c d d' : Mm} (h : RR f c d) (e : ∀ a, 205 ≤ a → a ≤ 223 → ∀ j, j < half a → d' a j = d a j) (r : ∀ a, (a = 204 ∨ 226 ≤ a) → d' a = d a) (e1 : d' 203 1 = d 203 1) (e58 : d' 203 58 = d 203 58) : RR f c d' := by
  obtain ⟨r1, r2, r3, r4, r5, r6, r7, r8, r9, r10⟩ := h
  have n0 : d' 205 0 = d 205 0 := e 205 (by decide) (by decide) 0 (by decide)
  have n1 : d' 205 1 = d 205 1 := e 205 (by decide) (by decide) 1 (by decide)
  have n2 : d' 205 2 = d 205 2 := e 205 (by decide) (by decide) 2 (by decide)
  have st : ∀ sc S, StR c sc d S → StR c sc d' S := fun sc S z => by
    obtain ⟨z1, z2⟩ := z
    refine ⟨?_, ?_⟩
    · unfold StW at z1 ⊢
      rw [n2]; exact z1
    · unfold SD at z2 ⊢
      rw [n2, n1]; exact z2
  have ln : ∀ lb k, LnR c lb d k → LnR c lb d' k := fun lb k z => by
    unfold LnR at z ⊢
    rw [n1, n2, r 236 (by omega), r 237 (by omega), r 238 (by omega), r 239 (by omega)]; exact z
  have sn : ∀ b k, SnR c b d k → SnR c b d' k := fun b k z => by
    unfold SnR at z ⊢
    rw [n1, n0, r 240 (by omega), r 241 (by omega), r 242 (by omega), r 243 (by omega)]; exact z
  have td : ∀ b k, TdR c b d k → TdR c b d' k := fun b k z => by
    unfold TdR at z ⊢
    rw [n2, r 244 (by omega)]; exact z
  refine ⟨TpR_congr r1 rfl rfl e1 (r 204 (by omega)), r2, HlR_half r3 (fun a a0 a1 => e a a0 (by omega)) (e 221 (by decide) (by decide) 0 (by decide)) (e 222 (by decide) (by decide) 0 (by decide)) (fun j hj => e 223 (by decide) (by decide) j hj) (r 250 (by omega)), ?_, ln _ _ r5, sn _ _ r6, td _ _ r7, fun i i0 i1 => ?_, ?_, ?_⟩
  · rw [r 245 (by omega)]; exact st _ _ r4
  · obtain ⟨g1, g2, g3⟩ := r8 i i0 i1
    rw [r 249 (by omega)]
    refine ⟨g1, g2, fun z => ?_⟩
    obtain ⟨z1, z2, z3, z4⟩ := g3 z
    have er : rowS d' 247 i = rowS d 247 i := by unfold rowS; rw [r 247 (by omega)]
    rw [er]
    exact ⟨st _ _ z1, ln _ _ z2, sn _ _ z3, td _ _ z4⟩
  · obtain ⟨h1, h2, h3, h4, h5, h6⟩ := r9
    unfold UnR
    rw [e58]
    refine ⟨h1, h2, h3, h4, h5, fun i i0 i1 => ?_⟩
    have er : rowS d' 248 i = rowS d 248 i := by unfold rowS; rw [r 248 (by omega)]
    rw [er]
    exact st _ _ (h6 i i0 i1)
  · rw [r 243 (by omega)]; exact r10
/-- the tape is empty, and the spare hills are whatever they are -/
theorem RR_spare2 {c c' d : Mm} {s : Nat} (hR : RR f c d) (hs : (c 0 2 = 4 ∧ s = 41) ∨ (c 0 2 = 41 ∧ s = 4)) (hc : ∀ a, a < 203 → a ≠ 1 → a ≠ 3 → (a < s ∨ s + 36 < a) → c' a = c a) (h10 : c' 1 0 = 0) : RR f c' (mst d 203 1 0) := by
  obtain ⟨r1, r2, r3, r4, r5, r6, r7, r8, r9, r10⟩ := hR
  have q : ∀ a, (a < 203 ∧ a ≠ 1 ∧ a ≠ 3 ∧ (a < s ∨ s + 36 < a)) → c' a = c a := fun a z => hc a z.1 z.2.1 z.2.2.1 z.2.2.2
  have w : ∀ a, a ≠ 203 → mst d 203 1 0 a = d a := fun a ha => mst_ne ha
  refine ⟨?_, ?_, ?_, ?_, ?_, ?_, ?_, ?_, ?_, ?_⟩
  · unfold TpR
    rw [h10, mst_hit]
    exact ⟨rfl, by omega, by omega, fun i i0 i1 => by omega⟩
  · rw [q 0 (by omega)]; exact r2
  · rw [q 0 (by omega)]
    exact HlR_congr r3 (fun a a0 a1 a2 a3 => q a (by omega)) (fun j hj => by rw [q _ (by omega)]) (fun a a0 a1 => w a (by omega))
  · rw [w 245 (by omega)]
    exact StR_congr r4 (q _ (by omega)) (q _ (by omega)) (q _ (by omega)) (w 205 (by omega))
  · exact LnR_congr r5 (by rw [q _ (by omega)]) (q _ (by omega)) (q _ (by omega)) (q _ (by omega)) (w _ (by omega)) (w _ (by omega)) (w _ (by omega)) (w _ (by omega)) (w _ (by omega))
  · exact SnR_congr r6 (by rw [q _ (by omega)]) (by rw [q _ (by omega)]) (q _ (by omega)) (q _ (by omega)) (w _ (by omega)) (w _ (by omega)) (w _ (by omega)) (w _ (by omega)) (w _ (by omega))
  · exact TdR_congr r7 (q _ (by omega)) (w _ (by omega)) (w _ (by omega))
  · exact MkR_congr r8 (fun a a0 a1 => q a (by omega)) (fun a ha => w a (by omega))
  · exact UnR_congr r9 (by rw [q 0 (by omega)]) (by rw [q 0 (by omega)]) (fun a a0 a1 => q a (by omega)) (w _ (by omega)) (mst_miss (by decide)) (w _ (by omega))
  · rw [w 243 (by omega)]; exact r10
end Hf
