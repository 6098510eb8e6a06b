/-! What ties the class to the reference between two calls. -/
section Rl
def TpR (c d : Mm) : Prop := c 1 0 = d 203 1 ∧ 0 ≤ c 1 0 ∧ c 1 0 ≤ 1000 ∧ ∀ i : Int, 0 ≤ i → i < c 1 0 → c 2 i.toNat = d 204 i.toNat ∧ (c 2 i.toNat = 10 ∨ (32 ≤ c 2 i.toNat ∧ c 2 i.toNat ≤ 126))
/-- a name, packed by either side -/
def pk (b : Int) (l : List Int) : Int := l.foldl (fun a x => a * b + x) 0
def NmR (x y : Int) : Prop := ∃ l : List Int, l.length ≤ 8 ∧ (∀ a, a ∈ l → 1 ≤ a ∧ a ≤ 26) ∧ x = pk 32 l ∧ y = pk 27 l
def NsR (c : Mm) (a : Nat) (n : Int) (d : Mm) (b : Nat) : Prop := ∀ i : Int, 0 ≤ i → i < n → NmR (c a i.toNat) (d b i.toNat)
def HlR (f : Int → Int → Int → Int) (c : Mm) (hc : Nat) (d : Mm) : Prop := HD d ∧ HW c hc d ∧ HX c hc d ∧ c hc 3 = d 205 3 ∧ c hc 4 = d 205 4
  ∧ (∀ p q : Int, 0 ≤ p → p < 6 → 0 ≤ q → q < 6 → c (hc + 4) (6 * p + q).toNat = d 209 (6 * p + q).toNat)
  ∧ NsR c (hc + 1) (d 205 0) d 206 ∧ NsR c (hc + 2) (d 205 1) d 207 ∧ NsR c (hc + 3) (d 205 2) d 208 ∧ LawC f c (hc + 10) ∧ LawM f d
def StW (c : Mm) (sc : Nat) (H : Mm) (S : Nat → Int) : Prop :=
  c sc 0 = S 0 ∧ c sc 1 = S 1 ∧ c sc 2 = S 2 ∧ c sc 3 = S 3 ∧ (∀ w : Int, 0 ≤ w → w < 6 → c (sc + 1) w.toNat = S (4 + w).toNat ∧ S (4 + w).toNat ≤ 60) ∧ (∀ h : Int, 0 ≤ h → h < H 205 2 → c (sc + 2) h.toNat = S (10 + h).toNat)
theorem StW_SW {c H : Mm} {S : Nat → Int} {sc : Nat} (hs : sc = 83 ∨ sc = 95) (h : StW c sc H S) : SW c sc H S := ⟨hs, h.1, h.2.1, h.2.2.1, h.2.2.2.1, fun w w0 w1 => (h.2.2.2.2.1 w w0 w1).1, h.2.2.2.2.2⟩
def StR (c : Mm) (sc : Nat) (d : Mm) (S : Nat → Int) : Prop := StW c sc d S ∧ SD d S
def LnR (c : Mm) (lb : Nat) (d : Mm) (k : Int) : Prop := c lb 0 = d 236 k.toNat ∧ 0 ≤ d 236 k.toNat ∧ d 236 k.toNat ≤ 30 ∧ ∀ i : Int, 0 ≤ i → i < d 236 k.toNat →
  c (lb + 1) i.toNat = d 237 (30 * k + i).toNat ∧ 0 ≤ d 237 (30 * k + i).toNat ∧ d 237 (30 * k + i).toNat ≤ 4
  ∧ (d 237 (30 * k + i).toNat = 0 → c (lb + 2) i.toNat = d 238 (30 * k + i).toNat ∧ c (lb + 3) i.toNat = d 239 (30 * k + i).toNat ∧ 0 ≤ d 238 (30 * k + i).toNat ∧ d 238 (30 * k + i).toNat < d 205 1 ∧ 0 ≤ d 239 (30 * k + i).toNat ∧ d 239 (30 * k + i).toNat ≤ 60)
  ∧ (d 237 (30 * k + i).toNat = 1 → c (lb + 2) i.toNat = d 238 (30 * k + i).toNat ∧ 0 ≤ d 238 (30 * k + i).toNat ∧ d 238 (30 * k + i).toNat < d 205 1)
  ∧ (d 237 (30 * k + i).toNat = 2 → c (lb + 3) i.toNat = d 238 (30 * k + i).toNat ∧ c (lb + 2) i.toNat = d 239 (30 * k + i).toNat ∧ 0 ≤ d 238 (30 * k + i).toNat ∧ d 238 (30 * k + i).toNat < d 205 2 ∧ 0 ≤ d 239 (30 * k + i).toNat ∧ d 239 (30 * k + i).toNat < d 205 1)
def SnR (c : Mm) (sb : Nat) (d : Mm) (k : Int) : Prop := c sb 3 = d 240 k.toNat ∧ 0 ≤ d 240 k.toNat ∧ d 240 k.toNat ≤ 8 ∧ 0 ≤ c sb 6 ∧ c sb 6 < 256 ∧ ∀ i : Int, 0 ≤ i → i < d 240 k.toNat →
  c (sb + 8) i.toNat = d 241 (8 * k + i).toNat ∧ c (sb + 9) i.toNat = d 242 (8 * k + i).toNat ∧ bt (c sb 6) i = d 243 (8 * k + i).toNat ∧ 0 ≤ d 241 (8 * k + i).toNat ∧ d 241 (8 * k + i).toNat < d 205 1 ∧ 0 ≤ d 242 (8 * k + i).toNat ∧ d 242 (8 * k + i).toNat < d 205 0
def TdR (c : Mm) (tb : Nat) (d : Mm) (k : Int) : Prop := ∀ h : Int, 0 ≤ h → h < d 205 2 → c tb h.toNat = d 244 (6 * k + h).toNat ∧ -2 ≤ d 244 (6 * k + h).toNat ∧ d 244 (6 * k + h).toNat ≤ 239
def rowS (d : Mm) (a : Nat) (k : Int) : Nat → Int := fun j => d a (16 * k + j).toNat
def MkR (c d : Mm) : Prop := ∀ i : Int, 0 ≤ i → i < 4 → c (11 * i.toNat + 111) 0 = d 249 i.toNat ∧ (d 249 i.toNat = 0 ∨ d 249 i.toNat = 1) ∧ (d 249 i.toNat = 1 → StR c (11 * i.toNat + 112) d (rowS d 247 i) ∧ LnR c (11 * i.toNat + 115) d (1 + i) ∧ SnR c (11 * i.toNat + 111) d (1 + i) ∧ TdR c (11 * i.toNat + 121) d (1 + i))
def UnR (c d : Mm) : Prop := c 0 9 = d 203 58 ∧ 0 ≤ d 203 58 ∧ d 203 58 ≤ 16 ∧ 0 ≤ c 0 8 ∧ c 0 8 < 16 ∧ ∀ i : Int, 0 ≤ i → i < d 203 58 → StR c (3 * ((c 0 8 + i) % 16).toNat + 155) d (rowS d 248 i)
def RR (f : Int → Int → Int → Int) (c d : Mm) : Prop :=
  TpR c d ∧ ((c 0 2 = 4 ∧ c 0 3 = 41) ∨ (c 0 2 = 41 ∧ c 0 3 = 4)) ∧ HlR f c (c 0 2).toNat d ∧ StR c 83 d (d 245) ∧ LnR c 86 d 0 ∧ SnR c 82 d 0 ∧ TdR c 92 d 0 ∧ MkR c d ∧ UnR c d ∧ ∀ j, d 243 j = 0 ∨ d 243 j = 1
/-! What may change without a word. -/
def FQ (c c' : Mm) : Prop := (∀ a, a < 203 → a ≠ 0 → (a < 95 ∨ 110 < a) → a ≠ 14 → a ≠ 16 → a ≠ 51 → a ≠ 53 → c' a = c a) ∧ (∀ j, j < 17 → c' 0 j = c 0 j) ∧ (∀ j, j ≠ 3 → c' 14 j = c 14 j) ∧ (∀ j, j ≠ 3 → c' 51 j = c 51 j)
def FQM (d d' : Mm) : Prop := (∀ a, 204 ≤ a → (a < 226 ∨ 236 ≤ a) → a ≠ 246 → a < 251 → d' a = d a) ∧ d' 203 1 = d 203 1 ∧ d' 203 58 = d 203 58
theorem FQ_refl {c : Mm} : FQ c c := ⟨fun _ _ _ _ _ _ _ _ => rfl, fun _ _ => rfl, fun _ _ => rfl, fun _ _ => rfl⟩
theorem FQM_refl {c : Mm} : FQM c c := ⟨fun _ _ _ _ _ => rfl, rfl, rfl⟩
theorem FQ_trans {a b c : Mm} (h : FQ a b) (h' : FQ b c) : FQ a c := ⟨fun x o p q r s t u => (h'.1 x o p q r s t u).trans (h.1 x o p q r s t u), fun j p => (h'.2.1 j p).trans (h.2.1 j p), fun j p => (h'.2.2.1 j p).trans (h.2.2.1 j p), fun j p => (h'.2.2.2 j p).trans (h.2.2.2 j p)⟩
theorem FQM_trans {a b c : Mm} (h : FQM a b) (h' : FQM b c) : FQM a c := ⟨fun x p q r s => (h'.1 x p q r s).trans (h.1 x p q r s), h'.2.1.trans h.2.1, h'.2.2.trans h.2.2⟩
theorem HD_congr {d d' : Mm} (h : HD d) (e : ∀ a, 205 ≤ a → a ≤ 223 ∨ a = 250 → d' a = d a) : HD d' := by
  unfold HD WKo at h ⊢
  rw [e 205 (by omega) (by omega), e 209 (by omega) (by omega), e 210 (by omega) (by omega), e 211 (by omega) (by omega), e 212 (by omega) (by omega), e 213 (by omega) (by omega), e 214 (by omega) (by omega), e 215 (by omega) (by omega), e 216 (by omega) (by omega), e 217 (by omega) (by omega), e 218 (by omega) (by omega), e 219 (by omega) (by omega), e 220 (by omega) (by omega), e 250 (by omega) (by omega)]
  exact h
theorem HW_d {c d d' : Mm} {hc : Nat} (h : HW c hc d) (e : ∀ a, 205 ≤ a → a ≤ 223 ∨ a = 250 → d' a = d a) : HW c hc d' := by
  unfold HW wayS at h ⊢
  rw [e 205 (by omega) (by omega), e 210 (by omega) (by omega), e 211 (by omega) (by omega), e 212 (by omega) (by omega), e 213 (by omega) (by omega), e 214 (by omega) (by omega), e 215 (by omega) (by omega), e 216 (by omega) (by omega), e 217 (by omega) (by omega), e 250 (by omega) (by omega)]
  exact h
theorem HX_d {c d d' : Mm} {hc : Nat} (h : HX c hc d) (e : ∀ a, 205 ≤ a → a ≤ 223 ∨ a = 250 → d' a = d a) : HX c hc d' := by
  unfold HX at h ⊢
  rw [e 205 (by omega) (by omega), e 218 (by omega) (by omega), e 219 (by omega) (by omega), e 220 (by omega) (by omega)]
  exact h
theorem LawM_d {f : Int → Int → Int → Int} {d d' : Mm} (h : LawM f d) (e : ∀ a, 205 ≤ a → a ≤ 223 ∨ a = 250 → d' a = d a) : LawM f d' := by
  have e1 := e 221 (by omega) (by omega)
  have e2 := e 222 (by omega) (by omega)
  have e3 := e 223 (by omega) (by omega)
  unfold LawM at h ⊢
  rw [e1, e2, e3]
  exact h
theorem HlR_congr {f : Int → Int → Int → Int} {c c' d d' : Mm} {hc : Nat} (h : HlR f c hc d) (hq : ∀ a, hc ≤ a → a ≤ hc + 36 → a ≠ hc + 10 → a ≠ hc + 12 → c' a = c a) (hq2 : ∀ j, j ≠ 3 → c' (hc + 10) j = c (hc + 10) j) (e : ∀ a, 205 ≤ a → a ≤ 223 ∨ a = 250 → d' a = d a) : HlR f c' hc d' := by
  obtain ⟨h1, h2, h3, h4, h5, h6, h7, h8, h9, h10, h11⟩ := h
  have hn := h1.1
  refine ⟨HD_congr h1 e, HW_d (HW_congr (by omega) h2 (fun a a0 a1 a2 => hq a a0 a1 (by omega) (by omega))) e, HX_d (HX_congr h3 (fun a a0 a1 => hq a (by omega) (by omega) (by omega) (by omega))) e, ?_, ?_, ?_, ?_, ?_, ?_, LawC_congr h10 (hq2 2 (by omega)) (hq _ (by omega) (by omega) (by omega) (by omega)), LawM_d h11 e⟩
  · rw [hq hc (by omega) (by omega) (by omega) (by omega), e 205 (by omega) (by omega)]; exact h4
  · rw [hq hc (by omega) (by omega) (by omega) (by omega), e 205 (by omega) (by omega)]; exact h5
  · rw [hq (hc + 4) (by omega) (by omega) (by omega) (by omega), e 209 (by omega) (by omega)]; exact h6
  · unfold NsR at h7 ⊢
    rw [hq (hc + 1) (by omega) (by omega) (by omega) (by omega), e 205 (by omega) (by omega), e 206 (by omega) (by omega)]; exact h7
  · unfold NsR at h8 ⊢
    rw [hq (hc + 2) (by omega) (by omega) (by omega) (by omega), e 205 (by omega) (by omega), e 207 (by omega) (by omega)]; exact h8
  · unfold NsR at h9 ⊢
    rw [hq (hc + 3) (by omega) (by omega) (by omega) (by omega), e 205 (by omega) (by omega), e 208 (by omega) (by omega)]; exact h9
theorem StW_congr {c c' d d' : Mm} {S : Nat → Int} {sc : Nat} (h : StW c sc d S) (e0 : c' sc = c sc) (e1 : c' (sc + 1) = c (sc + 1)) (e2 : c' (sc + 2) = c (sc + 2)) (e3 : d' 205 = d 205) : StW c' sc d' S := by
  unfold StW at h ⊢
  rw [e0, e1, e2, e3]
  exact h
theorem SD_congr {d d' : Mm} {S : Nat → Int} (h : SD d S) (e3 : d' 205 = d 205) : SD d' S := by
  unfold SD at h ⊢
  rw [e3]
  exact h
theorem StR_congr {c c' d d' : Mm} {S : Nat → Int} {sc : Nat} (h : StR c sc d S) (e0 : c' sc = c sc) (e1 : c' (sc + 1) = c (sc + 1)) (e2 : c' (sc + 2) = c (sc + 2)) (e3 : d' 205 = d 205) : StR c' sc d' S := ⟨StW_congr h.1 e0 e1 e2 e3, SD_congr h.2 e3⟩
theorem LnR_congr {c c' d d' : Mm} {lb : Nat} {k : Int} (h : LnR c lb d k) (e0 : c' lb 0 = c lb 0) (e1 : c' (lb + 1) = c (lb + 1)) (e2 : c' (lb + 2) = c (lb + 2)) (e3 : c' (lb + 3) = c (lb + 3)) (e4 : d' 205 = d 205) (e5 : d' 236 = d 236) (e6 : d' 237 = d 237) (e7 : d' 238 = d 238) (e8 : d' 239 = d 239) : LnR c' lb d' k := by
  unfold LnR at h ⊢
  rw [e0, e1, e2, e3, e4, e5, e6, e7, e8]
  exact h
theorem SnR_congr {c c' d d' : Mm} {sb : Nat} {k : Int} (h : SnR c sb d k) (e0 : c' sb 3 = c sb 3) (e1 : c' sb 6 = c sb 6) (e2 : c' (sb + 8) = c (sb + 8)) (e3 : c' (sb + 9) = c (sb + 9)) (e4 : d' 205 = d 205) (e5 : d' 240 = d 240) (e6 : d' 241 = d 241) (e7 : d' 242 = d 242) (e8 : d' 243 = d 243) : SnR c' sb d' k := by
  unfold SnR at h ⊢
  rw [e0, e1, e2, e3, e4, e5, e6, e7, e8]
  exact h
theorem TdR_congr {c c' d d' : Mm} {tb : Nat} {k : Int} (h : TdR c tb d k) (e0 : c' tb = c tb) (e4 : d' 205 = d 205) (e5 : d' 244 = d 244) : TdR c' tb d' k := by
  unfold TdR at h ⊢
  rw [e0, e4, e5]
  exact h
theorem TpR_congr {c c' d d' : Mm} (h : TpR c d) (e0 : c' 1 0 = c 1 0) (e1 : c' 2 = c 2) (e4 : d' 203 1 = d 203 1) (e5 : d' 204 = d 204) : TpR c' d' := by
  unfold TpR at h ⊢
  rw [e0, e1, e4, e5]
  exact h
theorem MkR_congr {c c' d d' : Mm} (h : MkR c d) (e0 : ∀ a, 111 ≤ a → a < 155 → c' a = c a) (e4 : ∀ a, (a = 205 ∨ 236 ≤ a ∧ a ≤ 249 ∧ a ≠ 245 ∧ a ≠ 246 ∧ a ≠ 248) → d' a = d a) : MkR c' d' := by
  intro i i0 i1
  obtain ⟨h1, h2, h3⟩ := h i i0 i1
  have e249 := e4 249 (by omega)
  have e247 := e4 247 (by omega)
  rw [e249, e0 (11 * i.toNat + 111) (by omega) (by omega)]
  refine ⟨h1, h2, fun z => ?_⟩
  obtain ⟨z1, z2, z3, z4⟩ := h3 z
  have er : rowS d' 247 i = rowS d 247 i := by unfold rowS; rw [e247]
  rw [er]
  exact ⟨StR_congr z1 (e0 _ (by omega) (by omega)) (e0 _ (by omega) (by omega)) (e0 _ (by omega) (by omega)) (e4 205 (by omega)), LnR_congr z2 (by rw [e0 _ (by omega) (by omega)]) (e0 _ (by omega) (by omega)) (e0 _ (by omega) (by omega)) (e0 _ (by omega) (by omega)) (e4 205 (by omega)) (e4 236 (by omega)) (e4 237 (by omega)) (e4 238 (by omega)) (e4 239 (by omega)), SnR_congr z3 (by rw [e0 _ (by omega) (by omega)]) (by rw [e0 _ (by omega) (by omega)]) (e0 _ (by omega) (by omega)) (e0 _ (by omega) (by omega)) (e4 205 (by omega)) (e4 240 (by omega)) (e4 241 (by omega)) (e4 242 (by omega)) (e4 243 (by omega)), TdR_congr z4 (e0 _ (by omega) (by omega)) (e4 205 (by omega)) (e4 244 (by omega))⟩
theorem UnR_congr {c c' d d' : Mm} (h : UnR c d) (e0 : c' 0 8 = c 0 8) (e1 : c' 0 9 = c 0 9) (e2 : ∀ a, 155 ≤ a → a < 203 → c' a = c a) (e3 : d' 205 = d 205) (e4 : d' 203 58 = d 203 58) (e5 : d' 248 = d 248) : UnR c' d' := by
  obtain ⟨h1, h2, h3, h4, h5, h6⟩ := h
  unfold UnR
  rw [e0, e1, e4]
  refine ⟨h1, h2, h3, h4, h5, fun i i0 i1 => ?_⟩
  have er : rowS d' 248 i = rowS d 248 i := by unfold rowS; rw [e5]
  have hm : 0 ≤ (c 0 8 + i) % 16 ∧ (c 0 8 + i) % 16 < 16 := by omega
  rw [er]
  exact StR_congr (h6 i i0 i1) (e2 _ (by omega) (by omega)) (e2 _ (by omega) (by omega)) (e2 _ (by omega) (by omega)) e3
theorem RR_FQ {f : Int → Int → Int → Int} {c c' d d' : Mm} (h : RR f c d) (hq : FQ c c') (hm : FQM d d') : RR f c' d' := by
  obtain ⟨h1, h2, h3, h4, h5, h6, h7, h8, h9, h10⟩ := h
  obtain ⟨q1, q2, q3, q4⟩ := hq
  obtain ⟨m1, m2, m3⟩ := hm
  have e205 : d' 205 = d 205 := m1 205 (by omega) (by omega) (by omega) (by omega)
  have qq : ∀ a, (a < 203 ∧ a ≠ 0 ∧ (a < 95 ∨ 110 < a) ∧ a ≠ 14 ∧ a ≠ 16 ∧ a ≠ 51 ∧ a ≠ 53) → c' a = c a := fun a z => q1 a z.1 z.2.1 z.2.2.1 z.2.2.2.1 z.2.2.2.2.1 z.2.2.2.2.2.1 z.2.2.2.2.2.2
  have mm : ∀ a, (204 ≤ a ∧ (a < 226 ∨ 236 ≤ a) ∧ a ≠ 246 ∧ a < 251) → d' a = d a := fun a z => m1 a z.1 z.2.1 z.2.2.1 z.2.2.2
  have hc0 := h3.2.1.1
  refine ⟨TpR_congr h1 (by rw [qq 1 (by omega)]) (qq 2 (by omega)) m2 (mm 204 (by omega)), ?_, ?_, ?_, ?_, ?_, ?_, ?_, ?_, ?_⟩
  · rw [q2 2 (by omega), q2 3 (by omega)]; exact h2
  · rw [q2 2 (by omega)]
    refine HlR_congr h3 (fun a a0 a1 a2 a3 => qq a (by omega)) (fun j hj => ?_) (fun a a0 a1 => mm a (by omega))
    rcases hc0 with e | e
    · rw [e]; exact q3 j hj
    · rw [e]; exact q4 j hj
  · rw [mm 245 (by omega)]
    exact StR_congr h4 (qq _ (by omega)) (qq _ (by omega)) (qq _ (by omega)) e205
  · exact LnR_congr h5 (by rw [qq _ (by omega)]) (qq _ (by omega)) (qq _ (by omega)) (qq _ (by omega)) e205 (mm _ (by omega)) (mm _ (by omega)) (mm _ (by omega)) (mm _ (by omega))
  · exact SnR_congr h6 (by rw [qq _ (by omega)]) (by rw [qq _ (by omega)]) (qq _ (by omega)) (qq _ (by omega)) e205 (mm _ (by omega)) (mm _ (by omega)) (mm _ (by omega)) (mm _ (by omega))
  · exact TdR_congr h7 (qq _ (by omega)) e205 (mm _ (by omega))
  · exact MkR_congr h8 (fun a a0 a1 => qq a (by omega)) (fun a ha => mm a (by omega))
  · exact UnR_congr h9 (q2 8 (by omega)) (q2 9 (by omega)) (fun a a0 a1 => qq a (by omega)) e205 m3 (mm _ (by omega))
  · rw [mm 243 (by omega)]; exact h10
/-! A call of both. -/
/-- the class first, then the reference: the same answer, and they stay tied -/
def Both (oc : Mm → Res) (om : Mm → Res) (m : Mm) : Prop := ∃ (r : Int) (m1 m2 : Mm) (f : Int → Int → Int → Int), oc m = some (r, m1) ∧ om m1 = some (r, m2) ∧ RR f m2 m2
def EqM (H d : Mm) : Prop := ∀ a, 203 ≤ a → d a = H a
def EqC (H d : Mm) : Prop := ∀ a, a < 203 → d a = H a
theorem q_both {f : Int → Int → Int → Int} {oc om : Mm → Res} {m : Mm} {x : Int} (hR : RR f m m) (hc : TT (oc m) (fun r c' => r = x ∧ FQ m c' ∧ EqM m c')) (hm : ∀ d, EqM m d → RR f d d → TT (om d) (fun r d' => r = x ∧ FQM d d' ∧ EqC d d')) : Both oc om m := by
  obtain ⟨r, m1, e1, rfl, hq, hE⟩ := hc
  have hR1 : RR f m1 m1 := RR_FQ hR hq ⟨fun a a0 a1 a2 a3 => hE a (by omega), by rw [hE 203 (by omega)], by rw [hE 203 (by omega)]⟩
  obtain ⟨r2, m2, e2, rfl, hq2, hE2⟩ := hm m1 hE hR1
  exact ⟨_, m1, m2, f, e1, e2, RR_FQ hR1 ⟨fun a a0 _ _ _ _ _ _ => hE2 a a0, fun j hj => by rw [hE2 0 (by omega)], fun j hj => by rw [hE2 14 (by omega)], fun j hj => by rw [hE2 51 (by omega)]⟩ hq2⟩
end Rl
