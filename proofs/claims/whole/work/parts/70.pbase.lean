/-! The pure part, base: answers of printed functions, loops, bits. -/
section Pb
def TT (o : Res) (Q : Int → Mm → Prop) : Prop := ∃ r m, o = some (r, m) ∧ Q r m
theorem TT_some {r : Int} {m : Mm} {Q : Int → Mm → Prop} : TT (some (r, m)) Q ↔ Q r m := by
  constructor
  · intro h
    obtain ⟨r', m', e, q⟩ := h
    cases e
    exact q
  · exact fun q => ⟨r, m, rfl, q⟩
theorem TT_none {Q : Int → Mm → Prop} : TT none Q ↔ False := by
  constructor
  · intro h
    obtain ⟨r', m', e, q⟩ := h
    cases e
  · exact fun q => q.elim
theorem TT_ite {c : Prop} [Decidable c] {a b : Res} {Q : Int → Mm → Prop} : TT (if c then a else b) Q ↔ (c → TT a Q) ∧ (¬ c → TT b Q) := by
  by_cases h : c
  · rw [if_pos h]; exact ⟨fun t => ⟨fun _ => t, fun n => absurd h n⟩, fun t => t.1 h⟩
  · rw [if_neg h]; exact ⟨fun t => ⟨fun n => absurd n h, fun _ => t⟩, fun t => t.2 h⟩
theorem TT_bd {o : Res} {k : Int → Mm → Res} {Q : Int → Mm → Prop} : TT (bd o k) Q ↔ TT o (fun r m => TT (k r m) Q) := by
  constructor
  · intro h
    match o, h with
    | none, h => obtain ⟨r', m', e, q⟩ := h; cases e
    | some (r, m), h => exact ⟨r, m, rfl, h⟩
  · intro h
    obtain ⟨r, m, e, q⟩ := h
    subst e
    exact q
theorem TT_bn {α : Type} {e : α} {k : α → Res} {Q : Int → Mm → Prop} : TT (bn e k) Q ↔ TT (k e) Q := Iff.rfl
theorem TT_mono {o : Res} {P Q : Int → Mm → Prop} (h : TT o P) (hi : ∀ r m, P r m → Q r m) : TT o Q := by
  obtain ⟨r, m, e, q⟩ := h
  exact ⟨r, m, e, hi r m q⟩
theorem TT_call {o : Res} {k : Int → Mm → Res} {P Q : Int → Mm → Prop} (h : TT o P) (hi : ∀ r m, P r m → TT (k r m) Q) : TT (bd o k) Q := TT_bd.mpr (TT_mono h hi)
theorem TT_if {c : Prop} [Decidable c] {a b : Res} {Q : Int → Mm → Prop} (h1 : c → TT a Q) (h2 : ¬ c → TT b Q) : TT (if c then a else b) Q := TT_ite.mpr ⟨h1, h2⟩
theorem TT_gd {c : Prop} [Decidable c] {a b : Res} {Q : Int → Mm → Prop} (h : c) (h1 : TT a Q) : TT (if c then a else b) Q := by rw [if_pos h]; exact h1
theorem TT_eq {o : Res} {x : Int} {m : Mm} (h : TT o (fun r m' => r = x ∧ m' = m)) : o = some (x, m) := by
  obtain ⟨r, m', e, h1, h2⟩ := h
  rw [e, h1, h2]
theorem TT_of {o : Res} {x : Int} {m : Mm} {Q : Int → Mm → Prop} (h : o = some (x, m)) (q : Q x m) : TT o Q := ⟨x, m, h, q⟩
theorem bn_eq {α β : Type} (e : α) (k : α → β) : bn e k = k e := rfl
theorem bd_some (r : Int) (m : Mm) (k : Int → Mm → Res) : bd (some (r, m)) k = k r m := rfl
theorem bd_ite {c : Prop} [Decidable c] (a b : Res) (k : Int → Mm → Res) : bd (if c then a else b) k = if c then bd a k else bd b k := by split <;> rfl
theorem g_pos {c : Prop} [Decidable c] {a b : Res} (h : c) : (if c then a else b) = a := if_pos h
theorem g_neg {c : Prop} [Decidable c] {a b : Res} (h : ¬ c) : (if c then a else b) = b := if_neg h
/-- a truth as the machine has it -/
def zi (b : Bool) : Int := if b = true then 1 else 0
theorem zi_0 {b : Bool} : zi b = 0 ↔ b = false := by cases b <;> simp [zi]
theorem zi_1 {b : Bool} : zi b = 1 ↔ b = true := by cases b <;> simp [zi]
theorem zi_01 (b : Bool) : zi b = 0 ∨ zi b = 1 := by cases b <;> simp [zi]
theorem zi_t : zi true = 1 := rfl
theorem zi_f : zi false = 0 := rfl
theorem some_ite {c : Prop} [Decidable c] (x y : Int) (m : Mm) : (if c then some (x, m) else some (y, m)) = some (if c then x else y, m) := by split <;> rfl
theorem lcm_0 {x y : Int} : lcm x y = 0 ↔ x = y := by
  unfold lcm
  split
  · constructor <;> intro h <;> omega
  · split
    · simp_all
    · constructor <;> intro h <;> simp_all
theorem mst_hit {m : Mm} {a i : Nat} {x : Int} : mst m a i x a i = x := mst_at m a i x
theorem mst_miss {m : Mm} {a i j : Nat} {x : Int} (h : j ≠ i) : mst m a i x a j = m a j := by simp [mst, h]
theorem mst_self {m : Mm} {a i j : Nat} {x : Int} : mst m a i x a j = if j = i then x else m a j := by simp [mst]
theorem mst_ne {m : Mm} {a b i : Nat} {x : Int} (h : b ≠ a) : mst m a i x b = m b := mst_row m a i x h
/-- loops -/
theorem lp_inv1 {lp : Nat → Int → Mm → Res} {bo : (Int → Mm → Res) → Int → Mm → Res} (hl : ∀ n, lp (n + 1) = bo (lp n)) (I : Int → Mm → Prop) (mu : Int → Mm → Nat) {Q : Int → Mm → Prop} (hb : ∀ k a m, I a m → (∀ a' m', I a' m' → mu a' m' < mu a m → TT (k a' m') Q) → TT (bo k a m) Q) : ∀ n a m, I a m → mu a m < n → TT (lp n a m) Q := by
  intro n
  induction n with
  | zero => intro a m _ h; omega
  | succ n ih =>
    intro a m hi hn
    rw [hl]
    exact hb _ a m hi (fun a' m' h1 h2 => ih a' m' h1 (by omega))
theorem lp_inv2 {lp : Nat → Int → Int → Mm → Res} {bo : (Int → Int → Mm → Res) → Int → Int → Mm → Res} (hl : ∀ n, lp (n + 1) = bo (lp n)) (I : Int → Int → Mm → Prop) (mu : Int → Int → Mm → Nat) {Q : Int → Mm → Prop} (hb : ∀ k a b m, I a b m → (∀ a' b' m', I a' b' m' → mu a' b' m' < mu a b m → TT (k a' b' m') Q) → TT (bo k a b m) Q) : ∀ n a b m, I a b m → mu a b m < n → TT (lp n a b m) Q := by
  intro n
  induction n with
  | zero => intro a b m _ h; omega
  | succ n ih =>
    intro a b m hi hn
    rw [hl]
    exact hb _ a b m hi (fun a' b' m' h1 h2 => ih a' b' m' h1 (by omega))
theorem lp_inv3 {lp : Nat → Int → Int → Int → Mm → Res} {bo : (Int → Int → Int → Mm → Res) → Int → Int → Int → Mm → Res} (hl : ∀ n, lp (n + 1) = bo (lp n)) (I : Int → Int → Int → Mm → Prop) (mu : Int → Int → Int → Mm → Nat) {Q : Int → Mm → Prop} (hb : ∀ k a b c m, I a b c m → (∀ a' b' c' m', I a' b' c' m' → mu a' b' c' m' < mu a b c m → TT (k a' b' c' m') Q) → TT (bo k a b c m) Q) : ∀ n a b c m, I a b c m → mu a b c m < n → TT (lp n a b c m) Q := by
  intro n
  induction n with
  | zero => intro a b c m _ h; omega
  | succ n ih =>
    intro a b c m hi hn
    rw [hl]
    exact hb _ a b c m hi (fun a' b' c' m' h1 h2 => ih a' b' c' m' h1 (by omega))
/-- the first of some that is so -/
def fst (P : Int → Bool) : Nat → Int → Int
  | 0, _ => -1
  | n + 1, v => if P v = true then v else fst P n (v + 1)
/-- a sum, a count, a set: what a loop gathers -/
def fld (f : Int → Int → Int) : Nat → Int → Int → Int
  | 0, _, a => a
  | n + 1, v, a => fld f n (v + 1) (f v a)
theorem lp_fst {lp : Nat → Int → Mm → Res} {bo : (Int → Mm → Res) → Int → Mm → Res} (hl : ∀ n, lp (n + 1) = bo (lp n)) {N : Int} {m : Mm} {P : Int → Bool} {g : Int → Int} {y : Int} (hb : ∀ k v, 0 ≤ v → v < N → bo k v m = if P v = true then some (g v, m) else k (v + 1) m) (he : ∀ k, bo k N m = some (y, m)) : ∀ (j n : Nat) (v : Int), v + j = N → 0 ≤ v → j < n → lp n v m = some (if fst P j v = -1 then y else g (fst P j v), m) := by
  intro j
  induction j with
  | zero =>
    intro n v h1 h2 h3
    obtain ⟨n', rfl⟩ : ∃ n', n = n' + 1 := ⟨n - 1, by omega⟩
    have : v = N := by omega
    subst this
    rw [hl, he]
    simp [fst]
  | succ j ih =>
    intro n v h1 h2 h3
    obtain ⟨n', rfl⟩ : ∃ n', n = n' + 1 := ⟨n - 1, by omega⟩
    rw [hl, hb _ v h2 (by omega)]
    unfold fst
    by_cases hp : P v = true
    · rw [if_pos hp, if_pos hp, if_neg (by omega)]
    · rw [if_neg hp, if_neg hp, ih n' (v + 1) (by omega) (by omega) (by omega)]
theorem lp_fld {lp : Nat → Int → Int → Mm → Res} {bo : (Int → Int → Mm → Res) → Int → Int → Mm → Res} (hl : ∀ n, lp (n + 1) = bo (lp n)) {N : Int} {m : Mm} {f : Int → Int → Int} {o : Int → Res} (hb : ∀ k v a, 0 ≤ v → v < N → bo k a v m = k (f v a) (v + 1) m) (he : ∀ k a, bo k a N m = o a) : ∀ (j n : Nat) (v a : Int), v + j = N → 0 ≤ v → j < n → lp n a v m = o (fld f j v a) := by
  intro j
  induction j with
  | zero =>
    intro n v a h1 h2 h3
    obtain ⟨n', rfl⟩ : ∃ n', n = n' + 1 := ⟨n - 1, by omega⟩
    have : v = N := by omega
    subst this
    rw [hl, he]
    rfl
  | succ j ih =>
    intro n v a h1 h2 h3
    obtain ⟨n', rfl⟩ : ∃ n', n = n' + 1 := ⟨n - 1, by omega⟩
    rw [hl, hb _ v a h2 (by omega), ih n' (v + 1) (f v a) (by omega) (by omega) (by omega)]
    rfl
theorem fst_none {P : Int → Bool} : ∀ {j : Nat} {v : Int}, 0 ≤ v → (fst P j v = -1 ↔ ∀ t, v ≤ t → t < v + j → P t = false) := by
  intro j
  induction j with
  | zero => intro v _; simp only [fst, true_iff]; intro t h1 h2; omega
  | succ j ih =>
    intro v hv
    unfold fst
    by_cases hp : P v = true
    · rw [if_pos hp]
      constructor
      · intro h; omega
      · intro h
        have := h v (by omega) (by omega)
        rw [this] at hp
        cases hp
    · rw [if_neg hp, ih (by omega)]
      constructor
      · intro h t h1 h2
        by_cases e : t = v
        · subst e; simpa using hp
        · exact h t (by omega) (by omega)
      · intro h t h1 h2
        exact h t (by omega) (by omega)
theorem fst_some {P : Int → Bool} : ∀ {j : Nat} {v t : Int}, 0 ≤ v → (fst P j v = t ∧ t ≠ -1 ↔ v ≤ t ∧ t < v + j ∧ P t = true ∧ ∀ u, v ≤ u → u < t → P u = false) := by
  intro j
  induction j with
  | zero =>
    intro v t _
    simp only [fst]
    constructor
    · intro h; omega
    · intro h; omega
  | succ j ih =>
    intro v t hv
    unfold fst
    by_cases hp : P v = true
    · rw [if_pos hp]
      constructor
      · intro h
        obtain ⟨rfl, -⟩ := h
        exact ⟨by omega, by omega, hp, fun u h1 h2 => by omega⟩
      · intro h
        obtain ⟨h1, h2, h3, h4⟩ := h
        by_cases e : v = t
        · exact ⟨e, by omega⟩
        · have := h4 v (by omega) (by omega)
          rw [this] at hp
          cases hp
    · rw [if_neg hp, ih (by omega)]
      have hq : P v = false := by simpa using hp
      constructor
      · intro h
        obtain ⟨h1, h2, h3, h4⟩ := h
        refine ⟨by omega, by omega, h3, fun u a b => ?_⟩
        by_cases e : u = v
        · subst e; exact hq
        · exact h4 u (by omega) b
      · intro h
        obtain ⟨h1, h2, h3, h4⟩ := h
        have : v ≠ t := fun e => by subst e; rw [h3] at hq; cases hq
        exact ⟨by omega, by omega, h3, fun u a b => h4 u (by omega) b⟩
theorem fst_rng {P : Int → Bool} {j : Nat} {v : Int} (hv : 0 ≤ v) : fst P j v = -1 ∨ (v ≤ fst P j v ∧ fst P j v < v + j ∧ P (fst P j v) = true) := by
  by_cases h : fst P j v = -1
  · exact Or.inl h
  · have := (fst_some (P := P) (j := j) (t := fst P j v) hv).mp ⟨rfl, h⟩
    exact Or.inr ⟨this.1, this.2.1, this.2.2.1⟩
theorem fst_congr {P R : Int → Bool} : ∀ {j : Nat} {v : Int}, (∀ t, v ≤ t → t < v + j → P t = R t) → fst P j v = fst R j v := by
  intro j
  induction j with
  | zero => intros; rfl
  | succ j ih =>
    intro v h
    unfold fst
    rw [h v (by omega) (by omega), ih (fun t h1 h2 => h t (by omega) (by omega))]
theorem fld_congr {f g : Int → Int → Int} : ∀ {j : Nat} {v a : Int}, (∀ t b, v ≤ t → t < v + j → f t b = g t b) → fld f j v a = fld g j v a := by
  intro j
  induction j with
  | zero => intros; rfl
  | succ j ih =>
    intro v a h
    unfold fld
    rw [h v a (by omega) (by omega), ih (fun t b h1 h2 => h t b (by omega) (by omega))]
/-- what a gathering keeps -/
theorem fld_inv {f : Int → Int → Int} (I : Int → Int → Prop) : ∀ {j : Nat} {v a : Int}, I v a → (∀ t b, v ≤ t → t < v + j → I t b → I (t + 1) (f t b)) → I (v + j) (fld f j v a) := by
  intro j
  induction j with
  | zero => intro v a h _; simpa [fld] using h
  | succ j ih =>
    intro v a h hs
    unfold fld
    have := ih (v := v + 1) (a := f v a) (hs v a (by omega) (by omega) h) (fun t b h1 h2 => hs t b (by omega) (by omega))
    have e : v + 1 + (j : Int) = v + ((j + 1 : Nat) : Int) := by omega
    rwa [e] at this
/-! Bits of small sets. -/
def bt (x k : Int) : Int := iand (ishr x k) 1
theorem nn {x : Int} {n : Nat} (h0 : 0 ≤ x) (h1 : x < n) : ∃ y : Nat, y < n ∧ x = y := ⟨x.toNat, by omega, by omega⟩
theorem bt_all : ∀ x, x < 64 → ∀ k, k < 6 → bt (x : Nat) (k : Nat) = ((x / 2 ^ k % 2 : Nat) : Int) := by decide +kernel
theorem bt_set_all : ∀ x, x < 64 → ∀ w, w < 6 → (0 ≤ ior (x : Nat) (ishl 1 (w : Nat)) ∧ ior (x : Nat) (ishl 1 (w : Nat)) < 64) ∧ ∀ k, k < 6 → bt (ior (x : Nat) (ishl 1 (w : Nat))) (k : Nat) = if k = w then 1 else bt (x : Nat) (k : Nat) := by decide +kernel
theorem bt_clr_all : ∀ x, x < 64 → ∀ w, w < 6 → (0 ≤ iand (x : Nat) (ixor (ishl 1 (w : Nat)) (-1)) ∧ iand (x : Nat) (ixor (ishl 1 (w : Nat)) (-1)) < 64) ∧ ∀ k, k < 6 → bt (iand (x : Nat) (ixor (ishl 1 (w : Nat)) (-1))) (k : Nat) = if k = w then 0 else bt (x : Nat) (k : Nat) := by decide +kernel
theorem bt_or_all : ∀ x, x < 64 → ∀ y, y < 64 → (0 ≤ ior (x : Nat) (y : Nat) ∧ ior (x : Nat) (y : Nat) < 64) ∧ (0 ≤ iand (x : Nat) (y : Nat) ∧ iand (x : Nat) (y : Nat) < 64) := by decide +kernel
theorem bt_full_all : ∀ n, n ≤ 6 → ((w32 (ishl 1 (n : Nat) - 1) = ((2 ^ n - 1 : Nat) : Int) ∧ ishl 1 (n : Nat) = ((2 ^ n : Nat) : Int)) ∧ ∀ k, k < 6 → bt (w32 (ishl 1 (n : Nat) - 1)) (k : Nat) = if k < n then 1 else 0) := by decide +kernel
theorem bt_01 {x k : Int} (h0 : 0 ≤ x) (h1 : x < 64) (h2 : 0 ≤ k) (h3 : k < 6) : bt x k = 0 ∨ bt x k = 1 := by
  obtain ⟨y, hy, rfl⟩ := nn h0 (n := 64) h1
  obtain ⟨q, hq, rfl⟩ := nn h2 (n := 6) h3
  rw [bt_all y hy q hq]
  omega
theorem bt_set {x w k : Int} (h0 : 0 ≤ x) (h1 : x < 64) (h2 : 0 ≤ w) (h3 : w < 6) (h4 : 0 ≤ k) (h5 : k < 6) : bt (ior x (ishl 1 w)) k = if k = w then 1 else bt x k := by
  obtain ⟨y, hy, rfl⟩ := nn h0 (n := 64) h1
  obtain ⟨q, hq, rfl⟩ := nn h2 (n := 6) h3
  obtain ⟨u, hu, rfl⟩ := nn h4 (n := 6) h5
  rw [(bt_set_all y hy q hq).2 u hu]
  by_cases e : u = q
  · rw [if_pos e, if_pos (by omega)]
  · rw [if_neg e, if_neg (by omega)]
theorem bt_set_r {x w : Int} (h0 : 0 ≤ x) (h1 : x < 64) (h2 : 0 ≤ w) (h3 : w < 6) : 0 ≤ ior x (ishl 1 w) ∧ ior x (ishl 1 w) < 64 := by
  obtain ⟨y, hy, rfl⟩ := nn h0 (n := 64) h1
  obtain ⟨q, hq, rfl⟩ := nn h2 (n := 6) h3
  exact (bt_set_all y hy q hq).1
theorem bt_clr {x w k : Int} (h0 : 0 ≤ x) (h1 : x < 64) (h2 : 0 ≤ w) (h3 : w < 6) (h4 : 0 ≤ k) (h5 : k < 6) : bt (iand x (ixor (ishl 1 w) (-1))) k = if k = w then 0 else bt x k := by
  obtain ⟨y, hy, rfl⟩ := nn h0 (n := 64) h1
  obtain ⟨q, hq, rfl⟩ := nn h2 (n := 6) h3
  obtain ⟨u, hu, rfl⟩ := nn h4 (n := 6) h5
  rw [(bt_clr_all y hy q hq).2 u hu]
  by_cases e : u = q
  · rw [if_pos e, if_pos (by omega)]
  · rw [if_neg e, if_neg (by omega)]
theorem bt_clr_r {x w : Int} (h0 : 0 ≤ x) (h1 : x < 64) (h2 : 0 ≤ w) (h3 : w < 6) : 0 ≤ iand x (ixor (ishl 1 w) (-1)) ∧ iand x (ixor (ishl 1 w) (-1)) < 64 := by
  obtain ⟨y, hy, rfl⟩ := nn h0 (n := 64) h1
  obtain ⟨q, hq, rfl⟩ := nn h2 (n := 6) h3
  exact (bt_clr_all y hy q hq).1
theorem bt_full {n k : Int} (h0 : 0 ≤ n) (h1 : n ≤ 6) (h4 : 0 ≤ k) (h5 : k < 6) : bt (w32 (ishl 1 n - 1)) k = if k < n then 1 else 0 := by
  obtain ⟨y, hy, rfl⟩ := nn h0 (n := 7) (by omega)
  obtain ⟨u, hu, rfl⟩ := nn h4 (n := 6) h5
  rw [(bt_full_all y (by omega)).2 u hu]
  by_cases e : u < y
  · rw [if_pos e, if_pos (by omega)]
  · rw [if_neg e, if_neg (by omega)]
theorem bt_zero {k : Int} (h4 : 0 ≤ k) (h5 : k < 6) : bt 0 k = 0 := by
  obtain ⟨u, hu, rfl⟩ := nn h4 (n := 6) h5
  exact (bt_all 0 (by decide) u hu).trans (by simp)
theorem isK0 {x : Int} (h : x = 4 ∨ x = 41) : isK 0 x = true := by
  rcases h with rfl | rfl <;> decide
theorem tn0 : (0 : Int).toNat = 0 := rfl
theorem tn1 : (1 : Int).toNat = 1 := rfl
theorem tn2 : (2 : Int).toNat = 2 := rfl
theorem tn3 : (3 : Int).toNat = 3 := rfl
theorem tn4 : (4 : Int).toNat = 4 := rfl
theorem tn5 : (5 : Int).toNat = 5 := rfl
theorem tn6 : (6 : Int).toNat = 6 := rfl
theorem tn7 : (7 : Int).toNat = 7 := rfl
theorem tn8 : (8 : Int).toNat = 8 := rfl
theorem tn9 : (9 : Int).toNat = 9 := rfl
theorem tn10 : (10 : Int).toNat = 10 := rfl
theorem tn11 : (11 : Int).toNat = 11 := rfl
theorem tn12 : (12 : Int).toNat = 12 := rfl
theorem tn13 : (13 : Int).toNat = 13 := rfl
theorem bt_fold (x k : Int) : iand (ishr x k) 1 = bt x k := rfl
end Pb
