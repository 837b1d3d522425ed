/-! pasted from kit/rows: stores, numbers, branches -/
theorem pk_us {f : Nat → Int32} {k : Nat} {x : Int32} : upd f k x k = x := if_pos rfl
theorem pk_un {f : Nat → Int32} {k j : Nat} {x : Int32} (h : j ≠ k) : upd f k x j = f j := if_neg h
theorem pk_sub {a b : Nat} (h : b ≤ a) : nI a - nI b = nI (a - b) := by
  obtain ⟨c, rfl⟩ : ∃ c, a = c + b := ⟨a - b, by omega⟩
  rw [← nI_add, Int32.add_sub_cancel, Nat.add_sub_cancel]
theorem pk_m1 (n : Nat) : nI (n + 1) + (-1) = nI n := by
  rw [← nI_1, Int32.add_assoc, show (1 : Int32) + (-1) = 0 from rfl, Int32.add_zero]
theorem pk_mul (a b : Nat) : nI a * nI b = nI (a * b) := (Int32.ofNat_mul a b).symm
theorem pk_div {a d : Nat} (ha : a < 2 ^ 31) (h0 : 0 < d) (hd : d < 2 ^ 31) : nI a / nI d = nI (a / d) := by
  apply Int32.toInt_inj.mp
  rw [lg_idiv_nonneg (by rw [nI_toInt ha]; omega) (by rw [nI_toInt hd]; omega), nI_toInt ha, nI_toInt hd, nI_toInt (Nat.lt_of_le_of_lt (Nat.div_le_self a d) ha)]
  first | rfl | exact (Int.natCast_ediv _ _).symm
theorem pk_rem {a d : Nat} (ha : a < 2 ^ 31) (h0 : 0 < d) (hd : d < 2 ^ 31) : nI a - nI a / nI d * nI d = nI (a % d) := by
  rw [pk_div ha h0 hd, pk_mul, pk_sub (Nat.div_mul_le_self a d)]
  exact congrArg nI (by have := Nat.div_add_mod' a d; omega)
theorem pk_ix (x : Int32) {n : Nat} (hn : n < 2 ^ 31) : x < 0 ∨ nI n ≤ x ∨ ∃ j : Nat, j < n ∧ x = nI j := by
  by_cases h : x < 0
  · exact Or.inl h
  · obtain ⟨j, hj, rfl⟩ := nI_of h
    by_cases h2 : j < n
    · exact Or.inr (Or.inr ⟨j, h2, rfl⟩)
    · exact Or.inr (Or.inl (nI_le (by omega) hj))
theorem pk_le {x y : Int32} {A B : Prop} (a b : Nat) (f : a ≤ b → A) (g : b < a → B) (hx : x = nI a := by rfl) (hy : y = nI b := by rfl) (ha : a < 2 ^ 31 := by omega) (hb : b < 2 ^ 31 := by omega) : (x ≤ y → A) ∧ (¬ x ≤ y → B) := by
  subst hx hy
  rw [nI_leI ha hb]
  exact ⟨f, fun z => g (by omega)⟩
theorem pk_lt {x y : Int32} {A B : Prop} (a b : Nat) (f : a < b → A) (g : b ≤ a → B) (hx : x = nI a := by rfl) (hy : y = nI b := by rfl) (ha : a < 2 ^ 31 := by omega) (hb : b < 2 ^ 31 := by omega) : (x < y → A) ∧ (¬ x < y → B) := by
  subst hx hy
  rw [nI_ltI ha hb]
  exact ⟨f, fun z => g (by omega)⟩
theorem pk_eq {x y : Int32} {A B : Prop} (a b : Nat) (f : a = b → A) (g : a ≠ b → B) (hx : x = nI a := by rfl) (hy : y = nI b := by rfl) (ha : a < 2 ^ 31 := by omega) (hb : b < 2 ^ 31 := by omega) : (x = y → A) ∧ (¬ x = y → B) := by
  subst hx hy
  rw [nI_eq ha hb]
  exact ⟨f, g⟩
theorem pk_in {x : Int32} (n N : Nat) (h : n < N) (hx : x = nI n := by rfl) (hN : N < 2 ^ 31 := by omega) : vp_in x N := by
  subst hx
  exact vp_in_nI h hN
theorem pk_cl {x : Int32} (n : Nat) (hx : x = nI n := by rfl) (h : n < 2 ^ 31 := by omega) : x.toNatClampNeg = n := by
  subst hx
  exact nI_clamp h
/-! pasted from kit/rows: Int32 by its bits -/
def bt (x : Int32) (i : Nat) : Bool := x.toBitVec.getLsbD i
theorem b_ext {x y : Int32} (h : ∀ i, i < 32 → bt x i = bt y i) : x = y := Int32.toBitVec_inj.mp (BitVec.eq_of_getLsbD_eq (fun i hi => h i hi))
theorem b_or (x y : Int32) (i : Nat) : bt (x ||| y) i = (bt x i || bt y i) := by unfold bt; rw [Int32.toBitVec_or, BitVec.getLsbD_or]
theorem b_0 (i : Nat) : bt 0 i = false := BitVec.getLsbD_zero
/-! ===== stores of any kind ===== -/
def il_up {α : Type} (f : Nat → α) (k : Nat) (x : α) : Nat → α := fun j => if j = k then x else f j
theorem il_us {α : Type} (f : Nat → α) (k : Nat) (x : α) : il_up f k x k = x := if_pos rfl
theorem il_un {α : Type} (f : Nat → α) {k j : Nat} (x : α) (h : j ≠ k) : il_up f k x j = f j := if_neg h
theorem il_ui {α : Type} (f : Nat → α) (k : Nat) : il_up f k (f k) = f := by
  funext j
  by_cases h : j = k
  · subst h; rw [il_us]
  · rw [il_un f _ h]
theorem il_uP {α : Type} (p : α → Int32) (f : Nat → α) (k : Nat) (x : α) : upd (fun i => p (f i)) k (p x) = fun i => p (il_up f k x i) := by
  funext j
  show upd (fun i => p (f i)) k (p x) j = p (il_up f k x j)
  by_cases h : j = k
  · subst h; rw [pk_us, il_us]
  · rw [pk_un h, il_un f _ h]
theorem il_uV (f : Nat → Int32) (k : Nat) (x : Int32) : upd f k x = il_up f k x := rfl
/-! ===== the pictures of a word's name and of a definition ===== -/
def il_xo (o : Option Nat) : Int32 := match o with
  | none => -1
  | some k => nI k
def il_yo (o : Option Nat) : Int32 := match o with
  | none => -4
  | some k => nI k
theorem il_nm1 {k : Nat} (h : k < 2 ^ 31) : ¬ nI k = -1 := by
  intro e
  have h1 := nI_toInt h
  rw [e] at h1
  have h2 : (-1 : Int32).toInt = -1 := by decide
  rw [h2] at h1
  omega
theorem il_nm4 {k : Nat} (h : k < 2 ^ 31) : ¬ nI k = -4 := by
  intro e
  have h1 := nI_toInt h
  rw [e] at h1
  have h2 : (-4 : Int32).toInt = -4 := by decide
  rw [h2] at h1
  omega
/-! ===== sums ===== -/
def il_S : Nat → (Nat → Nat) → Nat
  | 0, _ => 0
  | n + 1, f => il_S n f + f n
theorem il_S_s (n : Nat) (f : Nat → Nat) : il_S (n + 1) f = il_S n f + f n := rfl
theorem il_S_congr {f h : Nat → Nat} : ∀ n, (∀ i, i < n → f i = h i) → il_S n f = il_S n h
  | 0, _ => rfl
  | n + 1, e => by
    rw [il_S_s, il_S_s, il_S_congr n (fun i hi => e i (Nat.lt_succ_of_lt hi)), e n (Nat.lt_succ_self n)]
theorem il_S_add (f h : Nat → Nat) : ∀ n, il_S n (fun i => f i + h i) = il_S n f + il_S n h
  | 0 => rfl
  | n + 1 => by
    have ih := il_S_add f h n
    rw [il_S_s, il_S_s, il_S_s, ih]
    omega
theorem il_S_zero : ∀ n, il_S n (fun _ => 0) = 0
  | 0 => rfl
  | n + 1 => by
    have ih := il_S_zero n
    rw [il_S_s]
    omega
theorem il_S_comm (f : Nat → Nat → Nat) (b : Nat) : ∀ a, il_S a (fun i => il_S b (fun j => f i j)) = il_S b (fun j => il_S a (fun i => f i j))
  | 0 => (il_S_zero b).symm
  | a + 1 => by
    have ih := il_S_comm f b a
    have h := il_S_add (fun j => il_S a (fun i => f i j)) (fun j => f a j) b
    rw [il_S_s, ih]
    exact h.symm
theorem il_S_le {f : Nat → Nat} {b : Nat} : ∀ n, (∀ i, i < n → f i ≤ b) → il_S n f ≤ n * b
  | 0, _ => Nat.zero_le _
  | n + 1, h => by
    have h1 := il_S_le n (fun i hi => h i (Nat.lt_succ_of_lt hi))
    have h2 := h n (Nat.lt_succ_self n)
    rw [il_S_s, Nat.succ_mul]
    omega
theorem il_S_mono (f : Nat → Nat) (a : Nat) : ∀ e, il_S a f ≤ il_S (a + e) f
  | 0 => Nat.le_refl _
  | e + 1 => Nat.le_trans (il_S_mono f a e) (Nat.le_add_right _ _)
theorem il_S_mn (f : Nat → Nat) {a b : Nat} (h : a ≤ b) : il_S a f ≤ il_S b f := by
  obtain ⟨e, rfl⟩ := Nat.le.dest h
  exact il_S_mono f a e
theorem il_S_split (f : Nat → Nat) (a : Nat) : ∀ e, il_S (a + e) f = il_S a f + il_S e (fun i => f (a + i))
  | 0 => rfl
  | e + 1 => by
    have ih := il_S_split f a e
    show il_S (a + e) f + f (a + e) = il_S a f + (il_S e (fun i => f (a + i)) + f (a + e))
    omega
theorem il_S_flat (b : Nat) (f : Nat → Nat) : ∀ a, il_S (b * a) f = il_S a (fun m => il_S b (fun w => f (b * m + w)))
  | 0 => rfl
  | a + 1 => by
    rw [Nat.mul_succ, il_S_split f (b * a) b, il_S_flat b f a, il_S_s]
theorem il_S_cut (f : Nat → Nat) (c : Nat) : ∀ e, il_S (c + e) (fun w => if w < c then f w else 0) = il_S c f
  | 0 => il_S_congr c (fun _ hi => if_pos hi)
  | e + 1 => by
    have ih := il_S_cut f c e
    show il_S (c + e) (fun w => if w < c then f w else 0) + (if c + e < c then f (c + e) else 0) = il_S c f
    rw [ih, if_neg (by omega), Nat.add_zero]
theorem il_S_one (f : Nat → Nat) (k : Nat) : ∀ n, il_S n (fun i => if i = k then f i else 0) = if k < n then f k else 0
  | 0 => by rw [if_neg (Nat.not_lt_zero k)]; rfl
  | n + 1 => by
    have ih := il_S_one f k n
    show il_S n (fun i => if i = k then f i else 0) + (if n = k then f n else 0) = if k < n + 1 then f k else 0
    rw [ih]
    by_cases h : n = k
    · subst h
      rw [if_neg (Nat.lt_irrefl n), if_pos rfl, if_pos (Nat.lt_succ_self n), Nat.zero_add]
    · by_cases h2 : k < n
      · rw [if_neg h, if_pos h2, if_pos (by omega : k < n + 1), Nat.add_zero]
      · rw [if_neg h, if_neg h2, if_neg (by omega : ¬ k < n + 1)]
theorem il_S_pos (f : Nat → Nat) : ∀ n, 0 < il_S n f ↔ ∃ i, i < n ∧ 0 < f i
  | 0 => ⟨fun h => absurd h (Nat.lt_irrefl 0), fun ⟨i, h, _⟩ => absurd h (Nat.not_lt_zero i)⟩
  | n + 1 => by
    have ih := il_S_pos f n
    rw [il_S_s]
    constructor
    · intro h
      by_cases h1 : 0 < il_S n f
      · obtain ⟨i, hi, hf⟩ := ih.mp h1
        exact ⟨i, Nat.lt_succ_of_lt hi, hf⟩
      · exact ⟨n, Nat.lt_succ_self n, by omega⟩
    · intro ⟨i, hi, hf⟩
      by_cases h1 : i = n
      · subst h1; omega
      · have := ih.mpr ⟨i, by omega, hf⟩
        omega
/-! ===== the first that holds ===== -/
def il_ff (P : Nat → Bool) : Nat → Nat → Option Nat
  | 0, _ => none
  | n + 1, i => if P i = true then some i else il_ff P n (i + 1)
theorem il_ff_s (P : Nat → Bool) (n i : Nat) : il_ff P (n + 1) i = if P i = true then some i else il_ff P n (i + 1) := rfl
theorem il_ff_t {P : Nat → Bool} {n i : Nat} (h : P i = true) : il_ff P (n + 1) i = some i := if_pos h
theorem il_ff_f {P : Nat → Bool} {n i : Nat} (h : ¬ P i = true) : il_ff P (n + 1) i = il_ff P n (i + 1) := if_neg h
theorem il_ff_some {P : Nat → Bool} : ∀ n i k, il_ff P n i = some k → i ≤ k ∧ k < i + n ∧ P k = true ∧ ∀ j, i ≤ j → j < k → P j = false
  | 0, _, k, h => by
    have h' : (none : Option Nat) = some k := h
    cases h'
  | n + 1, i, k, h => by
    by_cases hp : P i = true
    · rw [il_ff_t hp] at h
      cases h
      exact ⟨by omega, by omega, hp, fun j h1 h2 => by omega⟩
    · rw [il_ff_f hp] at h
      obtain ⟨a, b, c, e⟩ := il_ff_some n (i + 1) k h
      refine ⟨by omega, by omega, c, fun j h1 h2 => ?_⟩
      by_cases hj : j = i
      · subst hj; exact Bool.eq_false_iff.mpr hp
      · exact e j (by omega) h2
theorem il_ff_none {P : Nat → Bool} : ∀ n i, il_ff P n i = none → ∀ j, i ≤ j → j < i + n → P j = false
  | 0, i, _, j, h1, h2 => by omega
  | n + 1, i, h, j, h1, h2 => by
    by_cases hp : P i = true
    · rw [il_ff_t hp] at h
      cases h
    · rw [il_ff_f hp] at h
      by_cases hj : j = i
      · subst hj; exact Bool.eq_false_iff.mpr hp
      · exact il_ff_none n (i + 1) h j (by omega) (by omega)
theorem il_ff_at {P : Nat → Bool} : ∀ n i k, i ≤ k → k < i + n → P k = true → (∀ j, i ≤ j → j < k → P j = false) → il_ff P n i = some k
  | 0, i, k, h1, h2, _, _ => by omega
  | n + 1, i, k, h1, h2, h3, h4 => by
    by_cases hk : i = k
    · subst hk; exact il_ff_t h3
    · have hp : ¬ P i = true := by rw [h4 i (Nat.le_refl i) (by omega)]; decide
      rw [il_ff_f hp]
      exact il_ff_at n (i + 1) k (by omega) (by omega) h3 (fun j a b => h4 j (by omega) b)
theorem il_ff_all {P : Nat → Bool} : ∀ n i, (∀ j, i ≤ j → j < i + n → P j = false) → il_ff P n i = none
  | 0, _, _ => rfl
  | n + 1, i, h => by
    have hp : ¬ P i = true := by rw [h i (Nat.le_refl i) (by omega)]; decide
    rw [il_ff_f hp]
    exact il_ff_all n (i + 1) (fun j a b => h j (by omega) (by omega))
