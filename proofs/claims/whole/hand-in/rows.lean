section
/-! pasted from kit/rows: stores, numbers, branches -/
theorem pk_us {f : Nat → Int32} {k : Nat} {x : Int32} : upd f k x k = x := if_pos rfl
theorem pk_un {f : Nat → Int32} {k j : Nat} {x : Int32} (h : j ≠ k) : upd f k x j = f j := if_neg h
theorem pk_sub {a b : Nat} (h : b ≤ a) : nI a - nI b = nI (a - b) := by
  obtain ⟨c, rfl⟩ : ∃ c, a = c + b := ⟨a - b, by omega⟩
  rw [← nI_add, Int32.add_sub_cancel, Nat.add_sub_cancel]
theorem pk_m1 (n : Nat) : nI (n + 1) + (-1) = nI n := by
  rw [← nI_1, Int32.add_assoc, show (1 : Int32) + (-1) = 0 from rfl, Int32.add_zero]
theorem pk_mul (a b : Nat) : nI a * nI b = nI (a * b) := (Int32.ofNat_mul a b).symm
theorem pk_div {a d : Nat} (ha : a < 2 ^ 31) (h0 : 0 < d) (hd : d < 2 ^ 31) : nI a / nI d = nI (a / d) := by
  apply Int32.toInt_inj.mp
  rw [lg_idiv_nonneg (by rw [nI_toInt ha]; omega) (by rw [nI_toInt hd]; omega), nI_toInt ha, nI_toInt hd, nI_toInt (Nat.lt_of_le_of_lt (Nat.div_le_self a d) ha)]
  first | rfl | exact (Int.natCast_ediv _ _).symm
theorem pk_rem {a d : Nat} (ha : a < 2 ^ 31) (h0 : 0 < d) (hd : d < 2 ^ 31) : nI a - nI a / nI d * nI d = nI (a % d) := by
  rw [pk_div ha h0 hd, pk_mul, pk_sub (Nat.div_mul_le_self a d)]
  exact congrArg nI (by have := Nat.div_add_mod' a d; omega)
theorem pk_ix (x : Int32) {n : Nat} (hn : n < 2 ^ 31) : x < 0 ∨ nI n ≤ x ∨ ∃ j : Nat, j < n ∧ x = nI j := by
  by_cases h : x < 0
  · exact Or.inl h
  · obtain ⟨j, hj, rfl⟩ := nI_of h
    by_cases h2 : j < n
    · exact Or.inr (Or.inr ⟨j, h2, rfl⟩)
    · exact Or.inr (Or.inl (nI_le (by omega) hj))
theorem pk_le {x y : Int32} {A B : Prop} (a b : Nat) (f : a ≤ b → A) (g : b < a → B) (hx : x = nI a := by rfl) (hy : y = nI b := by rfl) (ha : a < 2 ^ 31 := by omega) (hb : b < 2 ^ 31 := by omega) : (x ≤ y → A) ∧ (¬ x ≤ y → B) := by
  subst hx hy
  rw [nI_leI ha hb]
  exact ⟨f, fun z => g (by omega)⟩
theorem pk_lt {x y : Int32} {A B : Prop} (a b : Nat) (f : a < b → A) (g : b ≤ a → B) (hx : x = nI a := by rfl) (hy : y = nI b := by rfl) (ha : a < 2 ^ 31 := by omega) (hb : b < 2 ^ 31 := by omega) : (x < y → A) ∧ (¬ x < y → B) := by
  subst hx hy
  rw [nI_ltI ha hb]
  exact ⟨f, fun z => g (by omega)⟩
theorem pk_eq {x y : Int32} {A B : Prop} (a b : Nat) (f : a = b → A) (g : a ≠ b → B) (hx : x = nI a := by rfl) (hy : y = nI b := by rfl) (ha : a < 2 ^ 31 := by omega) (hb : b < 2 ^ 31 := by omega) : (x = y → A) ∧ (¬ x = y → B) := by
  subst hx hy
  rw [nI_eq ha hb]
  exact ⟨f, g⟩
theorem pk_in {x : Int32} (n N : Nat) (h : n < N) (hx : x = nI n := by rfl) (hN : N < 2 ^ 31 := by omega) : vp_in x N := by
  subst hx
  exact vp_in_nI h hN
theorem pk_cl {x : Int32} (n : Nat) (hx : x = nI n := by rfl) (h : n < 2 ^ 31 := by omega) : x.toNatClampNeg = n := by
  subst hx
  exact nI_clamp h
/-! pasted from kit/rows: Int32 by its bits -/
def bt (x : Int32) (i : Nat) : Bool := x.toBitVec.getLsbD i
theorem b_ext {x y : Int32} (h : ∀ i, i < 32 → bt x i = bt y i) : x = y := Int32.toBitVec_inj.mp (BitVec.eq_of_getLsbD_eq (fun i hi => h i hi))
theorem b_or (x y : Int32) (i : Nat) : bt (x ||| y) i = (bt x i || bt y i) := by unfold bt; rw [Int32.toBitVec_or, BitVec.getLsbD_or]
theorem b_0 (i : Nat) : bt 0 i = false := BitVec.getLsbD_zero
/-! ===== stores of any kind ===== -/
def il_up {α : Type} (f : Nat → α) (k : Nat) (x : α) : Nat → α := fun j => if j = k then x else f j
theorem il_us {α : Type} (f : Nat → α) (k : Nat) (x : α) : il_up f k x k = x := if_pos rfl
theorem il_un {α : Type} (f : Nat → α) {k j : Nat} (x : α) (h : j ≠ k) : il_up f k x j = f j := if_neg h
theorem il_ui {α : Type} (f : Nat → α) (k : Nat) : il_up f k (f k) = f := by
  funext j
  by_cases h : j = k
  · subst h; rw [il_us]
  · rw [il_un f _ h]
theorem il_uP {α : Type} (p : α → Int32) (f : Nat → α) (k : Nat) (x : α) : upd (fun i => p (f i)) k (p x) = fun i => p (il_up f k x i) := by
  funext j
  show upd (fun i => p (f i)) k (p x) j = p (il_up f k x j)
  by_cases h : j = k
  · subst h; rw [pk_us, il_us]
  · rw [pk_un h, il_un f _ h]
theorem il_uV (f : Nat → Int32) (k : Nat) (x : Int32) : upd f k x = il_up f k x := rfl
/-! ===== the pictures of a word's name and of a definition ===== -/
def il_xo (o : Option Nat) : Int32 := match o with
  | none => -1
  | some k => nI k
def il_yo (o : Option Nat) : Int32 := match o with
  | none => -4
  | some k => nI k
theorem il_nm1 {k : Nat} (h : k < 2 ^ 31) : ¬ nI k = -1 := by
  intro e
  have h1 := nI_toInt h
  rw [e] at h1
  have h2 : (-1 : Int32).toInt = -1 := by decide
  rw [h2] at h1
  omega
theorem il_nm4 {k : Nat} (h : k < 2 ^ 31) : ¬ nI k = -4 := by
  intro e
  have h1 := nI_toInt h
  rw [e] at h1
  have h2 : (-4 : Int32).toInt = -4 := by decide
  rw [h2] at h1
  omega
/-! ===== sums ===== -/
def il_S : Nat → (Nat → Nat) → Nat
  | 0, _ => 0
  | n + 1, f => il_S n f + f n
theorem il_S_s (n : Nat) (f : Nat → Nat) : il_S (n + 1) f = il_S n f + f n := rfl
theorem il_S_congr {f h : Nat → Nat} : ∀ n, (∀ i, i < n → f i = h i) → il_S n f = il_S n h
  | 0, _ => rfl
  | n + 1, e => by
    rw [il_S_s, il_S_s, il_S_congr n (fun i hi => e i (Nat.lt_succ_of_lt hi)), e n (Nat.lt_succ_self n)]
theorem il_S_add (f h : Nat → Nat) : ∀ n, il_S n (fun i => f i + h i) = il_S n f + il_S n h
  | 0 => rfl
  | n + 1 => by
    have ih := il_S_add f h n
    rw [il_S_s, il_S_s, il_S_s, ih]
    omega
theorem il_S_zero : ∀ n, il_S n (fun _ => 0) = 0
  | 0 => rfl
  | n + 1 => by
    have ih := il_S_zero n
    rw [il_S_s]
    omega
theorem il_S_comm (f : Nat → Nat → Nat) (b : Nat) : ∀ a, il_S a (fun i => il_S b (fun j => f i j)) = il_S b (fun j => il_S a (fun i => f i j))
  | 0 => (il_S_zero b).symm
  | a + 1 => by
    have ih := il_S_comm f b a
    have h := il_S_add (fun j => il_S a (fun i => f i j)) (fun j => f a j) b
    rw [il_S_s, ih]
    exact h.symm
theorem il_S_le {f : Nat → Nat} {b : Nat} : ∀ n, (∀ i, i < n → f i ≤ b) → il_S n f ≤ n * b
  | 0, _ => Nat.zero_le _
  | n + 1, h => by
    have h1 := il_S_le n (fun i hi => h i (Nat.lt_succ_of_lt hi))
    have h2 := h n (Nat.lt_succ_self n)
    rw [il_S_s, Nat.succ_mul]
    omega
theorem il_S_mono (f : Nat → Nat) (a : Nat) : ∀ e, il_S a f ≤ il_S (a + e) f
  | 0 => Nat.le_refl _
  | e + 1 => Nat.le_trans (il_S_mono f a e) (Nat.le_add_right _ _)
theorem il_S_mn (f : Nat → Nat) {a b : Nat} (h : a ≤ b) : il_S a f ≤ il_S b f := by
  obtain ⟨e, rfl⟩ := Nat.le.dest h
  exact il_S_mono f a e
theorem il_S_split (f : Nat → Nat) (a : Nat) : ∀ e, il_S (a + e) f = il_S a f + il_S e (fun i => f (a + i))
  | 0 => rfl
  | e + 1 => by
    have ih := il_S_split f a e
    show il_S (a + e) f + f (a + e) = il_S a f + (il_S e (fun i => f (a + i)) + f (a + e))
    omega
theorem il_S_flat (b : Nat) (f : Nat → Nat) : ∀ a, il_S (b * a) f = il_S a (fun m => il_S b (fun w => f (b * m + w)))
  | 0 => rfl
  | a + 1 => by
    rw [Nat.mul_succ, il_S_split f (b * a) b, il_S_flat b f a, il_S_s]
theorem il_S_cut (f : Nat → Nat) (c : Nat) : ∀ e, il_S (c + e) (fun w => if w < c then f w else 0) = il_S c f
  | 0 => il_S_congr c (fun _ hi => if_pos hi)
  | e + 1 => by
    have ih := il_S_cut f c e
    show il_S (c + e) (fun w => if w < c then f w else 0) + (if c + e < c then f (c + e) else 0) = il_S c f
    rw [ih, if_neg (by omega), Nat.add_zero]
theorem il_S_one (f : Nat → Nat) (k : Nat) : ∀ n, il_S n (fun i => if i = k then f i else 0) = if k < n then f k else 0
  | 0 => by rw [if_neg (Nat.not_lt_zero k)]; rfl
  | n + 1 => by
    have ih := il_S_one f k n
    show il_S n (fun i => if i = k then f i else 0) + (if n = k then f n else 0) = if k < n + 1 then f k else 0
    rw [ih]
    by_cases h : n = k
    · subst h
      rw [if_neg (Nat.lt_irrefl n), if_pos rfl, if_pos (Nat.lt_succ_self n), Nat.zero_add]
    · by_cases h2 : k < n
      · rw [if_neg h, if_pos h2, if_pos (by omega : k < n + 1), Nat.add_zero]
      · rw [if_neg h, if_neg h2, if_neg (by omega : ¬ k < n + 1)]
theorem il_S_pos (f : Nat → Nat) : ∀ n, 0 < il_S n f ↔ ∃ i, i < n ∧ 0 < f i
  | 0 => ⟨fun h => absurd h (Nat.lt_irrefl 0), fun ⟨i, h, _⟩ => absurd h (Nat.not_lt_zero i)⟩
  | n + 1 => by
    have ih := il_S_pos f n
    rw [il_S_s]
    constructor
    · intro h
      by_cases h1 : 0 < il_S n f
      · obtain ⟨i, hi, hf⟩ := ih.mp h1
        exact ⟨i, Nat.lt_succ_of_lt hi, hf⟩
      · exact ⟨n, Nat.lt_succ_self n, by omega⟩
    · intro ⟨i, hi, hf⟩
      by_cases h1 : i = n
      · subst h1; omega
      · have := ih.mpr ⟨i, by omega, hf⟩
        omega
/-! ===== the first that holds ===== -/
def il_ff (P : Nat → Bool) : Nat → Nat → Option Nat
  | 0, _ => none
  | n + 1, i => if P i = true then some i else il_ff P n (i + 1)
theorem il_ff_s (P : Nat → Bool) (n i : Nat) : il_ff P (n + 1) i = if P i = true then some i else il_ff P n (i + 1) := rfl
theorem il_ff_t {P : Nat → Bool} {n i : Nat} (h : P i = true) : il_ff P (n + 1) i = some i := if_pos h
theorem il_ff_f {P : Nat → Bool} {n i : Nat} (h : ¬ P i = true) : il_ff P (n + 1) i = il_ff P n (i + 1) := if_neg h
theorem il_ff_some {P : Nat → Bool} : ∀ n i k, il_ff P n i = some k → i ≤ k ∧ k < i + n ∧ P k = true ∧ ∀ j, i ≤ j → j < k → P j = false
  | 0, _, k, h => by
    have h' : (none : Option Nat) = some k := h
    cases h'
  | n + 1, i, k, h => by
    by_cases hp : P i = true
    · rw [il_ff_t hp] at h
      cases h
      exact ⟨by omega, by omega, hp, fun j h1 h2 => by omega⟩
    · rw [il_ff_f hp] at h
      obtain ⟨a, b, c, e⟩ := il_ff_some n (i + 1) k h
      refine ⟨by omega, by omega, c, fun j h1 h2 => ?_⟩
      by_cases hj : j = i
      · subst hj; exact Bool.eq_false_iff.mpr hp
      · exact e j (by omega) h2
theorem il_ff_none {P : Nat → Bool} : ∀ n i, il_ff P n i = none → ∀ j, i ≤ j → j < i + n → P j = false
  | 0, i, _, j, h1, h2 => by omega
  | n + 1, i, h, j, h1, h2 => by
    by_cases hp : P i = true
    · rw [il_ff_t hp] at h
      cases h
    · rw [il_ff_f hp] at h
      by_cases hj : j = i
      · subst hj; exact Bool.eq_false_iff.mpr hp
      · exact il_ff_none n (i + 1) h j (by omega) (by omega)
theorem il_ff_at {P : Nat → Bool} : ∀ n i k, i ≤ k → k < i + n → P k = true → (∀ j, i ≤ j → j < k → P j = false) → il_ff P n i = some k
  | 0, i, k, h1, h2, _, _ => by omega
  | n + 1, i, k, h1, h2, h3, h4 => by
    by_cases hk : i = k
    · subst hk; exact il_ff_t h3
    · have hp : ¬ P i = true := by rw [h4 i (Nat.le_refl i) (by omega)]; decide
      rw [il_ff_f hp]
      exact il_ff_at n (i + 1) k (by omega) (by omega) h3 (fun j a b => h4 j (by omega) b)
theorem il_ff_all {P : Nat → Bool} : ∀ n i, (∀ j, i ≤ j → j < i + n → P j = false) → il_ff P n i = none
  | 0, _, _ => rfl
  | n + 1, i, h => by
    have hp : ¬ P i = true := by rw [h i (Nat.le_refl i) (by omega)]; decide
    rw [il_ff_f hp]
    exact il_ff_all n (i + 1) (fun j a b => h j (by omega) (by omega))
end
section
/-! ===== counts, places, definitions ===== -/
def il_mf (d : Nat → Option Nat) (n : Nat) : Option Nat := il_ff (fun m => (d (10 * m + n)).isSome) 6 0
def il_mo (c : Nat → Nat) (p : Nat) : Option Nat := il_ff (fun m => decide (p < il_S (m + 1) c)) 6 0
def il_dd (d : Nat → Option Nat) (i : Nat) : Nat := (d i).getD 0
def il_wh (c : Nat → Nat) (d : Nat → Option Nat) (n : Nat) : Option Nat := match il_mf d n with
  | none => none
  | some m => some (il_S m c + il_dd d (10 * m + n))
def il_wv (c : Nat → Nat) (g : Nat → Option Nat) (v : Nat → Int32) (d : Nat → Option Nat) (i : Nat) : Int32 := match g i with
  | none => v i
  | some k => match il_wh c d k with
    | none => -1
    | some a => nI a + v i
def il_val (c : Nat → Nat) (g : Nat → Option Nat) (v : Nat → Int32) (d : Nat → Option Nat) (p : Nat) : Int32 := match il_mo c p with
  | none => 0
  | some m => il_wv c g v d (8 * m + (p - il_S m c))
theorem il_mf_some {d : Nat → Option Nat} {n m : Nat} (h : il_mf d n = some m) : m < 6 ∧ ∃ k, d (10 * m + n) = some k := by
  obtain ⟨_, h2, h3, _⟩ := il_ff_some 6 0 m h
  exact ⟨by omega, Option.isSome_iff_exists.mp h3⟩
theorem il_mf_none {d : Nat → Option Nat} {n : Nat} (h : il_mf d n = none) : ∀ m, m < 6 → (d (10 * m + n)).isSome = false :=
  fun m hm => il_ff_none 6 0 h m (Nat.zero_le m) (by omega)
theorem il_mo_some {c : Nat → Nat} {p m : Nat} (h : il_mo c p = some m) : m < 6 ∧ il_S m c ≤ p ∧ p < il_S (m + 1) c := by
  obtain ⟨_, h2, h3, h4⟩ := il_ff_some 6 0 m h
  refine ⟨by omega, ?_, of_decide_eq_true h3⟩
  cases m with
  | zero => exact Nat.zero_le p
  | succ j =>
    have h5 := of_decide_eq_false (h4 j (Nat.zero_le j) (Nat.lt_succ_self j))
    omega
theorem il_mo_at {c : Nat → Nat} {m w : Nat} (hm : m < 6) (hw : w < c m) : il_mo c (il_S m c + w) = some m := by
  refine il_ff_at 6 0 m (Nat.zero_le m) (by omega) (decide_eq_true ?_) (fun j _ hj => decide_eq_false ?_)
  · rw [il_S_s]; omega
  · have h := il_S_mn c (a := j + 1) (b := m) (by omega)
    omega
theorem il_mo_no {c : Nat → Nat} {p : Nat} (h : il_S 6 c ≤ p) : il_mo c p = none := by
  refine il_ff_all 6 0 (fun j _ hj => decide_eq_false ?_)
  have h := il_S_mn c (a := j + 1) (b := 6) (by omega)
  omega
theorem il_val_at {c : Nat → Nat} (g : Nat → Option Nat) (v : Nat → Int32) (d : Nat → Option Nat) {m w : Nat} (hm : m < 6) (hw : w < c m) : il_val c g v d (il_S m c + w) = il_wv c g v d (8 * m + w) := by
  unfold il_val
  rw [il_mo_at hm hw]
  show il_wv c g v d (8 * m + (il_S m c + w - il_S m c)) = _
  rw [Nat.add_sub_cancel_left]
theorem il_val_no {c : Nat → Nat} (g : Nat → Option Nat) (v : Nat → Int32) (d : Nat → Option Nat) {p : Nat} (h : il_S 6 c ≤ p) : il_val c g v d p = 0 := by
  unfold il_val
  rw [il_mo_no h] <;> rfl
/-! ===== the digest's sum ===== -/
def il_D : Nat → (Nat → Int32) → Int32
  | 0, _ => 0
  | n + 1, f => il_D n f + f n
theorem il_D_s (n : Nat) (f : Nat → Int32) : il_D (n + 1) f = il_D n f + f n := rfl
theorem il_D_ext (f : Nat → Int32) (a : Nat) (h : ∀ p, a ≤ p → f p = 0) : ∀ e, il_D (a + e) f = il_D a f
  | 0 => rfl
  | e + 1 => by
    show il_D (a + e) f + f (a + e) = il_D a f
    rw [il_D_ext f a h e, h (a + e) (by omega), Int32.add_zero]
def il_F (c : Nat → Nat) (g : Nat → Option Nat) (v : Nat → Int32) (d : Nat → Option Nat) (p : Nat) : Int32 := nI (p + 1) * il_val c g v d p
theorem il_dig (c : Nat → Nat) (g : Nat → Option Nat) (v : Nat → Int32) (d : Nat → Option Nat) (hc : ∀ m, c m ≤ 8) : il_D 48 (il_F c g v d) = il_D (il_S 6 c) (il_F c g v d) := by
  have hb : il_S 6 c ≤ 6 * 8 := il_S_le 6 (fun i _ => hc i)
  have h := il_D_ext (il_F c g v d) (il_S 6 c) (fun p hp => by unfold il_F; rw [il_val_no g v d hp, Int32.mul_zero]) (48 - il_S 6 c)
  have e : il_S 6 c + (48 - il_S 6 c) = 48 := by omega
  rw [e] at h
  exact h
/-! ===== references: by modules and words, by places ===== -/
def il_rf (c : Nat → Nat) (g : Nat → Option Nat) (k n : Nat) : Nat := il_S (c k) (fun w => if g (8 * k + w) = some n then 1 else 0)
def il_rt (c : Nat → Nat) (g : Nat → Option Nat) (n : Nat) : Nat := il_S 6 (fun k => il_rf c g k n)
theorem il_rf_le {c : Nat → Nat} (g : Nat → Option Nat) (k n : Nat) (hc : ∀ m, c m ≤ 8) : il_rf c g k n ≤ 8 := by
  have h := il_S_le (f := fun w => if g (8 * k + w) = some n then 1 else 0) (b := 1) (c k) (fun i _ => by show (if g (8 * k + i) = some n then 1 else 0) ≤ 1; split <;> omega)
  have h2 := hc k
  unfold il_rf
  omega
theorem il_fold (c q : Nat → Nat) (hc : ∀ m, c m ≤ 8) : il_S 48 (fun i => if i % 8 < c (i / 8) then q i else 0) = il_S 6 (fun k => il_S (c k) (fun w => q (8 * k + w))) := by
  refine (il_S_flat 8 (fun i => if i % 8 < c (i / 8) then q i else 0) 6).trans (il_S_congr 6 fun k _ => ?_)
  have e : ∀ w, w < 8 → (if (8 * k + w) % 8 < c ((8 * k + w) / 8) then q (8 * k + w) else 0) = if w < c k then q (8 * k + w) else 0 := by
    intro w hw
    rw [show (8 * k + w) % 8 = w from by omega, show (8 * k + w) / 8 = k from by omega]
  refine (il_S_congr 8 e).trans ?_
  have h2 := il_S_cut (fun w => q (8 * k + w)) (c k) (8 - c k)
  rw [Nat.add_sub_cancel' (hc k)] at h2
  exact h2
theorem il_uses (c : Nat → Nat) (g : Nat → Option Nat) (n : Nat) (hc : ∀ m, c m ≤ 8) : il_S 48 (fun i => if i % 8 < c (i / 8) then (if g i = some n then 1 else 0) else 0) = il_rt c g n :=
  il_fold c (fun i => if g i = some n then 1 else 0) hc
/-! ===== undefined ===== -/
def il_ud (d : Nat → Option Nat) (o : Option Nat) : Bool := match o with
  | none => false
  | some n => (il_mf d n).isNone
theorem il_pick (f : Nat → Nat) (N k : Nat) (h : k < N) : il_S N (fun n => if some k = some n then f n else 0) = f k := by
  have e : ∀ n, n < N → (if some k = some n then f n else 0) = if n = k then f n else 0 := by
    intro n _
    by_cases h : n = k
    · subst h; rw [if_pos rfl, if_pos rfl]
    · rw [if_neg h, if_neg (fun z => h (Option.some.inj z).symm)]
  refine (il_S_congr N e).trans ?_
  rw [il_S_one, if_pos h]
theorem il_undef (c : Nat → Nat) (g d : Nat → Option Nat) (hc : ∀ m, c m ≤ 8) (hg : ∀ i k, g i = some k → k < 10) : il_S 48 (fun i => if i % 8 < c (i / 8) then (if il_ud d (g i) = true then 1 else 0) else 0) = il_S 10 (fun n => if il_mf d n = none then il_rt c g n else 0) := by
  refine (il_fold c (fun i => if il_ud d (g i) = true then 1 else 0) hc).trans ?_
  have e1 : ∀ n, n < 10 → (if il_mf d n = none then il_rt c g n else 0) = il_S 6 (fun k => il_S (c k) (fun w => if g (8 * k + w) = some n then (if il_mf d n = none then 1 else 0) else 0)) := by
    intro n _
    by_cases h : il_mf d n = none
    · rw [if_pos h]
      exact il_S_congr 6 fun k _ => il_S_congr (c k) fun w _ => by rw [if_pos h]
    · rw [if_neg h]
      refine ((il_S_congr 6 fun k _ => ?_).trans (il_S_zero 6)).symm
      refine (il_S_congr (c k) fun w _ => ?_).trans (il_S_zero (c k))
      show (if g (8 * k + w) = some n then (if il_mf d n = none then 1 else 0) else 0) = 0
      rw [if_neg h]
      split <;> rfl
  refine Eq.trans ?_ (il_S_congr 10 e1).symm
  refine Eq.trans ?_ (il_S_comm (fun n k => il_S (c k) (fun w => if g (8 * k + w) = some n then (if il_mf d n = none then 1 else 0) else 0)) 6 10).symm
  refine il_S_congr 6 fun k _ => ?_
  refine Eq.trans ?_ (il_S_comm (fun n w => if g (8 * k + w) = some n then (if il_mf d n = none then 1 else 0) else 0) (c k) 10).symm
  refine il_S_congr (c k) fun w _ => ?_
  show (if il_ud d (g (8 * k + w)) = true then 1 else 0) = il_S 10 (fun n => if g (8 * k + w) = some n then (if il_mf d n = none then 1 else 0) else 0)
  cases hk : g (8 * k + w) with
  | none =>
    have e0 : ∀ n, n < 10 → (if (none : Option Nat) = some n then (if il_mf d n = none then 1 else 0) else 0) = 0 := fun n _ => if_neg (fun z => by cases z)
    exact ((il_S_congr 10 e0).trans (il_S_zero 10)).symm
  | some a =>
    rw [il_pick (fun n => if il_mf d n = none then 1 else 0) 10 a (hg _ _ hk)]
    show (if (il_mf d a).isNone = true then 1 else 0) = if il_mf d a = none then 1 else 0
    cases il_mf d a with
    | none => rfl
    | some b => rfl
/-! ===== idle ===== -/
def il_df (d : Nat → Option Nat) (n : Nat) : Nat := il_S 6 (fun m => if (d (10 * m + n)).isSome = true then 1 else 0)
def il_id (d : Nat → Option Nat) (i : Nat) : Nat := if (d i).isSome = true then (if il_mf d (i % 10) = some (i / 10) then 0 else 1) else 0
theorem il_df_le (d : Nat → Option Nat) (n : Nat) : il_df d n ≤ 6 := by
  have h := il_S_le (f := fun m => if (d (10 * m + n)).isSome = true then 1 else 0) (b := 1) 6 (fun i _ => by show (if (d (10 * i + n)).isSome = true then 1 else 0) ≤ 1; split <;> omega)
  unfold il_df
  omega
theorem il_idle1 (d : Nat → Option Nat) (n : Nat) : il_S 6 (fun m => if (d (10 * m + n)).isSome = true then (if il_mf d n = some m then 0 else 1) else 0) = il_df d n - 1 := by
  have hf : ¬ (false = true) := by decide
  cases h : il_mf d n with
  | none =>
    have hz := il_mf_none h
    have e1 : il_df d n = 0 := by
      refine (il_S_congr 6 fun m hm => ?_).trans (il_S_zero 6)
      show (if (d (10 * m + n)).isSome = true then 1 else 0) = 0
      rw [hz m hm, if_neg hf]
    rw [e1]
    refine (il_S_congr 6 fun m hm => ?_).trans (il_S_zero 6)
    show (if (d (10 * m + n)).isSome = true then _ else 0) = 0
    rw [hz m hm, if_neg hf]
  | some k =>
    obtain ⟨hk, a, ha⟩ := il_mf_some h
    have e2 : ∀ m, m < 6 → (if (d (10 * m + n)).isSome = true then 1 else 0) = (if (d (10 * m + n)).isSome = true then (if some k = some m then 0 else 1) else 0) + (if m = k then 1 else 0) := by
      intro m _
      by_cases hm : m = k
      · subst hm
        rw [ha]; simp
      · have hm' : ¬ some k = some m := fun z => hm (Option.some.inj z).symm
        rw [if_neg hm, if_neg hm', Nat.add_zero]
    have e3 : il_df d n = il_S 6 (fun m => if (d (10 * m + n)).isSome = true then (if some k = some m then 0 else 1) else 0) + 1 := by
      refine (il_S_congr 6 e2).trans ?_
      refine (il_S_add (fun m => if (d (10 * m + n)).isSome = true then (if some k = some m then 0 else 1) else 0) (fun m => if m = k then 1 else 0) 6).trans ?_
      exact congrArg (fun z => il_S 6 (fun m => if (d (10 * m + n)).isSome = true then (if some k = some m then 0 else 1) else 0) + z) ((il_S_one (fun _ => 1) k 6).trans (if_pos hk))
    rw [e3, Nat.add_sub_cancel]
theorem il_idle (d : Nat → Option Nat) : il_S 60 (il_id d) = il_S 10 (fun n => il_df d n - 1) := by
  refine (il_S_flat 10 (il_id d) 6).trans ?_
  have e : ∀ m, m < 6 → il_S 10 (fun n => il_id d (10 * m + n)) = il_S 10 (fun n => if (d (10 * m + n)).isSome = true then (if il_mf d n = some m then 0 else 1) else 0) := by
    intro m _
    refine il_S_congr 10 fun n hn => ?_
    unfold il_id
    rw [show (10 * m + n) % 10 = n from by omega, show (10 * m + n) / 10 = m from by omega]
  refine (il_S_congr 6 e).trans ?_
  refine (il_S_comm (fun m n => if (d (10 * m + n)).isSome = true then (if il_mf d n = some m then 0 else 1) else 0) 10 6).trans ?_
  exact il_S_congr 10 fun n _ => il_idle1 d n
/-! ===== users ===== -/
def il_O : Nat → (Nat → Int32) → Int32
  | 0, _ => 0
  | n + 1, f => il_O n f ||| f n
theorem il_O_s (n : Nat) (f : Nat → Int32) : il_O (n + 1) f = il_O n f ||| f n := rfl
theorem il_O_b (f : Nat → Int32) (j : Nat) : ∀ n, bt (il_O n f) j = true ↔ ∃ i, i < n ∧ bt (f i) j = true
  | 0 => ⟨fun h => by rw [show il_O 0 f = 0 from rfl, b_0] at h; exact absurd h (by decide), fun ⟨i, h, _⟩ => absurd h (Nat.not_lt_zero i)⟩
  | n + 1 => by
    have ih := il_O_b f j n
    rw [il_O_s, b_or, Bool.or_eq_true, ih]
    constructor
    · intro h
      cases h with
      | inl h => obtain ⟨i, hi, hb⟩ := h; exact ⟨i, Nat.lt_succ_of_lt hi, hb⟩
      | inr h => exact ⟨n, Nat.lt_succ_self n, h⟩
    · intro ⟨i, hi, hb⟩
      by_cases h : i = n
      · subst h; exact Or.inr hb
      · exact Or.inl ⟨i, by omega, hb⟩
def il_sh (k : Nat) : Int32 := (1 : Int32) <<< (nI k &&& 31)
def il_ub (d : Nat → Option Nat) (m : Nat) (o : Option Nat) : Bool := match o with
  | none => false
  | some n => decide (il_mf d n = some m)
def il_mr (c : Nat → Nat) (g : Nat → Option Nat) (n : Nat) : Int32 := il_O 6 (fun k => if 0 < il_rf c g k n then il_sh k else 0)
theorem il_if_b {p : Prop} [Decidable p] {x : Int32} {j : Nat} : bt (if p then x else 0) j = true ↔ p ∧ bt x j = true := by
  by_cases h : p
  · rw [if_pos h]; exact ⟨fun z => ⟨h, z⟩, fun z => z.2⟩
  · rw [if_neg h, b_0]; exact ⟨fun z => absurd z (by decide), fun z => absurd z.1 h⟩
theorem il_rf_pos (c : Nat → Nat) (g : Nat → Option Nat) (k n : Nat) : 0 < il_rf c g k n ↔ ∃ w, w < c k ∧ g (8 * k + w) = some n := by
  unfold il_rf
  rw [il_S_pos]
  constructor
  · intro ⟨w, hw, h⟩
    refine ⟨w, hw, ?_⟩
    by_cases e : g (8 * k + w) = some n
    · exact e
    · rw [if_neg e] at h; exact absurd h (Nat.lt_irrefl 0)
  · intro ⟨w, hw, e⟩
    exact ⟨w, hw, by rw [if_pos e]; decide⟩
theorem il_users (c : Nat → Nat) (g d : Nat → Option Nat) (m : Nat) (hc : ∀ m, c m ≤ 8) (hg : ∀ i k, g i = some k → k < 10) : il_O 48 (fun i => if i % 8 < c (i / 8) ∧ il_ub d m (g i) = true then il_sh (i / 8) else 0) = il_O 10 (fun n => if il_mf d n = some m then il_mr c g n else 0) := by
  apply b_ext
  intro j _
  apply Bool.eq_iff_iff.mpr
  rw [il_O_b, il_O_b]
  constructor
  · intro ⟨i, hi, hb⟩
    obtain ⟨⟨h1, h2⟩, h3⟩ := il_if_b.mp hb
    cases hk : g i with
    | none =>
      rw [hk] at h2
      have h2' : false = true := h2
      cases h2'
    | some n =>
      rw [hk] at h2
      have h4 : il_mf d n = some m := of_decide_eq_true h2
      refine ⟨n, hg i n hk, il_if_b.mpr ⟨h4, (il_O_b _ j 6).mpr ⟨i / 8, by omega, il_if_b.mpr ⟨(il_rf_pos c g (i / 8) n).mpr ⟨i % 8, h1, ?_⟩, h3⟩⟩⟩⟩
      rw [show 8 * (i / 8) + i % 8 = i from by omega]
      exact hk
  · intro ⟨n, hn, hb⟩
    obtain ⟨h4, h5⟩ := il_if_b.mp hb
    obtain ⟨k, hk, h6⟩ := (il_O_b _ j 6).mp h5
    obtain ⟨h7, h8⟩ := il_if_b.mp h6
    obtain ⟨w, hw, hgw⟩ := (il_rf_pos c g k n).mp h7
    have hw8 := hc k
    refine ⟨8 * k + w, by omega, il_if_b.mpr ⟨⟨?_, ?_⟩, ?_⟩⟩
    · rw [show (8 * k + w) % 8 = w from by omega, show (8 * k + w) / 8 = k from by omega]; exact hw
    · rw [hgw]; exact decide_eq_true h4
    · rw [show (8 * k + w) / 8 = k from by omega]; exact h8
end
section
/-! ===== words that move, definitions that move ===== -/
def il_opn {α : Type} : Nat → Nat → (Nat → α) → (Nat → α)
  | 0, _, f => f
  | n + 1, i, f => il_opn n i (il_up f (i + n + 1) (f (i + n)))
def il_cls {α : Type} : Nat → Nat → (Nat → α) → (Nat → α)
  | 0, _, f => f
  | n + 1, i, f => il_cls n (i + 1) (il_up f i (f (i + 1)))
def il_fil {α : Type} (q : α → α) : Nat → Nat → (Nat → α) → (Nat → α)
  | 0, _, f => f
  | n + 1, i, f => il_fil q n (i + 1) (il_up f i (q (f i)))
theorem il_up_all {α : Type} {P : α → Prop} {f : Nat → α} {x : α} (k : Nat) (h : ∀ i, P (f i)) (hx : P x) : ∀ i, P (il_up f k x i) := by
  intro i
  by_cases e : i = k
  · subst e; rw [il_us]; exact hx
  · rw [il_un f x e]; exact h i
theorem il_opn_all {α : Type} {P : α → Prop} : ∀ n i (f : Nat → α), (∀ j, P (f j)) → ∀ j, P (il_opn n i f j)
  | 0, _, _, h => h
  | n + 1, i, f, h => il_opn_all n i _ (il_up_all (i + n + 1) h (h (i + n)))
theorem il_cls_all {α : Type} {P : α → Prop} : ∀ n i (f : Nat → α), (∀ j, P (f j)) → ∀ j, P (il_cls n i f j)
  | 0, _, _, h => h
  | n + 1, i, f, h => il_cls_all n (i + 1) _ (il_up_all i h (h (i + 1)))
theorem il_fil_eq {α : Type} (q : α → α) : ∀ n i (f : Nat → α) (j : Nat), il_fil q n i f j = if i ≤ j ∧ j < i + n then q (f j) else f j
  | 0, i, f, j => by rw [if_neg (by omega)]; rfl
  | n + 1, i, f, j => by
    show il_fil q n (i + 1) (il_up f i (q (f i))) j = _
    rw [il_fil_eq q n (i + 1)]
    by_cases e : j = i
    · subst e
      rw [if_neg (by omega), if_pos (by omega), il_us]
    · rw [il_un f _ e]
      by_cases h : i + 1 ≤ j ∧ j < i + 1 + n
      · rw [if_pos h, if_pos (by omega)]
      · rw [if_neg h, if_neg (by omega)]
def il_ok (c : Nat → Nat) (g d : Nat → Option Nat) : Prop :=
  (∀ m, c m ≤ 8) ∧ (∀ i k, g i = some k → k < 10) ∧ (∀ m n k, m < 6 → n < 10 → d (10 * m + n) = some k → k ≤ c m)
/-- the definitions of module m through q: those of the others stay -/
theorem il_ok_fil {c c' : Nat → Nat} {g g' d : Nat → Option Nat} {m x : Nat} (q : Option Nat → Option Nat) (I : il_ok c g d) (hx : x ≤ 8) (hc : c' = il_up c m x) (hg : ∀ i k, g' i = some k → k < 10) (hq : ∀ o k, (∀ j, o = some j → j ≤ c m) → q o = some k → k ≤ x) : il_ok c' g' (il_fil q 10 (10 * m) d) := by
  subst hc
  refine ⟨fun j => ?_, hg, fun j n k hj hn h => ?_⟩
  · by_cases e : j = m
    · subst e; rw [il_us]; exact hx
    · rw [il_un c x e]; exact I.1 j
  · rw [il_fil_eq] at h
    by_cases e : j = m
    · subst e
      rw [if_pos (by omega)] at h
      rw [il_us]
      exact hq _ k (fun a ha => I.2.2 j n a hj hn ha) h
    · rw [if_neg (by omega)] at h
      rw [il_un c x e]
      exact I.2.2 j n k hj hn h
def il_qi (w : Nat) (o : Option Nat) : Option Nat := match o with
  | none => none
  | some k => if w ≤ k then some (k + 1) else some k
def il_qd (w : Nat) (o : Option Nat) : Option Nat := match o with
  | none => none
  | some k => if w < k then some (k - 1) else some k
theorem il_qi_ok {w x : Nat} (o : Option Nat) (k : Nat) (h : ∀ j, o = some j → j ≤ x) (e : il_qi w o = some k) : k ≤ x + 1 := by
  cases o with
  | none =>
    have e' : (none : Option Nat) = some k := e
    cases e'
  | some a =>
    have ha := h a rfl
    change (if w ≤ a then some (a + 1) else some a) = some k at e
    by_cases z : w ≤ a
    · rw [if_pos z] at e; cases e; omega
    · rw [if_neg z] at e; cases e; omega
theorem il_qd_ok {w x : Nat} (hw : w < x) (o : Option Nat) (k : Nat) (h : ∀ j, o = some j → j ≤ x) (e : il_qd w o = some k) : k ≤ x - 1 := by
  cases o with
  | none =>
    have e' : (none : Option Nat) = some k := e
    cases e'
  | some a =>
    have ha := h a rfl
    change (if w < a then some (a - 1) else some a) = some k at e
    by_cases z : w < a
    · rw [if_pos z] at e; cases e; omega
    · rw [if_neg z] at e; cases e; omega
theorem il_ok_add {c : Nat → Nat} {g d : Nat → Option Nat} {m s : Nat} {o : Option Nat} (I : il_ok c g d) (h8 : c m < 8) (ho : ∀ k, o = some k → k < 10) : il_ok (il_up c m (c m + 1)) (il_up g s o) d := by
  refine ⟨fun j => ?_, fun i => il_up_all (P := fun a => ∀ k, a = some k → k < 10) s I.2.1 ho i, fun j n k hj hn h => ?_⟩
  · by_cases e : j = m
    · subst e; rw [il_us]; omega
    · rw [il_un c _ e]; exact I.1 j
  · have := I.2.2 j n k hj hn h
    by_cases e : j = m
    · subst e; rw [il_us]; omega
    · rw [il_un c _ e]; exact this
theorem il_ok_name {c : Nat → Nat} {g d : Nat → Option Nat} {s : Nat} {o : Option Nat} (I : il_ok c g d) (ho : ∀ k, o = some k → k < 10) : il_ok c (il_up g s o) d :=
  ⟨I.1, fun i => il_up_all (P := fun a => ∀ k, a = some k → k < 10) s I.2.1 ho i, I.2.2⟩
theorem il_ok_def {c : Nat → Nat} {g d : Nat → Option Nat} {m n : Nat} {o : Option Nat} (I : il_ok c g d) (hm : m < 6) (hn : n < 10) (ho : ∀ k, o = some k → k ≤ c m) : il_ok c g (il_up d (10 * m + n) o) := by
  refine ⟨I.1, I.2.1, fun j b k hj hb h => ?_⟩
  by_cases e : 10 * j + b = 10 * m + n
  · have : j = m := by omega
    subst this
    rw [e, il_us] at h
    exact ho k h
  · rw [il_un d _ e] at h
    exact I.2.2 j b k hj hb h
end
section
/-! ===== numbers, branches ===== -/
theorem il_s8 (m w : Nat) : nI m * 8 + nI w = nI (8 * m + w) := by
  rw [show (8 : Int32) = nI 8 from rfl, pk_mul, nI_add, Nat.mul_comm]
theorem il_s8' (m w : Nat) : 8 * nI m + nI w = nI (8 * m + w) := by
  rw [show (8 : Int32) = nI 8 from rfl, pk_mul, nI_add]
theorem il_s10 (m w : Nat) : nI m * 10 + nI w = nI (10 * m + w) := by
  rw [show (10 : Int32) = nI 10 from rfl, pk_mul, nI_add, Nat.mul_comm]
theorem il_s10' (m w : Nat) : 10 * nI m + nI w = nI (10 * m + w) := by
  rw [show (10 : Int32) = nI 10 from rfl, pk_mul, nI_add]
theorem il_m8 (m : Nat) : 8 * nI m = nI (8 * m) := by
  rw [show (8 : Int32) = nI 8 from rfl, pk_mul]
theorem il_m10 (m : Nat) : 10 * nI m = nI (10 * m) := by
  rw [show (10 : Int32) = nI 10 from rfl, pk_mul]
theorem il_a10 (m : Nat) : nI m + 10 = nI (m + 10) := nI_add m 10
theorem il_p1 (m : Nat) : nI (m + 1) - 1 = nI m := nI_pred m
theorem il_bx {o : Option Nat} {A B : Prop} (hb : ∀ k, o = some k → k < 2 ^ 31) (f : o = none → A) (g : ∀ k, o = some k → B) : (il_xo o = -1 → A) ∧ (¬ il_xo o = -1 → B) := by
  cases o with
  | none => exact br_t rfl (f rfl)
  | some k => exact br_f (il_nm1 (hb k rfl)) (g k rfl)
theorem il_by {o : Option Nat} {A B : Prop} (hb : ∀ k, o = some k → k < 2 ^ 31) (f : o = none → A) (g : ∀ k, o = some k → B) : (il_yo o = -4 → A) ∧ (¬ il_yo o = -4 → B) := by
  cases o with
  | none => exact br_t rfl (f rfl)
  | some k => exact br_f (il_nm4 (hb k rfl)) (g k rfl)
theorem il_byn {o : Option Nat} {A B : Prop} (hb : ∀ k, o = some k → k < 2 ^ 31) (f : o = none → A) (g : ∀ k, o = some k → B) : (il_yo o < 0 → A) ∧ (¬ il_yo o < 0 → B) := by
  cases o with
  | none => exact br_t (show (-4 : Int32) < 0 from by decide) (f rfl)
  | some k => exact br_f (nI_pos (hb k rfl)) (g k rfl)
theorem il_byp {o : Option Nat} {A B : Prop} (hb : ∀ k, o = some k → k < 2 ^ 31) (f : ∀ k, o = some k → A) (g : o = none → B) : (0 ≤ il_yo o → A) ∧ (¬ 0 ≤ il_yo o → B) := by
  cases o with
  | none => exact br_f (show ¬ (0 : Int32) ≤ -4 from by decide) (g rfl)
  | some k => exact br_t (nI_pos' (hb k rfl)) (f k rfl)
theorem il_xge {o : Option Nat} {A B : Prop} (w : Nat) (hw : w < 2 ^ 31) (hb : ∀ k, o = some k → k < 2 ^ 31) (f : (∀ k, o = some k → k < w) → A) (g : ∀ k, o = some k → w ≤ k → B) : (il_xo o < nI w → A) ∧ (¬ il_xo o < nI w → B) := by
  cases o with
  | none =>
    have h : (-1 : Int32) < nI w := by
      rw [Int32.lt_iff_toInt_lt, nI_toInt hw, show (-1 : Int32).toInt = -1 from by decide]
      omega
    exact br_t h (f (fun k z => by cases z))
  | some k =>
    have hk := hb k rfl
    by_cases h : k < w
    · exact br_t (nI_lt h hw) (f (fun j z => by cases z; exact h))
    · exact br_f (nI_nlt (by omega) hk) (g k rfl (by omega))
theorem il_yge {o : Option Nat} {A B : Prop} (w : Nat) (hw : w < 2 ^ 31) (hb : ∀ k, o = some k → k < 2 ^ 31) (f : (∀ k, o = some k → k < w) → A) (g : ∀ k, o = some k → w ≤ k → B) : (il_yo o < nI w → A) ∧ (¬ il_yo o < nI w → B) := by
  cases o with
  | none =>
    have h : (-4 : Int32) < nI w := by
      rw [Int32.lt_iff_toInt_lt, nI_toInt hw, show (-4 : Int32).toInt = -4 from by decide]
      omega
    exact br_t h (f (fun k z => by cases z))
  | some k =>
    have hk := hb k rfl
    by_cases h : k < w
    · exact br_t (nI_lt h hw) (f (fun j z => by cases z; exact h))
    · exact br_f (nI_nlt (by omega) hk) (g k rfl (by omega))
theorem il_yle {o : Option Nat} {A B : Prop} (w : Nat) (hw : w < 2 ^ 31) (hb : ∀ k, o = some k → k < 2 ^ 31) (f : (∀ k, o = some k → k ≤ w) → A) (g : ∀ k, o = some k → w < k → B) : (il_yo o ≤ nI w → A) ∧ (¬ il_yo o ≤ nI w → B) := by
  cases o with
  | none =>
    have h : (-4 : Int32) ≤ nI w := by
      rw [Int32.le_iff_toInt_le, nI_toInt hw, show (-4 : Int32).toInt = -4 from by decide]
      omega
    exact br_t h (f (fun k z => by cases z))
  | some k =>
    have hk := hb k rfl
    by_cases h : k ≤ w
    · exact br_t (nI_le h hw) (f (fun j z => by cases z; exact h))
    · exact br_f (nI_ge (by omega) hk) (g k rfl (by omega))
theorem il_db {c : Nat → Nat} {g d : Nat → Option Nat} (I : il_ok c g d) {m n : Nat} (hm : m < 6) (hn : n < 10) : ∀ k, d (10 * m + n) = some k → k < 2 ^ 31 := by
  intro k h
  have h1 := I.2.2 m n k hm hn h
  have h2 := I.1 m
  omega
theorem il_gb {c : Nat → Nat} {g d : Nat → Option Nat} (I : il_ok c g d) (i : Nat) : ∀ k, g i = some k → k < 2 ^ 31 := by
  intro k h
  have h1 := I.2.1 i k h
  omega
theorem il_mb {d : Nat → Option Nat} {n : Nat} : ∀ k, il_mf d n = some k → k < 2 ^ 31 := by
  intro k h
  have h1 := (il_mf_some h).1
  omega
theorem il_S48 {c : Nat → Nat} (hc : ∀ m, c m ≤ 8) {m : Nat} (hm : m ≤ 6) : il_S m c ≤ 48 := by
  have h := il_S_le (f := c) (b := 8) m (fun i _ => hc i)
  omega
theorem il_whb {c : Nat → Nat} {g d : Nat → Option Nat} (I : il_ok c g d) {n : Nat} (hn : n < 10) : ∀ a, il_wh c d n = some a → a < 2 ^ 31 := by
  intro a h
  unfold il_wh at h
  cases hm : il_mf d n with
  | none => rw [hm] at h; cases h
  | some m =>
    rw [hm] at h
    have h' : some (il_S m c + il_dd d (10 * m + n)) = some a := h
    have h2 := Option.some.inj h'
    obtain ⟨h3, k, h4⟩ := il_mf_some hm
    have h5 := I.2.2 m n k h3 hn h4
    have h6 := I.1 m
    have h7 := il_S48 I.1 (m := m) (by omega)
    have h8 : il_dd d (10 * m + n) = k := by unfold il_dd; rw [h4]; rfl
    omega
theorem il_xne {o : Option Nat} {n : Nat} (hn : n < 2 ^ 31) (hb : ∀ k, o = some k → k < 2 ^ 31) (h : ¬ o = some n) : ¬ il_xo o = nI n := by
  cases o with
  | none => exact fun z => il_nm1 hn z.symm
  | some k => exact fun z => h (congrArg some ((nI_eq (hb k rfl) hn).mp z))
theorem il_yne {o : Option Nat} {n : Nat} (hn : n < 2 ^ 31) (hb : ∀ k, o = some k → k < 2 ^ 31) (h : ¬ o = some n) : ¬ il_yo o = nI n := by
  cases o with
  | none => exact fun z => il_nm4 hn z.symm
  | some k => exact fun z => h (congrArg some ((nI_eq (hb k rfl) hn).mp z))
theorem il_dv8 {i : Nat} (h : i < 2 ^ 31) : nI i / 8 = nI (i / 8) := pk_div h (d := 8) (by omega) (by omega)
theorem il_rm8 {i : Nat} (h : i < 2 ^ 31) : nI i - nI i / 8 * 8 = nI (i % 8) := pk_rem h (d := 8) (by omega) (by omega)
theorem il_dv10 {i : Nat} (h : i < 2 ^ 31) : nI i / 10 = nI (i / 10) := pk_div h (d := 10) (by omega) (by omega)
theorem il_rm10 {i : Nat} (h : i < 2 ^ 31) : nI i - nI i / 10 * 10 = nI (i % 10) := pk_rem h (d := 10) (by omega) (by omega)
/-! ===== arguments: out of range, or a natural below n ===== -/
def il_bad (n : Nat) (x : Int32) : Prop := x < 0 ∨ ∃ j : Nat, n ≤ j ∧ j < 2 ^ 31 ∧ x = nI j
theorem il_ix (x : Int32) (n : Nat) : il_bad n x ∨ ∃ j : Nat, j < n ∧ j < 2 ^ 31 ∧ x = nI j := by
  by_cases h : x < 0
  · exact Or.inl (Or.inl h)
  · obtain ⟨j, hj, e⟩ := nI_of h
    by_cases h2 : j < n
    · exact Or.inr ⟨j, h2, hj, e⟩
    · exact Or.inl (Or.inr ⟨j, by omega, hj, e⟩)
def il_fl (o : Option Nat) : Int32 := match o with
  | none => 0
  | some _ => 1
theorem il_n8 {a : Nat} (h : a < 8) : ¬ nI a = 8 := fun z => by
  have := (nI_eq (a := a) (b := 8) (by omega) (by decide)).mp z
  omega
theorem il_qi1 {w k : Nat} (h : k < w) : il_qi w (some k) = some k := if_neg (by omega)
theorem il_qi2 {w k : Nat} (h : w ≤ k) : il_qi w (some k) = some (k + 1) := if_pos h
theorem il_qd1 {w k : Nat} (h : k ≤ w) : il_qd w (some k) = some k := if_neg (by omega)
theorem il_qd2 {w k : Nat} (h : w < k) : il_qd w (some k) = some (k - 1) := if_pos h
theorem il_m1 {k : Nat} (h : 0 < k) : nI k + (-1) = nI (k - 1) := by
  obtain ⟨j, rfl⟩ : ∃ j, k = j + 1 := ⟨k - 1, by omega⟩
  exact pk_m1 j
theorem il_mi1 {k : Nat} (h : 0 < k) : nI k - 1 = nI (k - 1) := by
  obtain ⟨j, rfl⟩ : ∃ j, k = j + 1 := ⟨k - 1, by omega⟩
  exact nI_pred j
end
section
/-! ===== the component's readers ===== -/
abbrev il_X (c : Nat → Nat) (g : Nat → Option Nat) (v : Nat → Int32) (d : Nat → Option Nat) : SX := ((fun i => nI (c i)), (fun i => il_xo (g i)), v, (fun i => il_xo (d i)))
abbrev il_Y (c : Nat → Nat) (g : Nat → Option Nat) (v : Nat → Int32) (d : Nat → Option Nat) : SY := ((fun i => il_yo (g i)), v, (fun i => nI (c i)), (fun i => il_yo (d i)))
section XR
variable {c : Nat → Nat} {g : Nat → Option Nat} {v : Nat → Int32} {d : Nat → Option Nat}
theorem ix_isM {post : Int32 → Prop} {m : Nat} (hm : m < 6) (h : post 1) : wpX_isModule post (nI m) :=
  br_f (nI_pos (by omega)) (br_f (nI_ge (b := 6) hm (by decide)) h)
theorem ix_isMn {post : Int32 → Prop} {x : Int32} (hx : x < 0) (h : post 0) : wpX_isModule post x := br_t hx h
theorem ix_isMb {post : Int32 → Prop} {m : Nat} (hm : 6 ≤ m) (h2 : m < 2 ^ 31) (h : post 0) : wpX_isModule post (nI m) :=
  br_f (nI_pos h2) (br_t (nI_le (a := 6) hm h2) h)
theorem ix_isN {post : Int32 → Prop} {m : Nat} (hm : m < 10) (h : post 1) : wpX_isName post (nI m) :=
  br_f (nI_pos (by omega)) (br_f (nI_ge (b := 10) hm (by decide)) h)
theorem ix_isNn {post : Int32 → Prop} {x : Int32} (hx : x < 0) (h : post 0) : wpX_isName post x := br_t hx h
theorem ix_isNb {post : Int32 → Prop} {m : Nat} (hm : 10 ≤ m) (h2 : m < 2 ^ 31) (h : post 0) : wpX_isName post (nI m) :=
  br_f (nI_pos h2) (br_t (nI_le (a := 10) hm h2) h)
theorem ix_wb0 {post : Int32 → Prop} {m : Nat} (hm : m ≤ 6) (h : post (nI (il_S m c))) : ∀ e i, i + e = m → wX_wordsBefore_4 post (nI m) (fun i => nI (c i)) (fun i => il_xo (g i)) v (fun i => il_xo (d i)) (e + 1) (nI (il_S i c)) (nI i)
  | 0, i, hi => by
    obtain rfl : i = m := by omega
    exact br_t (nI_le (Nat.le_refl _) (by omega)) h
  | e + 1, i, hi => by
    refine br_f (nI_ge (by omega) (by omega)) ⟨vp_in_nI (by omega) (by omega), nm_r (e' := nI (il_S (i + 1) c)) ?_ (nm_r (nI_1 i) (ix_wb0 hm h e (i + 1) (by omega)))⟩
    rw [nI_clamp (by omega)]
    exact nI_add _ _
theorem ix_wb {post : Int32 → Prop} {m : Nat} (hm : m ≤ 6) (h : post (nI (il_S m c))) : wpX_wordsBefore post (il_X c g v d) (nI m) :=
  ⟨m + 1, ix_wb0 hm h m 0 (by omega)⟩
theorem ix_ma0 {post : Int32 → Prop} {p : Nat} (hc : ∀ m, c m ≤ 8) (hp : p < 2 ^ 31) : ∀ e i, i + e = 6 → post (il_xo (il_ff (fun m => decide (p < il_S (m + 1) c)) e i)) → wX_moduleAt_10 post (nI p) (fun i => nI (c i)) (fun i => il_xo (g i)) v (fun i => il_xo (d i)) (e + 1) (nI (il_S i c)) (nI i)
  | 0, i, hi, h => by
    obtain rfl : i = 6 := by omega
    exact br_t (nI_le (a := 6) (Nat.le_refl _) (by decide)) h
  | e + 1, i, hi, h => by
    have hb := il_S48 hc (m := i + 1) (by omega)
    refine br_f (nI_ge (b := 6) (by omega) (by decide)) ⟨vp_in_nI (by omega) (by omega), nm_r (e' := nI (il_S (i + 1) c)) ?_ ?_⟩
    · rw [nI_clamp (by omega)]
      exact nI_add _ _
    · by_cases q : p < il_S (i + 1) c
      · rw [il_ff_t (decide_eq_true q)] at h
        exact br_f (nI_ge q (by omega)) h
      · rw [il_ff_f (P := fun m => decide (p < il_S (m + 1) c)) (by rw [decide_eq_false q]; decide)] at h
        exact br_t (nI_le (by omega) hp) (nm_r (nI_1 i) (ix_ma0 hc hp e (i + 1) (by omega) h))
theorem ix_ma {post : Int32 → Prop} {p : Nat} (hc : ∀ m, c m ≤ 8) (hp : p < 2 ^ 31) (h : post (il_xo (il_mo c p))) : wpX_moduleAt post (il_X c g v d) (nI p) :=
  br_t (nI_pos' hp) ⟨7, ix_ma0 hc hp 6 0 rfl h⟩
theorem ix_man {post : Int32 → Prop} {x : Int32} (hx : x < 0) (h : post (-1)) : wpX_moduleAt post (il_X c g v d) x :=
  br_f (Int32.not_le.mpr hx) h
theorem ix_cm0 {post : Int32 → Prop} {n : Nat} (I : il_ok c g d) (hn : n < 10) : ∀ e i, i + e = 6 → post (il_xo (il_ff (fun m => (d (10 * m + n)).isSome) e i)) → wX_countingModule_2 post (nI n) (fun i => nI (c i)) (fun i => il_xo (g i)) v (fun i => il_xo (d i)) (e + 1) (nI i)
  | 0, i, hi, h => by
    obtain rfl : i = 6 := by omega
    exact br_t (nI_le (a := 6) (Nat.le_refl _) (by decide)) h
  | e + 1, i, hi, h => by
    have hs := il_s10 i n
    refine br_f (nI_ge (b := 6) (by omega) (by decide)) ?_
    unfold wpX_definitionSlot
    dsimp only
    rw [hs, nI_clamp (by omega)]
    refine ⟨vp_in_nI (by omega) (by omega), il_bx (il_db I (by omega) hn) (fun z => ?_) (fun k z => ?_)⟩
    · rw [il_ff_f (P := fun m => (d (10 * m + n)).isSome) (by rw [z]; decide)] at h
      exact nm_r (nI_1 i) (ix_cm0 I hn e (i + 1) (by omega) h)
    · rw [il_ff_t (P := fun m => (d (10 * m + n)).isSome) (by rw [z]; rfl)] at h
      exact h
theorem ix_cm {post : Int32 → Prop} {n : Nat} (I : il_ok c g d) (hn : n < 10) (h : post (il_xo (il_mf d n))) : wpX_countingModule post (il_X c g v d) (nI n) :=
  ⟨7, ix_cm0 I hn 6 0 rfl h⟩
theorem ix_na {post : Int32 → Prop} {m n k : Nat} (hm : m < 6) (hn : n < 10) (hk : d (10 * m + n) = some k) (h : post (nI (il_S m c + k))) : wpX_nameAddress post (il_X c g v d) (nI m) (nI n) := by
  unfold wpX_nameAddress wpX_definitionSlot
  dsimp only
  refine ix_wb (by omega) ?_
  rw [il_s10 m n, nI_clamp (by omega), hk]
  refine ⟨vp_in_nI (by omega) (by omega), ?_⟩
  show post (nI (il_S m c) + nI k)
  rw [nI_add]
  exact h
theorem ix_wv {post : Int32 → Prop} {m w : Nat} (I : il_ok c g d) (hm : m < 6) (hw : w < 8) (h : post (il_wv c g v d (8 * m + w))) : wpX_wordValue post (il_X c g v d) (nI m) (nI w) := by
  unfold wpX_wordValue wpX_wordSlot
  dsimp only
  rw [il_s8 m w, nI_clamp (by omega)]
  refine ⟨vp_in_nI (by omega) (by omega), nm_e (il_bx (il_gb I _) (fun z => ?_) (fun k z => ?_))⟩
  · refine ⟨vp_in_nI (by omega) (by omega), ?_⟩
    unfold il_wv at h
    rw [z] at h
    exact h
  · have hk := I.2.1 _ _ z
    rw [z]
    refine ix_cm I hk (il_bx il_mb (fun y => ?_) (fun a y => ?_))
    · unfold il_wv il_wh at h
      rw [z] at h
      simp only [y] at h
      exact h
    · obtain ⟨ha, b, hb⟩ := il_mf_some y
      rw [y]
      refine ix_na ha hk hb ⟨vp_in_nI (by omega) (by omega), ?_⟩
      unfold il_wv il_wh il_dd at h
      rw [z] at h
      simp only [y, hb] at h
      exact h
end XR
end
section
/-! ===== the component's counting readers ===== -/
section XS
variable {c : Nat → Nat} {g : Nat → Option Nat} {v : Nat → Int32} {d : Nat → Option Nat}
theorem ix_ri0 {post : Int32 → Prop} {m n : Nat} (I : il_ok c g d) (hm : m < 6) (hn : n < 10) (h : post (nI (il_rf c g m n))) : ∀ e i, i + e = c m → wX_referencesIn_5 post (nI m) (nI n) (fun i => nI (c i)) (fun i => il_xo (g i)) v (fun i => il_xo (d i)) (e + 1) (nI (il_S i (fun w => if g (8 * m + w) = some n then 1 else 0))) (nI i)
  | 0, i, hi => by
    have h8 := I.1 m
    have e : i = c m := by omega
    subst e
    refine ⟨vp_in_nI hm (by omega), br_t ?_ h⟩
    rw [nI_clamp (by omega)]
    exact nI_le (Nat.le_refl _) (by omega)
  | e + 1, i, hi => by
    have h8 := I.1 m
    have ih := ix_ri0 I hm hn h e (i + 1) (by omega)
    refine ⟨vp_in_nI hm (by omega), br_f ?_ ?_⟩
    · rw [nI_clamp (by omega)]
      exact nI_ge (by omega) (by omega)
    · unfold wpX_wordSlot
      dsimp only
      rw [il_s8 m i, nI_clamp (by omega)]
      refine ⟨vp_in_nI (by omega) (by omega), ?_⟩
      rw [il_S_s] at ih
      by_cases q : g (8 * m + i) = some n
      · rw [if_pos q] at ih
        refine br_t (by rw [q]; rfl) (nm_r (nI_1 _) (nm_r (nI_1 i) ih))
      · rw [if_neg q] at ih
        exact br_f (il_xne (by omega) (il_gb I _) q) (nm_r (nI_1 i) ih)
theorem ix_ri {post : Int32 → Prop} {m n : Nat} (I : il_ok c g d) (hm : m < 6) (hn : n < 10) (h : post (nI (il_rf c g m n))) : wpX_referencesIn post (il_X c g v d) (nI m) (nI n) :=
  ⟨c m + 1, ix_ri0 I hm hn h (c m) 0 (by omega)⟩
theorem ix_rt0 {post : Int32 → Prop} {n : Nat} (I : il_ok c g d) (hn : n < 10) (h : post (nI (il_rt c g n))) : ∀ e i, i + e = 6 → wX_referencesTo_4 post (nI n) (fun i => nI (c i)) (fun i => il_xo (g i)) v (fun i => il_xo (d i)) (e + 1) (nI (il_S i (fun k => il_rf c g k n))) (nI i)
  | 0, i, hi => by
    have e : i = 6 := by omega
    subst e
    exact br_t (nI_le (a := 6) (Nat.le_refl _) (by decide)) h
  | e + 1, i, hi => by
    have ih := ix_rt0 I hn h e (i + 1) (by omega)
    exact br_f (nI_ge (b := 6) (by omega) (by decide)) (ix_ri I (by omega) hn (nm_r (nI_add _ _) (nm_r (nI_1 i) ih)))
theorem ix_rt {post : Int32 → Prop} {n : Nat} (I : il_ok c g d) (hn : n < 10) (h : post (nI (il_rt c g n))) : wpX_referencesTo post (il_X c g v d) (nI n) :=
  ⟨7, ix_rt0 I hn h 6 0 rfl⟩
theorem ix_mr0 {post : Int32 → Prop} {n : Nat} (I : il_ok c g d) (hn : n < 10) (h : post (il_mr c g n)) : ∀ e i, i + e = 6 → wX_modulesReferringTo_4 post (nI n) (fun i => nI (c i)) (fun i => il_xo (g i)) v (fun i => il_xo (d i)) (e + 1) (il_O i (fun k => if 0 < il_rf c g k n then il_sh k else 0)) (nI i)
  | 0, i, hi => by
    have e : i = 6 := by omega
    subst e
    exact br_t (nI_le (a := 6) (Nat.le_refl _) (by decide)) h
  | e + 1, i, hi => by
    have ih := ix_mr0 I hn h e (i + 1) (by omega)
    have h8 := il_rf_le g i n I.1
    refine br_f (nI_ge (b := 6) (by omega) (by decide)) (ix_ri I (by omega) hn ?_)
    rw [il_O_s] at ih
    by_cases q : 0 < il_rf c g i n
    · rw [if_pos q] at ih
      exact br_f (nI_nle q (by omega)) (nm_r rfl (nm_r (nI_1 i) ih))
    · rw [if_neg q, Int32.or_zero] at ih
      have z : il_rf c g i n = 0 := by omega
      exact br_t (by rw [z]; decide) (nm_r (nI_1 i) ih)
theorem ix_mr {post : Int32 → Prop} {n : Nat} (I : il_ok c g d) (hn : n < 10) (h : post (il_mr c g n)) : wpX_modulesReferringTo post (il_X c g v d) (nI n) :=
  ⟨7, ix_mr0 I hn h 6 0 rfl⟩
theorem ix_do0 {post : Int32 → Prop} {n : Nat} (I : il_ok c g d) (hn : n < 10) (h : post (nI (il_df d n))) : ∀ e i, i + e = 6 → wX_definitionsOf_4 post (nI n) (fun i => nI (c i)) (fun i => il_xo (g i)) v (fun i => il_xo (d i)) (e + 1) (nI (il_S i (fun m => if (d (10 * m + n)).isSome = true then 1 else 0))) (nI i)
  | 0, i, hi => by
    have e : i = 6 := by omega
    subst e
    exact br_t (nI_le (a := 6) (Nat.le_refl _) (by decide)) h
  | e + 1, i, hi => by
    have ih := ix_do0 I hn h e (i + 1) (by omega)
    rw [il_S_s] at ih
    refine br_f (nI_ge (b := 6) (by omega) (by decide)) ?_
    unfold wpX_definitionSlot
    dsimp only
    rw [il_s10 i n, nI_clamp (by omega)]
    refine ⟨vp_in_nI (by omega) (by omega), il_bx (il_db I (by omega) hn) (fun z => ?_) (fun k z => ?_)⟩
    · rw [if_neg (by rw [z]; decide)] at ih
      exact nm_r (nI_1 i) ih
    · rw [if_pos (by rw [z]; rfl)] at ih
      exact nm_r (nI_1 _) (nm_r (nI_1 i) ih)
theorem ix_do {post : Int32 → Prop} {n : Nat} (I : il_ok c g d) (hn : n < 10) (h : post (nI (il_df d n))) : wpX_definitionsOf post (il_X c g v d) (nI n) :=
  ⟨7, ix_do0 I hn h 6 0 rfl⟩
theorem ix_un0 {post : Int32 → Prop} (I : il_ok c g d) (h : post (nI (il_S 10 (fun n => if il_mf d n = none then il_rt c g n else 0)))) : ∀ e i, i + e = 10 → wX_undefined_4 post (fun i => nI (c i)) (fun i => il_xo (g i)) v (fun i => il_xo (d i)) (e + 1) (nI (il_S i (fun n => if il_mf d n = none then il_rt c g n else 0))) (nI i)
  | 0, i, hi => by
    have e : i = 10 := by omega
    subst e
    exact br_t (nI_le (a := 10) (Nat.le_refl _) (by decide)) h
  | e + 1, i, hi => by
    have ih := ix_un0 I h e (i + 1) (by omega)
    rw [il_S_s] at ih
    refine br_f (nI_ge (b := 10) (by omega) (by decide)) (ix_cm I (by omega) (il_bx il_mb (fun z => ?_) (fun k z => ?_)))
    · rw [if_pos z] at ih
      exact ix_rt I (by omega) (nm_r (nI_add _ _) (nm_r (nI_1 i) ih))
    · rw [if_neg (by rw [z]; intro y; cases y)] at ih
      exact nm_r (nI_1 i) ih
theorem ix_un {post : Int32 → Prop} (I : il_ok c g d) (h : post (nI (il_S 10 (fun n => if il_mf d n = none then il_rt c g n else 0)))) : wpX_undefined post (il_X c g v d) :=
  ⟨11, ix_un0 I h 10 0 rfl⟩
theorem ix_id0 {post : Int32 → Prop} (I : il_ok c g d) (h : post (nI (il_S 10 (fun n => il_df d n - 1)))) : ∀ e i, i + e = 10 → wX_idle_4 post (fun i => nI (c i)) (fun i => il_xo (g i)) v (fun i => il_xo (d i)) (e + 1) (nI (il_S i (fun n => il_df d n - 1))) (nI i)
  | 0, i, hi => by
    have e : i = 10 := by omega
    subst e
    exact br_t (nI_le (a := 10) (Nat.le_refl _) (by decide)) h
  | e + 1, i, hi => by
    have ih := ix_id0 I h e (i + 1) (by omega)
    rw [il_S_s] at ih
    have hd := il_df_le d i
    refine br_f (nI_ge (b := 10) (by omega) (by decide)) (ix_do I (by omega) ?_)
    by_cases q : il_df d i ≤ 1
    · rw [show il_df d i - 1 = 0 from by omega, Nat.add_zero] at ih
      exact br_t (nI_le (b := 1) q (by decide)) (nm_r (nI_1 i) ih)
    · refine br_f (nI_ge (a := 1) (by omega) (by omega)) (nm_r ?_ (nm_r (nI_1 i) ih))
      rw [show (1 : Int32) = nI 1 from rfl, pk_sub (by omega), nI_add]
theorem ix_id {post : Int32 → Prop} (I : il_ok c g d) (h : post (nI (il_S 10 (fun n => il_df d n - 1)))) : wpX_idle post (il_X c g v d) :=
  ⟨11, ix_id0 I h 10 0 rfl⟩
theorem ix_us0 {post : Int32 → Prop} {m : Nat} (I : il_ok c g d) (hm : m < 6) (h : post (il_O 10 (fun n => if il_mf d n = some m then il_mr c g n else 0))) : ∀ e i, i + e = 10 → wX_users_13 post (nI m) (fun i => nI (c i)) (fun i => il_xo (g i)) v (fun i => il_xo (d i)) (e + 1) (il_O i (fun n => if il_mf d n = some m then il_mr c g n else 0)) (nI i)
  | 0, i, hi => by
    have e : i = 10 := by omega
    subst e
    exact br_t (nI_le (a := 10) (Nat.le_refl _) (by decide)) h
  | e + 1, i, hi => by
    have ih := ix_us0 I hm h e (i + 1) (by omega)
    rw [il_O_s] at ih
    refine br_f (nI_ge (b := 10) (by omega) (by decide)) (ix_cm I (by omega) ?_)
    by_cases q : il_mf d i = some m
    · rw [if_pos q] at ih
      exact br_t (by rw [q]; rfl) (ix_mr I (by omega) (nm_r rfl (nm_r (nI_1 i) ih)))
    · rw [if_neg q, Int32.or_zero] at ih
      exact br_f (il_xne (by omega) il_mb q) (nm_r (nI_1 i) ih)
theorem ix_us {post : Int32 → Prop} {m : Nat} (I : il_ok c g d) (hm : m < 6) (h : post (il_O 10 (fun n => if il_mf d n = some m then il_mr c g n else 0))) : wpX_users post (il_X c g v d) (nI m) := by
  unfold wpX_users
  dsimp only
  exact ix_isM hm (br_f (by decide) ⟨11, ix_us0 I hm h 10 0 rfl⟩)
theorem ix_di1 {post : Int32 → Prop} {J : Int32 → Int32 → Int32 → Prop} {m : Nat} (I : il_ok c g d) (hm : m < 6) (h : J (il_D (il_S (m + 1) c) (il_F c g v d)) (nI (il_S (m + 1) c)) (nI (m + 1))) : ∀ e i, i + e = c m → wX_digest_15 post J (nI m) (fun i => nI (c i)) (fun i => il_xo (g i)) v (fun i => il_xo (d i)) (e + 1) (il_D (il_S m c + i) (il_F c g v d)) (nI (il_S m c + i)) (nI i)
  | 0, i, hi => by
    have h8 := I.1 m
    have e : i = c m := by omega
    subst e
    refine ⟨vp_in_nI hm (by omega), br_t ?_ (nm_r (nI_1 m) h)⟩
    rw [nI_clamp (by omega)]
    exact nI_le (Nat.le_refl _) (by omega)
  | e + 1, i, hi => by
    have h8 := I.1 m
    have ih := ix_di1 (post := post) I hm h e (i + 1) (by omega)
    refine ⟨vp_in_nI hm (by omega), br_f ?_ (ix_wv I hm (by omega) (nm_r ?_ (nm_r (nI_1 _) (nm_r (nI_1 i) ih))))⟩
    · rw [nI_clamp (by omega)]
      exact nI_ge (by omega) (by omega)
    · show _ = il_D (il_S m c + i) (il_F c g v d) + il_F c g v d (il_S m c + i)
      unfold il_F
      rw [il_val_at g v d hm (by omega), nI_1]
theorem ix_di0 {post : Int32 → Prop} (I : il_ok c g d) (h : post (il_D (il_S 6 c) (il_F c g v d))) : ∀ e i, i + e = 6 → wX_digest_6 post (fun i => nI (c i)) (fun i => il_xo (g i)) v (fun i => il_xo (d i)) (e + 1) (il_D (il_S i c) (il_F c g v d)) (nI (il_S i c)) (nI i)
  | 0, i, hi => by
    have e : i = 6 := by omega
    subst e
    exact br_t (nI_le (a := 6) (Nat.le_refl _) (by decide)) h
  | e + 1, i, hi => by
    have ih := ix_di0 I h e (i + 1) (by omega)
    exact br_f (nI_ge (b := 6) (by omega) (by decide)) ⟨c i + 1, ix_di1 I (by omega) ih (c i) 0 (by omega)⟩
theorem ix_di {post : Int32 → Prop} (I : il_ok c g d) (h : post (il_D (il_S 6 c) (il_F c g v d))) : wpX_digest post (il_X c g v d) :=
  ⟨7, ix_di0 I h 6 0 rfl⟩
end XS
end
section
/-! ===== the reference's readers ===== -/
section YR
variable {c : Nat → Nat} {g : Nat → Option Nat} {v : Nat → Int32} {d : Nat → Option Nat}
theorem iy_isM {post : Int32 → Prop} {m : Nat} (hm : m < 6) (h : post 1) : wpY_isModule post (il_Y c g v d) (nI m) :=
  br_f (nI_pos (by omega)) (br_f (nI_nlt (a := 5) (by omega) (by decide)) h)
theorem iy_isMn {post : Int32 → Prop} {x : Int32} (hx : x < 0) (h : post 0) : wpY_isModule post (il_Y c g v d) x := br_t hx h
theorem iy_isMb {post : Int32 → Prop} {m : Nat} (hm : 6 ≤ m) (h2 : m < 2 ^ 31) (h : post 0) : wpY_isModule post (il_Y c g v d) (nI m) :=
  br_f (nI_pos h2) (br_t (nI_lt (a := 5) (by omega) h2) h)
theorem iy_isN {post : Int32 → Prop} {m : Nat} (hm : m < 10) (h : post 1) : wpY_isName post (il_Y c g v d) (nI m) :=
  br_f (nI_pos (by omega)) (br_f (nI_nlt (a := 9) (by omega) (by decide)) h)
theorem iy_isNn {post : Int32 → Prop} {x : Int32} (hx : x < 0) (h : post 0) : wpY_isName post (il_Y c g v d) x := br_t hx h
theorem iy_isNb {post : Int32 → Prop} {m : Nat} (hm : 10 ≤ m) (h2 : m < 2 ^ 31) (h : post 0) : wpY_isName post (il_Y c g v d) (nI m) :=
  br_f (nI_pos h2) (br_t (nI_lt (a := 9) (by omega) h2) h)
theorem iy_bg0 {post : Int32 → Prop} {m : Nat} (hm : m ≤ 6) (h : post (nI (il_S m c))) : ∀ e i, i + e = m → wY_begin_4 post (nI m) (fun i => il_yo (g i)) v (fun i => nI (c i)) (fun i => il_yo (d i)) (e + 1) (nI (il_S i c)) (nI i)
  | 0, i, hi => by
    have e : i = m := by omega
    subst e
    exact br_t (nI_le (Nat.le_refl _) (by omega)) h
  | e + 1, i, hi => by
    refine br_f (nI_ge (by omega) (by omega)) ⟨vp_in_nI (by omega) (by omega), nm_r (e' := nI (il_S (i + 1) c)) ?_ (nm_r (nI_1 i) (iy_bg0 hm h e (i + 1) (by omega)))⟩
    rw [nI_clamp (by omega)]
    exact nI_add _ _
theorem iy_bg {post : Int32 → Prop} {m : Nat} (hm : m ≤ 6) (h : post (nI (il_S m c))) : wpY_begin post (il_Y c g v d) (nI m) :=
  ⟨m + 1, iy_bg0 hm h m 0 (by omega)⟩
theorem iy_mf0 {post : Int32 → Prop} {n : Nat} (I : il_ok c g d) (hn : n < 10) : ∀ e i, i + e = 6 → post (il_yo (il_ff (fun m => (d (10 * m + n)).isSome) e i)) → wY_moduleFor_2 post (nI n) (fun i => il_yo (g i)) v (fun i => nI (c i)) (fun i => il_yo (d i)) (e + 1) (nI i)
  | 0, i, hi, h => by
    have e : i = 6 := by omega
    subst e
    exact br_t (nI_le (a := 6) (Nat.le_refl _) (by decide)) h
  | e + 1, i, hi, h => by
    refine br_f (nI_ge (b := 6) (by omega) (by decide)) ?_
    rw [il_s10' i n, nI_clamp (by omega)]
    refine ⟨vp_in_nI (by omega) (by omega), il_by (il_db I (by omega) hn) (fun z => ?_) (fun k z => ?_)⟩
    · rw [il_ff_f (P := fun m => (d (10 * m + n)).isSome) (by rw [z]; decide)] at h
      exact nm_r (nI_1 i) (iy_mf0 I hn e (i + 1) (by omega) h)
    · rw [il_ff_t (P := fun m => (d (10 * m + n)).isSome) (by rw [z]; rfl)] at h
      exact h
theorem iy_mf {post : Int32 → Prop} {n : Nat} (I : il_ok c g d) (hn : n < 10) (h : post (il_yo (il_mf d n))) : wpY_moduleFor post (il_Y c g v d) (nI n) :=
  ⟨7, iy_mf0 I hn 6 0 rfl h⟩
theorem iy_wh {post : Int32 → Prop} {n : Nat} (I : il_ok c g d) (hn : n < 10) (h : post (il_yo (il_wh c d n))) : wpY_where post (il_Y c g v d) (nI n) := by
  unfold wpY_where
  dsimp only
  refine iy_isN hn (br_f (by decide) (iy_mf I hn (il_byp il_mb (fun m y => ?_) (fun y => ?_))))
  · obtain ⟨hm, k, hk⟩ := il_mf_some y
    rw [y]
    refine iy_bg (by omega) ?_
    show vp_in (10 * nI m + nI n) 60 ∧ post (nI (il_S m c) + il_yo (d (10 * nI m + nI n).toNatClampNeg))
    rw [il_s10' m n, nI_clamp (by omega), hk]
    refine ⟨vp_in_nI (by omega) (by omega), ?_⟩
    unfold il_wh il_dd at h
    simp only [y, hk] at h
    show post (nI (il_S m c) + nI k)
    rw [nI_add]
    exact h
  · unfold il_wh at h
    simp only [y] at h
    exact h
theorem iy_vo {post : Int32 → Prop} {i : Nat} (I : il_ok c g d) (hi : i < 48) (h : post (il_wv c g v d i)) : wpY_valueOf post (il_Y c g v d) (nI i) := by
  unfold wpY_valueOf
  have hv : vp_in (nI i) 48 := vp_in_nI hi (by omega)
  have hcl : (nI i).toNatClampNeg = i := nI_clamp (by omega)
  dsimp only
  rw [hcl]
  refine ⟨hv, il_by (il_gb I i) (fun z => ⟨hv, ?_⟩) (fun k z => ⟨hv, ?_⟩)⟩
  · unfold il_wv at h
    rw [z] at h
    exact h
  · have hk := I.2.1 i k z
    rw [z]
    refine iy_wh I hk (il_byp (il_whb I hk) (fun a y => ⟨hv, ?_⟩) (fun y => ?_))
    · unfold il_wv at h
      rw [z] at h
      simp only [y] at h
      rw [y]
      exact h
    · unfold il_wv at h
      rw [z] at h
      simp only [y] at h
      exact h
end YR
end
section
/-! ===== the reference's places and counts ===== -/
section YS
variable {c : Nat → Nat} {g : Nat → Option Nat} {v : Nat → Int32} {d : Nat → Option Nat}
theorem iy_mo0 {post : Int32 → Prop} {p : Nat} (hc : ∀ m, c m ≤ 8) (hp : p < 2 ^ 31) : ∀ e i, i + e = 6 → il_S i c ≤ p → post (il_yo (il_ff (fun m => decide (p < il_S (m + 1) c)) e i)) → wY_moduleOf_2 post (nI p) (fun i => il_yo (g i)) v (fun i => nI (c i)) (fun i => il_yo (d i)) (e + 1) (nI i)
  | 0, i, hi, _, h => by
    have e : i = 6 := by omega
    subst e
    exact br_t (nI_le (a := 6) (Nat.le_refl _) (by decide)) h
  | e + 1, i, hi, hs, h => by
    have hb := il_S48 hc (m := i + 1) (by omega)
    have hb' : il_S i c + c i ≤ 48 := hb
    refine br_f (nI_ge (b := 6) (by omega) (by decide)) (iy_bg (by omega) (br_f (nI_nlt hs hp) ⟨vp_in_nI (by omega) (by omega), ?_⟩))
    rw [nI_clamp (by omega), nI_add]
    by_cases q : p < il_S (i + 1) c
    · rw [il_ff_t (P := fun m => decide (p < il_S (m + 1) c)) (decide_eq_true q)] at h
      exact br_f (nI_ge q (by omega)) h
    · rw [il_ff_f (P := fun m => decide (p < il_S (m + 1) c)) (by rw [decide_eq_false q]; decide)] at h
      exact br_t (nI_le (by have q' : ¬ p < il_S i c + c i := q; omega) hp) (nm_r (nI_1 i) (iy_mo0 hc hp e (i + 1) (by omega) (by omega) h))
theorem iy_mo {post : Int32 → Prop} {p : Nat} (hc : ∀ m, c m ≤ 8) (hp : p < 2 ^ 31) (h : post (il_yo (il_mo c p))) : wpY_moduleOf post (il_Y c g v d) (nI p) :=
  ⟨7, iy_mo0 hc hp 6 0 rfl (Nat.zero_le p) h⟩
theorem iy_mon0 {post : Int32 → Prop} {x : Int32} (hc : ∀ m, c m ≤ 8) (hx : x < 0) (h : post (-4)) : ∀ e i, i + e = 6 → wY_moduleOf_2 post x (fun i => il_yo (g i)) v (fun i => nI (c i)) (fun i => il_yo (d i)) (e + 1) (nI i)
  | 0, i, hi => by
    have e : i = 6 := by omega
    subst e
    exact br_t (nI_le (a := 6) (Nat.le_refl _) (by decide)) h
  | e + 1, i, hi => by
    have hb := il_S48 hc (m := i) (by omega)
    have hx2 : x < nI (il_S i c) := by
      rw [Int32.lt_iff_toInt_lt] at hx ⊢
      rw [nI_toInt (by omega)]
      rw [show (0 : Int32).toInt = 0 from by decide] at hx
      omega
    exact br_f (nI_ge (b := 6) (by omega) (by decide)) (iy_bg (by omega) (br_t hx2 (nm_r (nI_1 i) (iy_mon0 hc hx h e (i + 1) (by omega)))))
theorem iy_mon {post : Int32 → Prop} {x : Int32} (hc : ∀ m, c m ≤ 8) (hx : x < 0) (h : post (-4)) : wpY_moduleOf post (il_Y c g v d) x :=
  ⟨7, iy_mon0 hc hx h 6 0 rfl⟩
theorem iy_va {post : Int32 → Prop} {p : Nat} (I : il_ok c g d) (hp : p < 2 ^ 31) (h : post (il_val c g v d p)) : wpY_value post (il_Y c g v d) (nI p) := by
  unfold wpY_value
  dsimp only
  refine iy_mo I.1 hp (il_byp (fun k z => by have := (il_mo_some z).1; omega) (fun m y => ?_) (fun y => ?_))
  · obtain ⟨hm, h1, h2⟩ := il_mo_some y
    rw [y]
    refine iy_bg (by omega) ?_
    have h3 : p < il_S m c + c m := h2
    have h8 := I.1 m
    have e : 8 * il_yo (some m) + nI p - nI (il_S m c) = nI (8 * m + (p - il_S m c)) := by
      show 8 * nI m + nI p - nI (il_S m c) = _
      rw [il_s8', pk_sub (by omega)]
      exact congrArg nI (by omega)
    rw [e]
    refine iy_vo I (by omega) ?_
    unfold il_val at h
    rw [y] at h
    exact h
  · unfold il_val at h
    rw [y] at h
    exact h
theorem iy_van {post : Int32 → Prop} {x : Int32} (I : il_ok c g d) (hx : x < 0) (h : post 0) : wpY_value post (il_Y c g v d) x := by
  unfold wpY_value
  dsimp only
  exact iy_mon I.1 hx (br_f (by decide) h)
theorem iy_un0 {post : Int32 → Prop} (I : il_ok c g d) (h : post (nI (il_S 48 (fun i => if i % 8 < c (i / 8) then (if il_ud d (g i) = true then 1 else 0) else 0)))) : ∀ e i, i + e = 48 → wY_undefined_4 post (fun i => il_yo (g i)) v (fun i => nI (c i)) (fun i => il_yo (d i)) (e + 1) (nI (il_S i (fun i => if i % 8 < c (i / 8) then (if il_ud d (g i) = true then 1 else 0) else 0))) (nI i)
  | 0, i, hi => by
    have e : i = 48 := by omega
    subst e
    exact br_t (nI_le (a := 48) (Nat.le_refl _) (by decide)) h
  | e + 1, i, hi => by
    have ih := iy_un0 I h e (i + 1) (by omega)
    rw [il_S_s] at ih
    have h8 := I.1 (i / 8)
    refine br_f (nI_ge (b := 48) (by omega) (by decide)) ?_
    rw [il_rm8 (by omega), il_dv8 (by omega), nI_clamp (n := i / 8) (by omega)]
    refine ⟨by decide, by decide, vp_in_nI (by omega) (by omega), ?_⟩
    by_cases q : i % 8 < c (i / 8)
    · rw [if_pos q] at ih
      refine br_f (nI_ge q (by omega)) ⟨vp_in_nI (by omega) (by omega), ?_⟩
      rw [nI_clamp (by omega)]
      refine il_by (il_gb I i) (fun z => ?_) (fun k z => ⟨vp_in_nI (by omega) (by omega), ?_⟩)
      · rw [z] at ih
        exact nm_r (nI_1 i) ih
      · have hk := I.2.1 i k z
        dsimp only
        rw [z]
        refine iy_mf I hk (il_byp il_mb (fun a y => ?_) (fun y => ?_))
        · rw [if_neg (by rw [z]; show ¬ (il_mf d k).isNone = true; rw [y]; exact Bool.false_ne_true)] at ih
          exact nm_r (nI_1 i) ih
        · rw [if_pos (by rw [z]; show (il_mf d k).isNone = true; rw [y]; rfl)] at ih
          exact nm_r (nI_1 _) (nm_r (nI_1 i) ih)
    · rw [if_neg q] at ih
      exact br_t (nI_le (by omega) (by omega)) (nm_r (nI_1 i) ih)
theorem iy_un {post : Int32 → Prop} (I : il_ok c g d) (h : post (nI (il_S 48 (fun i => if i % 8 < c (i / 8) then (if il_ud d (g i) = true then 1 else 0) else 0)))) : wpY_undefined post (il_Y c g v d) :=
  ⟨49, iy_un0 I h 48 0 rfl⟩
theorem iy_id0 {post : Int32 → Prop} (I : il_ok c g d) (h : post (nI (il_S 60 (il_id d)))) : ∀ e i, i + e = 60 → wY_idle_4 post (fun i => il_yo (g i)) v (fun i => nI (c i)) (fun i => il_yo (d i)) (e + 1) (nI (il_S i (il_id d))) (nI i)
  | 0, i, hi => by
    have e : i = 60 := by omega
    subst e
    exact br_t (nI_le (a := 60) (Nat.le_refl _) (by decide)) h
  | e + 1, i, hi => by
    have ih := iy_id0 I h e (i + 1) (by omega)
    rw [il_S_s] at ih
    unfold il_id at ih
    have hdb : ∀ k, d i = some k → k < 2 ^ 31 := by
      have := il_db I (m := i / 10) (n := i % 10) (by omega) (by omega)
      rw [show 10 * (i / 10) + i % 10 = i from by omega] at this
      exact this
    refine br_f (nI_ge (b := 60) (by omega) (by decide)) ⟨vp_in_nI (by omega) (by omega), ?_⟩
    rw [il_rm10 (by omega), il_dv10 (by omega), nI_clamp (n := i) (by omega)]
    refine il_by hdb (fun z => ?_) (fun k z => ⟨by decide, iy_mf I (by omega) ⟨by decide, ?_⟩⟩)
    · rw [if_neg (by rw [z]; decide)] at ih
      exact nm_r (nI_1 i) ih
    · rw [if_pos (by rw [z]; rfl)] at ih
      by_cases q : il_mf d (i % 10) = some (i / 10)
      · rw [if_pos q] at ih
        exact br_t (by rw [q]; rfl) (nm_r (nI_1 i) ih)
      · rw [if_neg q] at ih
        exact br_f (il_yne (by omega) il_mb q) (nm_r (nI_1 _) (nm_r (nI_1 i) ih))
theorem iy_id {post : Int32 → Prop} (I : il_ok c g d) (h : post (nI (il_S 60 (il_id d)))) : wpY_idle post (il_Y c g v d) :=
  ⟨61, iy_id0 I h 60 0 rfl⟩
theorem iy_ut0 {post : Int32 → Prop} {n : Nat} (I : il_ok c g d) (hn : n < 10) (h : post (nI (il_S 48 (fun i => if i % 8 < c (i / 8) then (if g i = some n then 1 else 0) else 0)))) : ∀ e i, i + e = 48 → wY_uses_14 post (nI n) (fun i => il_yo (g i)) v (fun i => nI (c i)) (fun i => il_yo (d i)) (e + 1) (nI (il_S i (fun i => if i % 8 < c (i / 8) then (if g i = some n then 1 else 0) else 0))) (nI i)
  | 0, i, hi => by
    have e : i = 48 := by omega
    subst e
    exact br_t (nI_le (a := 48) (Nat.le_refl _) (by decide)) h
  | e + 1, i, hi => by
    have ih := iy_ut0 I hn h e (i + 1) (by omega)
    rw [il_S_s] at ih
    have h8 := I.1 (i / 8)
    refine br_f (nI_ge (b := 48) (by omega) (by decide)) ?_
    rw [il_rm8 (by omega), il_dv8 (by omega), nI_clamp (n := i / 8) (by omega)]
    refine ⟨by decide, by decide, vp_in_nI (by omega) (by omega), ?_⟩
    by_cases q : i % 8 < c (i / 8)
    · rw [if_pos q] at ih
      refine br_f (nI_ge q (by omega)) ⟨vp_in_nI (by omega) (by omega), ?_⟩
      rw [nI_clamp (by omega)]
      by_cases z : g i = some n
      · rw [if_pos z] at ih
        exact br_t (by show il_yo (g i) = nI n; rw [z]; rfl) (nm_r (nI_1 _) (nm_r (nI_1 i) ih))
      · rw [if_neg z] at ih
        exact br_f (il_yne (by omega) (il_gb I i) z) (nm_r (nI_1 i) ih)
    · rw [if_neg q] at ih
      exact br_t (nI_le (by omega) (by omega)) (nm_r (nI_1 i) ih)
theorem iy_ut {post : Int32 → Prop} {n : Nat} (I : il_ok c g d) (hn : n < 10) (h : post (nI (il_S 48 (fun i => if i % 8 < c (i / 8) then (if g i = some n then 1 else 0) else 0)))) : wpY_uses post (il_Y c g v d) (nI n) := by
  unfold wpY_uses
  dsimp only
  exact iy_isN hn (br_f (by decide) ⟨49, iy_ut0 I hn h 48 0 rfl⟩)
theorem iy_us0 {post : Int32 → Prop} {m : Nat} (I : il_ok c g d) (hm : m < 6) (h : post (il_O 48 (fun i => if i % 8 < c (i / 8) ∧ il_ub d m (g i) = true then il_sh (i / 8) else 0))) : ∀ e i, i + e = 48 → wY_users_14 post (nI m) (fun i => il_yo (g i)) v (fun i => nI (c i)) (fun i => il_yo (d i)) (e + 1) (il_O i (fun i => if i % 8 < c (i / 8) ∧ il_ub d m (g i) = true then il_sh (i / 8) else 0)) (nI i)
  | 0, i, hi => by
    have e : i = 48 := by omega
    subst e
    exact br_t (nI_le (a := 48) (Nat.le_refl _) (by decide)) h
  | e + 1, i, hi => by
    have ih := iy_us0 I hm h e (i + 1) (by omega)
    rw [il_O_s] at ih
    have h8 := I.1 (i / 8)
    refine br_f (nI_ge (b := 48) (by omega) (by decide)) ?_
    rw [il_rm8 (by omega), il_dv8 (by omega), nI_clamp (n := i / 8) (by omega)]
    refine ⟨by decide, by decide, vp_in_nI (by omega) (by omega), ?_⟩
    by_cases q : i % 8 < c (i / 8)
    · refine br_f (nI_ge q (by omega)) ⟨vp_in_nI (by omega) (by omega), ?_⟩
      rw [nI_clamp (n := i) (by omega)]
      refine il_by (il_gb I i) (fun z => ?_) (fun k z => ⟨vp_in_nI (by omega) (by omega), ?_⟩)
      · rw [if_neg (by rw [z]; intro y; have y2 : false = true := y.2; cases y2), Int32.or_zero] at ih
        exact nm_r (nI_1 i) ih
      · have hk := I.2.1 i k z
        dsimp only
        rw [z]
        refine iy_mf I hk ?_
        by_cases y : il_mf d k = some m
        · rw [if_pos ⟨q, by rw [z]; exact decide_eq_true y⟩] at ih
          exact br_t (by rw [y]; rfl) ⟨by decide, nm_r rfl (nm_r (nI_1 i) ih)⟩
        · rw [if_neg (by rw [z]; intro t; exact y (of_decide_eq_true t.2)), Int32.or_zero] at ih
          exact br_f (il_yne (by omega) il_mb y) (nm_r (nI_1 i) ih)
    · rw [if_neg (fun t => q t.1), Int32.or_zero] at ih
      exact br_t (nI_le (by omega) (by omega)) (nm_r (nI_1 i) ih)
theorem iy_us {post : Int32 → Prop} {m : Nat} (I : il_ok c g d) (hm : m < 6) (h : post (il_O 48 (fun i => if i % 8 < c (i / 8) ∧ il_ub d m (g i) = true then il_sh (i / 8) else 0))) : wpY_users post (il_Y c g v d) (nI m) := by
  unfold wpY_users
  dsimp only
  exact iy_isM hm (br_f (by decide) ⟨49, iy_us0 I hm h 48 0 rfl⟩)
theorem iy_di0 {post : Int32 → Prop} (I : il_ok c g d) (h : post (il_D 48 (il_F c g v d))) : ∀ e i, i + e = 48 → wY_digest_4 post (fun i => il_yo (g i)) v (fun i => nI (c i)) (fun i => il_yo (d i)) (e + 1) (il_D i (il_F c g v d)) (nI i)
  | 0, i, hi => by
    have e : i = 48 := by omega
    subst e
    exact br_t (nI_le (a := 48) (Nat.le_refl _) (by decide)) h
  | e + 1, i, hi => by
    have ih := iy_di0 I h e (i + 1) (by omega)
    refine br_f (nI_ge (b := 48) (by omega) (by decide)) (iy_va I (by omega) (nm_r ?_ (nm_r (nI_1 i) ih)))
    rw [nI_1 i]
    rfl
theorem iy_di {post : Int32 → Prop} (I : il_ok c g d) (h : post (il_D 48 (il_F c g v d))) : wpY_digest post (il_Y c g v d) :=
  ⟨49, iy_di0 I h 48 0 rfl⟩
end YS
end
section
/-! ===== the component's writers ===== -/
section XM
variable {c : Nat → Nat} {g : Nat → Option Nat} {v : Nat → Int32} {d : Nat → Option Nat}
theorem ix_hw {post : Int32 → Prop} {m w : Nat} (hc : ∀ m, c m ≤ 8) (hm : m < 6) (hw : w < c m) (h : post 1) : wpX_hasWord post (il_X c g v d) (nI m) (nI w) := by
  have h8 := hc m
  refine br_f (nI_pos (by omega)) ⟨vp_in_nI hm (by omega), ?_⟩
  rw [nI_clamp (by omega)]
  exact br_f (nI_ge hw (by omega)) h
theorem ix_hwn {post : Int32 → Prop} {m : Nat} {x : Int32} (hx : x < 0) (h : post 0) : wpX_hasWord post (il_X c g v d) (nI m) x := br_t hx h
theorem ix_hwb {post : Int32 → Prop} {m w : Nat} (hm : m < 6) (hw : c m ≤ w) (h2 : w < 2 ^ 31) (h : post 0) : wpX_hasWord post (il_X c g v d) (nI m) (nI w) := by
  refine br_f (nI_pos h2) ⟨vp_in_nI hm (by omega), ?_⟩
  rw [nI_clamp (by omega)]
  exact br_t (nI_le hw h2) h
theorem ix_he {post : Int32 → Prop} {m w : Nat} (hc : ∀ m, c m ≤ 8) (hm : m < 6) (hw : w ≤ c m) (h : post 1) : wpX_hasWordOrEnd post (il_X c g v d) (nI m) (nI w) := by
  have h8 := hc m
  refine br_f (nI_pos (by omega)) ⟨vp_in_nI hm (by omega), ?_⟩
  rw [nI_clamp (by omega)]
  exact br_f (nI_nlt hw (by omega)) h
theorem ix_hen {post : Int32 → Prop} {m : Nat} {x : Int32} (hx : x < 0) (h : post 0) : wpX_hasWordOrEnd post (il_X c g v d) (nI m) x := br_t hx h
theorem ix_heb {post : Int32 → Prop} {m w : Nat} (hm : m < 6) (hw : c m < w) (h2 : w < 2 ^ 31) (h : post 0) : wpX_hasWordOrEnd post (il_X c g v d) (nI m) (nI w) := by
  refine br_f (nI_pos h2) ⟨vp_in_nI hm (by omega), ?_⟩
  rw [nI_clamp (by omega)]
  exact br_t (nI_lt hw h2) h
theorem ix_fu {post : Int32 → Prop} {m : Nat} (hm : m < 6) (hw : c m = 8) (h : post 1) : wpX_isFull post (il_X c g v d) (nI m) := by
  refine ⟨vp_in_nI hm (by omega), ?_⟩
  rw [nI_clamp (by omega)]
  dsimp only
  rw [hw]
  exact br_f (nI_nlt (a := 8) (b := 8) (by omega) (by decide)) h
theorem ix_nf {post : Int32 → Prop} {m : Nat} (hm : m < 6) (hw : c m < 8) (h : post 0) : wpX_isFull post (il_X c g v d) (nI m) := by
  refine ⟨vp_in_nI hm (by omega), ?_⟩
  rw [nI_clamp (by omega)]
  exact br_t (nI_lt (b := 8) hw (by decide)) h
theorem ix_sw {post : SX → Prop} {s : Nat} {y : Int32} {o : Option Nat} {x : Int32} (hy : y = nI s) (hs : s < 48) (h : post (il_X c (il_up g s o) (il_up v s x) d)) : wpX_setWord post (il_X c g v d) y (il_xo o) x := by
  subst hy
  have hcl : (nI s).toNatClampNeg = s := nI_clamp (by omega)
  refine ⟨vp_in_nI hs (by omega), nm_r (e' := fun i => il_xo (il_up g s o i)) ?_ ⟨vp_in_nI hs (by omega), nm_r (e' := il_up v s x) ?_ h⟩⟩
  · rw [hcl]; exact il_uP il_xo g s o
  · rw [hcl]; rfl
theorem ix_og0 {post : SX → Prop} {m w : Nat} (hm : m < 6) : ∀ e (g : Nat → Option Nat) (v : Nat → Int32), w + e < 8 → post (il_X c (il_opn e (8 * m + w) g) (il_opn e (8 * m + w) v) d) → wX_openGap_7 post (nI m) (nI w) (e + 1) (nI (w + e)) (fun i => nI (c i)) (fun i => il_xo (g i)) v (fun i => il_xo (d i))
  | 0, g, v, hw, h => br_t (nI_le (by omega) (by omega)) h
  | e + 1, g, v, hw, h => by
    refine br_f (nI_ge (by omega) (by omega)) ?_
    unfold wpX_wordSlot
    dsimp only
    rw [il_s8 m (w + (e + 1)), show 8 * m + (w + (e + 1)) = (8 * m + w + e) + 1 from by omega, nI_pred, nI_clamp (by omega)]
    refine ⟨vp_in_nI (by omega) (by omega), vp_in_nI (by omega) (by omega), ix_sw rfl (by omega) (nm_r (pk_m1 (w + e)) (ix_og0 hm e _ _ (by omega) h))⟩
theorem ix_og {post : SX → Prop} {m w : Nat} (hm : m < 6) (hw : w ≤ c m) (h8 : c m < 8) (h : post (il_X c (il_opn (c m - w) (8 * m + w) g) (il_opn (c m - w) (8 * m + w) v) d)) : wpX_openGap post (il_X c g v d) (nI m) (nI w) := by
  refine ⟨vp_in_nI hm (by omega), nm_r (e' := nI (c m)) (by rw [nI_clamp (by omega)]) ⟨c m - w + 1, ?_⟩⟩
  have := ix_og0 (c := c) (d := d) (post := post) hm (c m - w) g v (by omega) h
  rw [show w + (c m - w) = c m from by omega] at this
  exact this
theorem ix_cg0 {post : SX → Prop} {m : Nat} (hm : m < 6) (h8 : c m ≤ 8) : ∀ e i (g : Nat → Option Nat) (v : Nat → Int32), i + 1 + e = c m → post (il_X c (il_cls e (8 * m + i) g) (il_cls e (8 * m + i) v) d) → wX_closeGap_4 post (nI m) (e + 1) (nI (i + 1)) (fun i => nI (c i)) (fun i => il_xo (g i)) v (fun i => il_xo (d i))
  | 0, i, g, v, hi, h => by
    refine ⟨vp_in_nI hm (by omega), br_t ?_ h⟩
    rw [nI_clamp (by omega)]
    exact nI_le (by omega) (by omega)
  | e + 1, i, g, v, hi, h => by
    refine ⟨vp_in_nI hm (by omega), br_f ?_ ?_⟩
    · rw [nI_clamp (by omega)]
      exact nI_ge (by omega) (by omega)
    · unfold wpX_wordSlot
      dsimp only
      rw [il_s8 m (i + 1), show 8 * m + (i + 1) = (8 * m + i) + 1 from by omega, nI_pred, nI_clamp (by omega)]
      refine ⟨vp_in_nI (by omega) (by omega), vp_in_nI (by omega) (by omega), ix_sw rfl (by omega) (nm_r (nI_1 (i + 1)) (ix_cg0 hm h8 e (i + 1) _ _ (by omega) ?_))⟩
      exact h
theorem ix_cg {post : SX → Prop} {m w : Nat} (hm : m < 6) (hw : w < c m) (h8 : c m ≤ 8) (h : post (il_X c (il_cls (c m - 1 - w) (8 * m + w) g) (il_cls (c m - 1 - w) (8 * m + w) v) d)) : wpX_closeGap post (il_X c g v d) (nI m) (nI w) :=
  nm_r (nI_1 w) ⟨c m - 1 - w + 1, ix_cg0 hm h8 (c m - 1 - w) w g v (by omega) h⟩
theorem ix_md0 {post : SX → Prop} {m f : Nat} {t : Int32} (q : Option Nat → Option Nat) (hm : m < 6) (hf : f < 2 ^ 31) (q0 : q none = none) (q1 : ∀ k, k ≤ 8 → k < f → q (some k) = some k) (q2 : ∀ k, k ≤ 8 → f ≤ k → nI k + t = il_xo (q (some k))) : ∀ e i (d : Nat → Option Nat), i + e = 10 → (∀ n, i ≤ n → n < 10 → ∀ k, d (10 * m + n) = some k → k ≤ 8) → post (il_X c g v (il_fil q e (10 * m + i) d)) → wX_moveDefinitions_3 post (nI m) (nI f) t (e + 1) (nI i) (fun i => nI (c i)) (fun i => il_xo (g i)) v (fun i => il_xo (d i))
  | 0, i, d, hi, hd, h => by
    have e : i = 10 := by omega
    subst e
    exact br_t (nI_le (a := 10) (Nat.le_refl _) (by decide)) h
  | e + 1, i, d, hi, hd, h => by
    have hb := hd i (Nat.le_refl i) (by omega)
    refine br_f (nI_ge (b := 10) (by omega) (by decide)) ?_
    unfold wpX_definitionSlot
    dsimp only
    rw [il_s10 m i, nI_clamp (by omega)]
    refine ⟨vp_in_nI (by omega) (by omega), ?_⟩
    have hn : ∀ (x : Option Nat) n, i + 1 ≤ n → n < 10 → ∀ k, il_up d (10 * m + i) x (10 * m + n) = some k → k ≤ 8 := by
      intro x n h1 h2 k hk
      rw [il_un d x (by omega)] at hk
      exact hd n (by omega) h2 k hk
    have ih := ix_md0 q hm hf q0 q1 q2 e (i + 1) (il_up d (10 * m + i) (q (d (10 * m + i)))) (by omega) (hn _) h
    refine il_xge f hf (fun k z => by have := hb k z; omega) (fun z => ?_) (fun k z y => ?_)
    · have hq : q (d (10 * m + i)) = d (10 * m + i) := by
        cases hz : d (10 * m + i) with
        | none => exact q0
        | some k => exact q1 k (hb k hz) (z k hz)
      rw [hq, il_ui] at ih
      exact nm_r (nI_1 i) ih
    · refine ⟨vp_in_nI (by omega) (by omega), vp_in_nI (by omega) (by omega), nm_r (e' := fun j => il_xo (il_up d (10 * m + i) (q (d (10 * m + i))) j)) ?_ (nm_r (nI_1 i) ih)⟩
      rw [← il_uP, z]
      exact congrArg _ (q2 k (hb k z) y)
theorem ix_md {post : SX → Prop} {m f : Nat} {y t : Int32} (q : Option Nat → Option Nat) (I : il_ok c g d) (hm : m < 6) (hy : y = nI f) (hf : f < 2 ^ 31) (q0 : q none = none) (q1 : ∀ k, k ≤ 8 → k < f → q (some k) = some k) (q2 : ∀ k, k ≤ 8 → f ≤ k → nI k + t = il_xo (q (some k))) {G : Nat → Option Nat} {V : Nat → Int32} (h : post (il_X c G V (il_fil q 10 (10 * m) d))) : wpX_moveDefinitions post (il_X c G V d) (nI m) y t := by
  subst hy
  refine ⟨11, ix_md0 q hm hf q0 q1 q2 10 0 d rfl (fun n _ hn k hk => ?_) h⟩
  have h1 := I.2.2 m n k hm hn hk
  have h2 := I.1 m
  omega
theorem ix_inc {post : Int32 → SX → Prop} {m : Nat} (hm : m < 6) (h : post (nI (c m + 1)) (il_X (il_up c m (c m + 1)) g v d)) : vp_in (nI m) 6 ∧ (vp_in (nI m) 6 ∧ ∀ a : Nat → Int32, a = upd (fun i => nI (c i)) (nI m).toNatClampNeg (nI (c (nI m).toNatClampNeg) + 1) → (vp_in (nI m) 6 ∧ post (a (nI m).toNatClampNeg) (a, (fun i => il_xo (g i)), v, (fun i => il_xo (d i))))) := by
  have hv : vp_in (nI m) 6 := vp_in_nI hm (by omega)
  rw [nI_clamp (by omega)]
  refine ⟨hv, hv, nm_r (e' := fun i => nI (il_up c m (c m + 1) i)) (by rw [nI_1]; exact il_uP nI c m _) ⟨hv, ?_⟩⟩
  show post (nI (il_up c m (c m + 1) m)) _
  rw [il_us c m (c m + 1)]
  exact h
theorem ix_dec {post : Int32 → SX → Prop} {m : Nat} (hm : m < 6) (h0 : 0 < c m) (h : post (nI (c m - 1)) (il_X (il_up c m (c m - 1)) g v d)) : vp_in (nI m) 6 ∧ (vp_in (nI m) 6 ∧ ∀ a : Nat → Int32, a = upd (fun i => nI (c i)) (nI m).toNatClampNeg (nI (c (nI m).toNatClampNeg) - 1) → (vp_in (nI m) 6 ∧ post (a (nI m).toNatClampNeg) (a, (fun i => il_xo (g i)), v, (fun i => il_xo (d i))))) := by
  have hv : vp_in (nI m) 6 := vp_in_nI hm (by omega)
  rw [nI_clamp (by omega)]
  refine ⟨hv, hv, nm_r (e' := fun i => nI (il_up c m (c m - 1) i)) (by rw [il_mi1 h0]; exact il_uP nI c m _) ⟨hv, ?_⟩⟩
  show post (nI (il_up c m (c m - 1) m)) _
  rw [il_us c m (c m - 1)]
  exact h
theorem ix_ap {post : Int32 → SX → Prop} {m : Nat} {o : Option Nat} {x : Int32} (hm : m < 6) (h8 : c m < 8) (h : post (nI (c m + 1)) (il_X (il_up c m (c m + 1)) (il_up g (8 * m + c m) o) (il_up v (8 * m + c m) x) d)) : wpX_append post (il_X c g v d) (nI m) (il_xo o) x := by
  unfold wpX_append wpX_wordSlot
  dsimp only
  refine ix_nf hm h8 (br_t rfl ⟨vp_in_nI hm (by omega), ix_sw (s := 8 * m + c m) ?_ (by omega) ?_⟩)
  · rw [nI_clamp (by omega)]; exact il_s8 m (c m)
  · exact ix_inc hm h
theorem ix_apF {post : Int32 → SX → Prop} {m : Nat} {x y : Int32} (hm : m < 6) (h8 : c m = 8) (h : post (-2) (il_X c g v d)) : wpX_append post (il_X c g v d) (nI m) x y := by
  unfold wpX_append
  dsimp only
  exact ix_fu hm h8 (br_f (by decide) h)
end XM
end
section
/-! ===== the component's public methods ===== -/
section XP
variable {c : Nat → Nat} {g : Nat → Option Nat} {v : Nat → Int32} {d : Nat → Option Nat}
theorem ix_isMx {post : Int32 → Prop} {x : Int32} (hx : il_bad 6 x) (h : post 0) : wpX_isModule post x := by
  rcases hx with hx | ⟨j, h1, h2, rfl⟩
  · exact ix_isMn hx h
  · exact ix_isMb h1 h2 h
theorem ix_isNx {post : Int32 → Prop} {x : Int32} (hx : il_bad 10 x) (h : post 0) : wpX_isName post x := by
  rcases hx with hx | ⟨j, h1, h2, rfl⟩
  · exact ix_isNn hx h
  · exact ix_isNb h1 h2 h
theorem ix_hwx {post : Int32 → Prop} {m : Nat} {x : Int32} (hm : m < 6) (hx : il_bad (c m) x) (h : post 0) : wpX_hasWord post (il_X c g v d) (nI m) x := by
  rcases hx with hx | ⟨j, h1, h2, rfl⟩
  · exact ix_hwn hx h
  · exact ix_hwb hm h1 h2 h
theorem ix_hex {post : Int32 → Prop} {m : Nat} {x : Int32} (hm : m < 6) (hx : il_bad (c m + 1) x) (h : post 0) : wpX_hasWordOrEnd post (il_X c g v d) (nI m) x := by
  rcases hx with hx | ⟨j, h1, h2, rfl⟩
  · exact ix_hen hx h
  · exact ix_heb hm h1 h2 h
theorem ix_co {post : Int32 → SX → Prop} {m : Nat} {x : Int32} (hm : m < 6) (h8 : c m < 8) (h : post (nI (c m + 1)) (il_X (il_up c m (c m + 1)) (il_up g (8 * m + c m) none) (il_up v (8 * m + c m) x) d)) : wpX_constant post (il_X c g v d) (nI m) x := by
  unfold wpX_constant
  dsimp only
  exact ix_isM hm (br_f (by decide) (ix_ap (o := none) hm h8 h))
theorem ix_coF {post : Int32 → SX → Prop} {m : Nat} {x : Int32} (hm : m < 6) (h8 : c m = 8) (h : post (-2) (il_X c g v d)) : wpX_constant post (il_X c g v d) (nI m) x := by
  unfold wpX_constant
  dsimp only
  exact ix_isM hm (br_f (by decide) (ix_apF hm h8 h))
theorem ix_coB {post : Int32 → SX → Prop} {x y : Int32} (hx : il_bad 6 x) (h : post (-1) (il_X c g v d)) : wpX_constant post (il_X c g v d) x y := by
  unfold wpX_constant
  dsimp only
  exact ix_isMx hx (br_t rfl h)
theorem ix_re {post : Int32 → SX → Prop} {m n : Nat} {x : Int32} (hm : m < 6) (hn : n < 10) (a1 : ¬ x < -100) (a2 : ¬ 100 < x) (h8 : c m < 8) (h : post (nI (c m + 1)) (il_X (il_up c m (c m + 1)) (il_up g (8 * m + c m) (some n)) (il_up v (8 * m + c m) x) d)) : wpX_reference post (il_X c g v d) (nI m) (nI n) x := by
  unfold wpX_reference wpX_isAddend
  dsimp only
  exact ix_isM hm (br_f (by decide) (ix_isN hn (br_f (by decide) (br_f a1 (br_f a2 (br_f (by decide) (ix_ap (o := some n) hm h8 h)))))))
theorem ix_reF {post : Int32 → SX → Prop} {m n : Nat} {x : Int32} (hm : m < 6) (hn : n < 10) (a1 : ¬ x < -100) (a2 : ¬ 100 < x) (h8 : c m = 8) (h : post (-2) (il_X c g v d)) : wpX_reference post (il_X c g v d) (nI m) (nI n) x := by
  unfold wpX_reference wpX_isAddend
  dsimp only
  exact ix_isM hm (br_f (by decide) (ix_isN hn (br_f (by decide) (br_f a1 (br_f a2 (br_f (by decide) (ix_apF hm h8 h)))))))
theorem ix_reA {post : Int32 → SX → Prop} {m n : Nat} {x : Int32} (hm : m < 6) (hn : n < 10) (a : x < -100 ∨ 100 < x) (h : post (-1) (il_X c g v d)) : wpX_reference post (il_X c g v d) (nI m) (nI n) x := by
  unfold wpX_reference wpX_isAddend
  dsimp only
  refine ix_isM hm (br_f (by decide) (ix_isN hn (br_f (by decide) ?_)))
  by_cases a1 : x < -100
  · exact br_t a1 (br_t rfl h)
  · exact br_f a1 (br_t (a.resolve_left a1) (br_t rfl h))
theorem ix_reN {post : Int32 → SX → Prop} {m : Nat} {y x : Int32} (hm : m < 6) (hn : il_bad 10 y) (h : post (-1) (il_X c g v d)) : wpX_reference post (il_X c g v d) (nI m) y x := by
  unfold wpX_reference
  dsimp only
  exact ix_isM hm (br_f (by decide) (ix_isNx hn (br_t rfl h)))
theorem ix_reB {post : Int32 → SX → Prop} {z y x : Int32} (hm : il_bad 6 z) (h : post (-1) (il_X c g v d)) : wpX_reference post (il_X c g v d) z y x := by
  unfold wpX_reference
  dsimp only
  exact ix_isMx hm (br_t rfl h)
theorem ix_pa {post : Int32 → SX → Prop} {m w : Nat} {x : Int32} (I : il_ok c g d) (hm : m < 6) (hw : w < c m) (h : post (il_fl (g (8 * m + w))) (il_X c (il_up g (8 * m + w) none) (il_up v (8 * m + w) x) d)) : wpX_patch post (il_X c g v d) (nI m) (nI w) x := by
  have h8 := I.1 m
  unfold wpX_patch wpX_wordSlot
  dsimp only
  refine ix_isM hm (br_f (by decide) (ix_hw I.1 hm hw (br_f (by decide) ?_)))
  rw [il_s8 m w, nI_clamp (by omega)]
  refine ⟨vp_in_nI (by omega) (by omega), il_bx (il_gb I _) (fun z => ?_) (fun k z => ?_)⟩
  · rw [z] at h
    exact ix_sw (o := none) rfl (by omega) h
  · rw [z] at h
    exact ix_sw (o := none) rfl (by omega) h
theorem ix_paN {post : Int32 → SX → Prop} {m : Nat} {y x : Int32} (hm : m < 6) (hw : il_bad (c m) y) (h : post (-4) (il_X c g v d)) : wpX_patch post (il_X c g v d) (nI m) y x := by
  unfold wpX_patch
  dsimp only
  exact ix_isM hm (br_f (by decide) (ix_hwx hm hw (br_t rfl h)))
theorem ix_paB {post : Int32 → SX → Prop} {z y x : Int32} (hm : il_bad 6 z) (h : post (-1) (il_X c g v d)) : wpX_patch post (il_X c g v d) z y x := by
  unfold wpX_patch
  dsimp only
  exact ix_isMx hm (br_t rfl h)
theorem ix_in {post : Int32 → SX → Prop} {m w : Nat} {x : Int32} (I : il_ok c g d) (hm : m < 6) (hw : w ≤ c m) (h8 : c m < 8) (h : post (nI (c m + 1)) (il_X (il_up c m (c m + 1)) (il_up (il_opn (c m - w) (8 * m + w) g) (8 * m + w) none) (il_up (il_opn (c m - w) (8 * m + w) v) (8 * m + w) x) (il_fil (il_qi w) 10 (10 * m) d))) : wpX_insert post (il_X c g v d) (nI m) (nI w) x := by
  unfold wpX_insert wpX_wordSlot
  dsimp only
  refine ix_isM hm (br_f (by decide) (ix_he I.1 hm hw (br_f (by decide) (ix_nf hm h8 (br_t rfl (ix_og hm hw h8 ?_))))))
  refine ix_md (il_qi w) I hm rfl (by omega) rfl (fun k _ hk => il_qi1 hk) (fun k _ hk => ?_) ?_
  · rw [il_qi2 hk]; exact nI_1 k
  · exact ix_sw (s := 8 * m + w) (o := none) (il_s8 m w) (by omega) (ix_inc hm h)
theorem ix_inF {post : Int32 → SX → Prop} {m w : Nat} {x : Int32} (I : il_ok c g d) (hm : m < 6) (hw : w ≤ c m) (h8 : c m = 8) (h : post (-2) (il_X c g v d)) : wpX_insert post (il_X c g v d) (nI m) (nI w) x := by
  unfold wpX_insert
  dsimp only
  exact ix_isM hm (br_f (by decide) (ix_he I.1 hm hw (br_f (by decide) (ix_fu hm h8 (br_f (by decide) h)))))
theorem ix_inN {post : Int32 → SX → Prop} {m : Nat} {y x : Int32} (hm : m < 6) (hw : il_bad (c m + 1) y) (h : post (-4) (il_X c g v d)) : wpX_insert post (il_X c g v d) (nI m) y x := by
  unfold wpX_insert
  dsimp only
  exact ix_isM hm (br_f (by decide) (ix_hex hm hw (br_t rfl h)))
theorem ix_inB {post : Int32 → SX → Prop} {z y x : Int32} (hm : il_bad 6 z) (h : post (-1) (il_X c g v d)) : wpX_insert post (il_X c g v d) z y x := by
  unfold wpX_insert
  dsimp only
  exact ix_isMx hm (br_t rfl h)
theorem ix_de {post : Int32 → SX → Prop} {m w : Nat} (I : il_ok c g d) (hm : m < 6) (hw : w < c m) (h : post (nI (c m - 1)) (il_X (il_up c m (c m - 1)) (il_cls (c m - 1 - w) (8 * m + w) g) (il_cls (c m - 1 - w) (8 * m + w) v) (il_fil (il_qd w) 10 (10 * m) d))) : wpX_delete post (il_X c g v d) (nI m) (nI w) := by
  have h8 := I.1 m
  unfold wpX_delete
  dsimp only
  refine ix_isM hm (br_f (by decide) (ix_hw I.1 hm hw (br_f (by decide) (ix_cg hm hw h8 ?_))))
  refine ix_md (il_qd w) I hm (nI_1 w) (by omega) rfl (fun k _ hk => il_qd1 (by omega)) (fun k _ hk => ?_) ?_
  · rw [il_qd2 (by omega)]; exact il_m1 (by omega)
  · exact ix_dec hm (by omega) h
theorem ix_deN {post : Int32 → SX → Prop} {m : Nat} {y : Int32} (hm : m < 6) (hw : il_bad (c m) y) (h : post (-4) (il_X c g v d)) : wpX_delete post (il_X c g v d) (nI m) y := by
  unfold wpX_delete
  dsimp only
  exact ix_isM hm (br_f (by decide) (ix_hwx hm hw (br_t rfl h)))
theorem ix_deB {post : Int32 → SX → Prop} {z y : Int32} (hm : il_bad 6 z) (h : post (-1) (il_X c g v d)) : wpX_delete post (il_X c g v d) z y := by
  unfold wpX_delete
  dsimp only
  exact ix_isMx hm (br_t rfl h)
theorem ix_ul0 {post : Int32 → SX → Prop} {m : Nat} {y : Int32} (hm : m < 6) : ∀ e i (d : Nat → Option Nat), i + e = 10 → post y (il_X c g v (il_fil (fun _ => none) e (10 * m + i) d)) → wX_unload_25 post (nI m) y (e + 1) (nI i) (fun i => nI (c i)) (fun i => il_xo (g i)) v (fun i => il_xo (d i))
  | 0, i, d, hi, h => by
    have e : i = 10 := by omega
    subst e
    exact br_t (nI_le (a := 10) (Nat.le_refl _) (by decide)) h
  | e + 1, i, d, hi, h => by
    have ih := ix_ul0 hm e (i + 1) (il_up d (10 * m + i) none) (by omega) h
    refine br_f (nI_ge (b := 10) (by omega) (by decide)) ?_
    unfold wpX_definitionSlot
    dsimp only
    rw [il_s10 m i, nI_clamp (by omega)]
    exact ⟨vp_in_nI (by omega) (by omega), nm_r (il_uP il_xo d (10 * m + i) none) (nm_r (nI_1 i) ih)⟩
theorem ix_ul {post : Int32 → SX → Prop} {m : Nat} (hm : m < 6) (h : post (nI (c m)) (il_X (il_up c m 0) g v (il_fil (fun _ => none) 10 (10 * m) d))) : wpX_unload post (il_X c g v d) (nI m) := by
  have hv : vp_in (nI m) 6 := vp_in_nI hm (by omega)
  unfold wpX_unload
  dsimp only
  rw [nI_clamp (by omega)]
  exact ix_isM hm (br_f (by decide) ⟨hv, nm_e ⟨hv, nm_r (il_uP nI c m 0) ⟨11, ix_ul0 hm 10 0 d rfl h⟩⟩⟩)
theorem ix_ulB {post : Int32 → SX → Prop} {z : Int32} (hm : il_bad 6 z) (h : post (-1) (il_X c g v d)) : wpX_unload post (il_X c g v d) z := by
  unfold wpX_unload
  dsimp only
  exact ix_isMx hm (br_t rfl h)
theorem ix_df {post : Int32 → SX → Prop} {m n w : Nat} (I : il_ok c g d) (hm : m < 6) (hn : n < 10) (hw : w ≤ c m) (h : post (il_fl (d (10 * m + n))) (il_X c g v (il_up d (10 * m + n) (some w)))) : wpX_define post (il_X c g v d) (nI m) (nI n) (nI w) := by
  have h8 := I.1 m
  have hv : vp_in (nI (10 * m + n)) 60 := vp_in_nI (by omega) (by omega)
  unfold wpX_define wpX_definitionSlot wX_define_51
  dsimp only
  refine ix_isM hm (br_f (by decide) (ix_isN hn (br_f (by decide) (ix_he I.1 hm hw (br_f (by decide) ?_)))))
  rw [il_s10 m n, nI_clamp (by omega)]
  refine ⟨hv, il_bx (il_db I hm hn) (fun z => ?_) (fun k z => ?_)⟩
  · rw [z] at h
    exact ⟨hv, nm_r (il_uP il_xo d (10 * m + n) (some w)) h⟩
  · rw [z] at h
    exact ⟨hv, nm_r (il_uP il_xo d (10 * m + n) (some w)) h⟩
theorem ix_dfN {post : Int32 → SX → Prop} {m n : Nat} {y : Int32} (hm : m < 6) (hn : n < 10) (hw : il_bad (c m + 1) y) (h : post (-4) (il_X c g v d)) : wpX_define post (il_X c g v d) (nI m) (nI n) y := by
  unfold wpX_define
  dsimp only
  exact ix_isM hm (br_f (by decide) (ix_isN hn (br_f (by decide) (ix_hex hm hw (br_t rfl h)))))
theorem ix_dfM {post : Int32 → SX → Prop} {m : Nat} {x y : Int32} (hm : m < 6) (hn : il_bad 10 x) (h : post (-1) (il_X c g v d)) : wpX_define post (il_X c g v d) (nI m) x y := by
  unfold wpX_define
  dsimp only
  exact ix_isM hm (br_f (by decide) (ix_isNx hn (br_t rfl h)))
theorem ix_dfB {post : Int32 → SX → Prop} {z x y : Int32} (hm : il_bad 6 z) (h : post (-1) (il_X c g v d)) : wpX_define post (il_X c g v d) z x y := by
  unfold wpX_define
  dsimp only
  exact ix_isMx hm (br_t rfl h)
theorem ix_ud {post : Int32 → SX → Prop} {m n : Nat} (I : il_ok c g d) (hm : m < 6) (hn : n < 10) (h : post (il_yo (d (10 * m + n))) (il_X c g v (il_up d (10 * m + n) none))) : wpX_undefine post (il_X c g v d) (nI m) (nI n) := by
  have hv : vp_in (nI (10 * m + n)) 60 := vp_in_nI (by omega) (by omega)
  unfold wpX_undefine wpX_definitionSlot
  dsimp only
  rw [il_s10 m n, nI_clamp (by omega)]
  refine ix_isM hm (br_f (by decide) (ix_isN hn (br_f (by decide) ⟨hv, nm_e (il_bx (il_db I hm hn) (fun z => ?_) (fun k z => ?_))⟩)))
  · have e : il_up d (10 * m + n) none = d := by rw [← z]; exact il_ui d _
    rw [e, z] at h
    exact h
  · rw [z] at h ⊢
    exact ⟨hv, nm_r (il_uP il_xo d (10 * m + n) none) h⟩
theorem ix_udM {post : Int32 → SX → Prop} {m : Nat} {x : Int32} (hm : m < 6) (hn : il_bad 10 x) (h : post (-1) (il_X c g v d)) : wpX_undefine post (il_X c g v d) (nI m) x := by
  unfold wpX_undefine
  dsimp only
  exact ix_isM hm (br_f (by decide) (ix_isNx hn (br_t rfl h)))
theorem ix_udB {post : Int32 → SX → Prop} {z x : Int32} (hm : il_bad 6 z) (h : post (-1) (il_X c g v d)) : wpX_undefine post (il_X c g v d) z x := by
  unfold wpX_undefine
  dsimp only
  exact ix_isMx hm (br_t rfl h)
theorem ix_si {post : Int32 → Prop} (h : post (nI (il_S 6 c))) : wpX_size post (il_X c g v d) := by
  unfold wpX_size
  dsimp only
  exact ix_wb (m := 6) (by omega) h
theorem ix_va {post : Int32 → Prop} {p : Nat} (I : il_ok c g d) (hp : p < 2 ^ 31) (h : post (il_val c g v d p)) : wpX_value post (il_X c g v d) (nI p) := by
  unfold wpX_value
  dsimp only
  refine ix_ma I.1 hp (il_bx (fun k z => by have := (il_mo_some z).1; omega) (fun y => ?_) (fun m y => ?_))
  · unfold il_val at h
    rw [y] at h
    exact h
  · obtain ⟨hm, h1, h2⟩ := il_mo_some y
    have h3 : p < il_S m c + c m := h2
    have h8 := I.1 m
    rw [y]
    refine ix_wb (m := m) (by omega) (nm_r (pk_sub h1) (ix_wv I hm (by omega) ?_))
    unfold il_val at h
    rw [y] at h
    exact h
theorem ix_van {post : Int32 → Prop} {x : Int32} (hx : x < 0) (h : post 0) : wpX_value post (il_X c g v d) x := by
  unfold wpX_value
  dsimp only
  exact ix_man hx (br_t rfl h)
theorem ix_ad {post : Int32 → Prop} {m : Nat} (hm : m < 6) (h : post (nI (il_S m c))) : wpX_address post (il_X c g v d) (nI m) := by
  unfold wpX_address
  dsimp only
  exact ix_isM hm (br_f (by decide) (ix_wb (by omega) h))
theorem ix_adB {post : Int32 → Prop} {z : Int32} (hm : il_bad 6 z) (h : post (-1)) : wpX_address post (il_X c g v d) z := by
  unfold wpX_address
  dsimp only
  exact ix_isMx hm (br_t rfl h)
theorem ix_wh {post : Int32 → Prop} {n : Nat} (I : il_ok c g d) (hn : n < 10) (h : post (il_yo (il_wh c d n))) : wpX_where post (il_X c g v d) (nI n) := by
  unfold wpX_where
  dsimp only
  refine ix_isN hn (br_f (by decide) (ix_cm I hn (il_bx il_mb (fun y => ?_) (fun m y => ?_))))
  · unfold il_wh at h
    simp only [y] at h
    exact h
  · obtain ⟨hm, k, hk⟩ := il_mf_some y
    rw [y]
    unfold il_wh il_dd at h
    simp only [y, hk] at h
    exact ix_na hm hn hk h
theorem ix_whB {post : Int32 → Prop} {z : Int32} (hm : il_bad 10 z) (h : post (-4)) : wpX_where post (il_X c g v d) z := by
  unfold wpX_where
  dsimp only
  exact ix_isNx hm (br_t rfl h)
theorem ix_ut {post : Int32 → Prop} {n : Nat} (I : il_ok c g d) (hn : n < 10) (h : post (nI (il_rt c g n))) : wpX_uses post (il_X c g v d) (nI n) := by
  unfold wpX_uses
  dsimp only
  exact ix_isN hn (br_f (by decide) (ix_rt I hn h))
theorem ix_utB {post : Int32 → Prop} {z : Int32} (hm : il_bad 10 z) (h : post (-1)) : wpX_uses post (il_X c g v d) z := by
  unfold wpX_uses
  dsimp only
  exact ix_isNx hm (br_t rfl h)
theorem ix_usB {post : Int32 → Prop} {z : Int32} (hm : il_bad 6 z) (h : post (-1)) : wpX_users post (il_X c g v d) z := by
  unfold wpX_users
  dsimp only
  exact ix_isMx hm (br_t rfl h)
theorem ix_mo {post : Int32 → Prop} {p : Nat} (I : il_ok c g d) (hp : p < 2 ^ 31) (h : post (il_yo (il_mo c p))) : wpX_moduleOf post (il_X c g v d) (nI p) := by
  unfold wpX_moduleOf
  dsimp only
  refine ix_ma I.1 hp (il_bx (fun k z => by have := (il_mo_some z).1; omega) (fun y => ?_) (fun m y => ?_))
  · rw [y] at h
    exact h
  · rw [y] at h ⊢
    exact h
theorem ix_mon {post : Int32 → Prop} {x : Int32} (hx : x < 0) (h : post (-4)) : wpX_moduleOf post (il_X c g v d) x := by
  unfold wpX_moduleOf
  dsimp only
  exact ix_man hx (br_t rfl h)
end XP
end
section
/-! ===== the reference's writers and the rest of its public methods ===== -/
section YP
variable {c : Nat → Nat} {g : Nat → Option Nat} {v : Nat → Int32} {d : Nat → Option Nat}
theorem iy_isMx {post : Int32 → Prop} {x : Int32} (hx : il_bad 6 x) (h : post 0) : wpY_isModule post (il_Y c g v d) x := by
  rcases hx with hx | ⟨j, h1, h2, rfl⟩
  · exact iy_isMn hx h
  · exact iy_isMb h1 h2 h
theorem iy_isNx {post : Int32 → Prop} {x : Int32} (hx : il_bad 10 x) (h : post 0) : wpY_isName post (il_Y c g v d) x := by
  rcases hx with hx | ⟨j, h1, h2, rfl⟩
  · exact iy_isNn hx h
  · exact iy_isNb h1 h2 h
theorem iy_iw {post : Int32 → Prop} {m w : Nat} (hc : ∀ m, c m ≤ 8) (hm : m < 6) (hw : w < c m) (h : post 1) : wpY_isWord post (il_Y c g v d) (nI m) (nI w) := by
  have h8 := hc m
  refine br_f (nI_pos (by omega)) ⟨vp_in_nI hm (by omega), ?_⟩
  rw [nI_clamp (by omega)]
  exact br_f (nI_ge hw (by omega)) h
theorem iy_iwx {post : Int32 → Prop} {m : Nat} {x : Int32} (hm : m < 6) (hx : il_bad (c m) x) (h : post 0) : wpY_isWord post (il_Y c g v d) (nI m) x := by
  rcases hx with hx | ⟨j, h1, h2, rfl⟩
  · exact br_t hx h
  · refine br_f (nI_pos h2) ⟨vp_in_nI hm (by omega), ?_⟩
    rw [nI_clamp (by omega)]
    exact br_t (nI_le h1 h2) h
theorem iy_inc {post : Int32 → SY → Prop} {m : Nat} (hm : m < 6) (h : post (nI (c m + 1)) (il_Y (il_up c m (c m + 1)) g v d)) : vp_in (nI m) 6 ∧ (vp_in (nI m) 6 ∧ ∀ a : Nat → Int32, a = upd (fun i => nI (c i)) (nI m).toNatClampNeg (nI (c (nI m).toNatClampNeg) + 1) → (vp_in (nI m) 6 ∧ post (a (nI m).toNatClampNeg) ((fun i => il_yo (g i)), v, a, (fun i => il_yo (d i))))) := by
  have hv : vp_in (nI m) 6 := vp_in_nI hm (by omega)
  rw [nI_clamp (by omega)]
  refine ⟨hv, hv, nm_r (e' := fun i => nI (il_up c m (c m + 1) i)) (by rw [nI_1]; exact il_uP nI c m _) ⟨hv, ?_⟩⟩
  show post (nI (il_up c m (c m + 1) m)) _
  rw [il_us c m (c m + 1)]
  exact h
theorem iy_ap {post : Int32 → SY → Prop} {m : Nat} {o : Option Nat} {x : Int32} (hm : m < 6) (h8 : c m < 8) (h : post (nI (c m + 1)) (il_Y (il_up c m (c m + 1)) (il_up g (8 * m + c m) o) (il_up v (8 * m + c m) x) d)) : wpY_append post (il_Y c g v d) (nI m) (il_yo o) x := by
  have hv : vp_in (nI m) 6 := vp_in_nI hm (by omega)
  have hs : vp_in (nI (8 * m + c m)) 48 := vp_in_nI (by omega) (by omega)
  have hc1 : (nI m).toNatClampNeg = m := nI_clamp (by omega)
  have hc2 : (nI (8 * m + c m)).toNatClampNeg = 8 * m + c m := nI_clamp (by omega)
  have hi := iy_inc (post := post) hm h
  rw [hc1] at hi
  unfold wpY_append
  dsimp only
  rw [hc1, il_s8' m (c m), hc2]
  exact ⟨hv, br_f (il_n8 h8) ⟨hv, hs, nm_r (il_uP il_yo g (8 * m + c m) o) ⟨hv, hs, nm_r (il_uV v (8 * m + c m) x) hi⟩⟩⟩
theorem iy_apF {post : Int32 → SY → Prop} {m : Nat} {x y : Int32} (hm : m < 6) (h8 : c m = 8) (h : post (-2) (il_Y c g v d)) : wpY_append post (il_Y c g v d) (nI m) x y := by
  unfold wpY_append
  dsimp only
  rw [nI_clamp (by omega), h8]
  exact ⟨vp_in_nI hm (by omega), br_t rfl h⟩
theorem iy_co {post : Int32 → SY → Prop} {m : Nat} {x : Int32} (hm : m < 6) (h8 : c m < 8) (h : post (nI (c m + 1)) (il_Y (il_up c m (c m + 1)) (il_up g (8 * m + c m) none) (il_up v (8 * m + c m) x) d)) : wpY_constant post (il_Y c g v d) (nI m) x := by
  unfold wpY_constant
  dsimp only
  exact iy_isM hm (br_f (by decide) (iy_ap (o := none) hm h8 h))
theorem iy_coF {post : Int32 → SY → Prop} {m : Nat} {x : Int32} (hm : m < 6) (h8 : c m = 8) (h : post (-2) (il_Y c g v d)) : wpY_constant post (il_Y c g v d) (nI m) x := by
  unfold wpY_constant
  dsimp only
  exact iy_isM hm (br_f (by decide) (iy_apF hm h8 h))
theorem iy_coB {post : Int32 → SY → Prop} {x y : Int32} (hx : il_bad 6 x) (h : post (-1) (il_Y c g v d)) : wpY_constant post (il_Y c g v d) x y := by
  unfold wpY_constant
  dsimp only
  exact iy_isMx hx (br_t rfl h)
theorem iy_re {post : Int32 → SY → Prop} {m n : Nat} {x : Int32} (hm : m < 6) (hn : n < 10) (a1 : ¬ x < -100) (a2 : ¬ 100 < x) (h8 : c m < 8) (h : post (nI (c m + 1)) (il_Y (il_up c m (c m + 1)) (il_up g (8 * m + c m) (some n)) (il_up v (8 * m + c m) x) d)) : wpY_reference post (il_Y c g v d) (nI m) (nI n) x := by
  unfold wpY_reference
  dsimp only
  exact iy_isM hm (br_f (by decide) (iy_isN hn (br_f (by decide) (br_f a1 (br_f a2 (br_f (by decide) (iy_ap (o := some n) hm h8 h)))))))
theorem iy_reF {post : Int32 → SY → Prop} {m n : Nat} {x : Int32} (hm : m < 6) (hn : n < 10) (a1 : ¬ x < -100) (a2 : ¬ 100 < x) (h8 : c m = 8) (h : post (-2) (il_Y c g v d)) : wpY_reference post (il_Y c g v d) (nI m) (nI n) x := by
  unfold wpY_reference
  dsimp only
  exact iy_isM hm (br_f (by decide) (iy_isN hn (br_f (by decide) (br_f a1 (br_f a2 (br_f (by decide) (iy_apF hm h8 h)))))))
theorem iy_reA {post : Int32 → SY → Prop} {m n : Nat} {x : Int32} (hm : m < 6) (hn : n < 10) (a : x < -100 ∨ 100 < x) (h : post (-1) (il_Y c g v d)) : wpY_reference post (il_Y c g v d) (nI m) (nI n) x := by
  unfold wpY_reference
  dsimp only
  refine iy_isM hm (br_f (by decide) (iy_isN hn (br_f (by decide) ?_)))
  by_cases a1 : x < -100
  · exact br_t a1 (br_t rfl h)
  · exact br_f a1 (br_t (a.resolve_left a1) (br_t rfl h))
theorem iy_reN {post : Int32 → SY → Prop} {m : Nat} {y x : Int32} (hm : m < 6) (hn : il_bad 10 y) (h : post (-1) (il_Y c g v d)) : wpY_reference post (il_Y c g v d) (nI m) y x := by
  unfold wpY_reference
  dsimp only
  exact iy_isM hm (br_f (by decide) (iy_isNx hn (br_t rfl (br_t rfl h))))
theorem iy_reB {post : Int32 → SY → Prop} {z y x : Int32} (hm : il_bad 6 z) (h : post (-1) (il_Y c g v d)) : wpY_reference post (il_Y c g v d) z y x := by
  unfold wpY_reference
  dsimp only
  exact iy_isMx hm (br_t rfl (br_t rfl h))
theorem iy_p43 {post : Int32 → SY → Prop} {m w : Nat} {x z : Int32} (hs : 8 * m + w < 48) (h : post z (il_Y c (il_up g (8 * m + w) none) (il_up v (8 * m + w) x) d)) : wY_patch_43 post (nI m) (nI w) x z (fun i => il_yo (g i)) v (fun i => nI (c i)) (fun i => il_yo (d i)) := by
  have hv : vp_in (nI (8 * m + w)) 48 := vp_in_nI hs (by omega)
  unfold wY_patch_43
  rw [il_s8' m w, nI_clamp (by omega)]
  exact ⟨hv, nm_r (il_uP il_yo g (8 * m + w) none) ⟨hv, nm_r (il_uV v (8 * m + w) x) h⟩⟩
theorem iy_pa {post : Int32 → SY → Prop} {m w : Nat} {x : Int32} (I : il_ok c g d) (hm : m < 6) (hw : w < c m) (h : post (il_fl (g (8 * m + w))) (il_Y c (il_up g (8 * m + w) none) (il_up v (8 * m + w) x) d)) : wpY_patch post (il_Y c g v d) (nI m) (nI w) x := by
  have h8 := I.1 m
  unfold wpY_patch
  dsimp only
  refine iy_isM hm (br_f (by decide) (iy_iw I.1 hm hw (br_f (by decide) ?_)))
  rw [il_s8' m w, nI_clamp (by omega)]
  refine ⟨vp_in_nI (by omega) (by omega), il_by (il_gb I _) (fun z => ?_) (fun k z => ?_)⟩
  · rw [z] at h
    exact iy_p43 (by omega) h
  · rw [z] at h
    exact iy_p43 (by omega) h
theorem iy_paN {post : Int32 → SY → Prop} {m : Nat} {y x : Int32} (hm : m < 6) (hw : il_bad (c m) y) (h : post (-4) (il_Y c g v d)) : wpY_patch post (il_Y c g v d) (nI m) y x := by
  unfold wpY_patch
  dsimp only
  exact iy_isM hm (br_f (by decide) (iy_iwx hm hw (br_t rfl h)))
theorem iy_paB {post : Int32 → SY → Prop} {z y x : Int32} (hm : il_bad 6 z) (h : post (-1) (il_Y c g v d)) : wpY_patch post (il_Y c g v d) z y x := by
  unfold wpY_patch
  dsimp only
  exact iy_isMx hm (br_t rfl h)
theorem iy_i134 {post : Int32 → SY → Prop} {m w : Nat} (hm : m < 6) (hw : w ≤ 8) : ∀ e i (d : Nat → Option Nat), i + e = 10 → (∀ n, i ≤ n → n < 10 → ∀ k, d (10 * m + n) = some k → k ≤ 8) → post (nI (c m + 1)) (il_Y (il_up c m (c m + 1)) g v (il_fil (il_qi w) e (10 * m + i) d)) → wY_insert_134 post (nI m) (nI w) (e + 1) (nI (10 * m + i)) (fun i => il_yo (g i)) v (fun i => nI (c i)) (fun i => il_yo (d i))
  | 0, i, d, hi, hd, h => by
    have e : i = 10 := by omega
    subst e
    refine br_t ?_ (iy_inc hm h)
    rw [il_m10, il_a10]
    exact nI_le (Nat.le_refl _) (by omega)
  | e + 1, i, d, hi, hd, h => by
    have hb := hd i (Nat.le_refl i) (by omega)
    have hv : vp_in (nI (10 * m + i)) 60 := vp_in_nI (by omega) (by omega)
    have hn : ∀ (x : Option Nat) n, i + 1 ≤ n → n < 10 → ∀ k, il_up d (10 * m + i) x (10 * m + n) = some k → k ≤ 8 := by
      intro x n h1 h2 k hk
      rw [il_un d x (by omega)] at hk
      exact hd n (by omega) h2 k hk
    have ih := iy_i134 hm hw e (i + 1) (il_up d (10 * m + i) (il_qi w (d (10 * m + i)))) (by omega) (hn _) h
    refine br_f ?_ ⟨hv, ?_⟩
    · rw [il_m10, il_a10]
      exact nI_ge (by omega) (by omega)
    · rw [nI_clamp (by omega)]
      refine il_yge w (by omega) (fun k z => by have := hb k z; omega) (fun z => ⟨hv, hv, ?_⟩) (fun k z y => ⟨hv, hv, ?_⟩)
      · have hq : il_qi w (d (10 * m + i)) = d (10 * m + i) := by
          cases hz : d (10 * m + i) with
          | none => rfl
          | some k => exact il_qi1 (z k hz)
        rw [hq] at ih
        exact nm_r (il_uP il_yo d (10 * m + i) (d (10 * m + i))) (nm_r (nI_1 _) ih)
      · rw [z, il_qi2 y] at ih
        dsimp only
        rw [z]
        refine nm_r ?_ (nm_r (nI_1 _) ih)
        rw [← il_uP]
        exact congrArg _ (nI_1 k)
theorem iy_i54 {post : Int32 → SY → Prop} {m w : Nat} {x : Int32} (I : ∀ n k, n < 10 → d (10 * m + n) = some k → k ≤ 8) (hm : m < 6) : ∀ e (g : Nat → Option Nat) (v : Nat → Int32), w + e < 8 → post (nI (c m + 1)) (il_Y (il_up c m (c m + 1)) (il_up (il_opn e (8 * m + w) g) (8 * m + w) none) (il_up (il_opn e (8 * m + w) v) (8 * m + w) x) (il_fil (il_qi w) 10 (10 * m) d)) → wY_insert_54 post (nI m) (nI w) x (e + 1) (nI (8 * m + w + e)) (fun i => il_yo (g i)) v (fun i => nI (c i)) (fun i => il_yo (d i))
  | 0, g, v, hw, h => by
    have hv : vp_in (nI (8 * m + w)) 48 := vp_in_nI (by omega) (by omega)
    have hl : nI (8 * m + w + 0) ≤ 8 * nI m + nI w := by
      rw [il_s8' m w]; exact nI_le (by omega) (by omega)
    refine br_t hl ?_
    rw [il_s8' m w, nI_clamp (by omega)]
    exact ⟨hv, nm_r (il_uP il_yo g (8 * m + w) none) ⟨hv, nm_r (il_uV v (8 * m + w) x) (nm_r (il_m10 m) ⟨11, iy_i134 hm (by omega) 10 0 d rfl (fun n _ hn k hk => I n k hn hk) h⟩)⟩⟩
  | e + 1, g, v, hw, h => by
    have hl : ¬ nI (8 * m + w + (e + 1)) ≤ 8 * nI m + nI w := by
      rw [il_s8' m w]; exact nI_ge (by omega) (by omega)
    have hv : vp_in (nI (8 * m + w + e + 1)) 48 := vp_in_nI (by omega) (by omega)
    have hv' : vp_in (nI (8 * m + w + e)) 48 := vp_in_nI (by omega) (by omega)
    have ih := iy_i54 I hm e (il_up g (8 * m + w + e + 1) (g (8 * m + w + e))) (il_up v (8 * m + w + e + 1) (v (8 * m + w + e))) (by omega) h
    refine br_f hl ?_
    rw [show 8 * m + w + (e + 1) = 8 * m + w + e + 1 from by omega, nI_pred, nI_clamp (n := 8 * m + w + e) (by omega), nI_clamp (n := 8 * m + w + e + 1) (by omega)]
    exact ⟨hv', hv, nm_r (il_uP il_yo g (8 * m + w + e + 1) (g (8 * m + w + e))) ⟨hv', hv, nm_r (il_uV v (8 * m + w + e + 1) (v (8 * m + w + e))) (nm_r (pk_m1 _) ih)⟩⟩
theorem iy_in {post : Int32 → SY → Prop} {m w : Nat} {x : Int32} (I : il_ok c g d) (hm : m < 6) (hw : w ≤ c m) (h8 : c m < 8) (h : post (nI (c m + 1)) (il_Y (il_up c m (c m + 1)) (il_up (il_opn (c m - w) (8 * m + w) g) (8 * m + w) none) (il_up (il_opn (c m - w) (8 * m + w) v) (8 * m + w) x) (il_fil (il_qi w) 10 (10 * m) d))) : wpY_insert post (il_Y c g v d) (nI m) (nI w) x := by
  have hv : vp_in (nI m) 6 := vp_in_nI hm (by omega)
  have t := iy_i54 (c := c) (d := d) (post := post) (x := x) (fun n k hn hk => by have h1 := I.2.2 m n k hm hn hk; omega) hm (c m - w) g v (by omega) h
  rw [show 8 * m + w + (c m - w) = 8 * m + c m from by omega] at t
  unfold wpY_insert
  dsimp only
  rw [nI_clamp (n := m) (by omega)]
  exact iy_isM hm (br_f (by decide) (br_f (nI_pos (by omega)) ⟨hv, br_t (nI_le hw (by omega)) ⟨hv, br_f (il_n8 h8) ⟨hv, nm_r (il_s8' m (c m)) ⟨_, t⟩⟩⟩⟩))
theorem iy_inF {post : Int32 → SY → Prop} {m w : Nat} {x : Int32} (hm : m < 6) (hw : w ≤ c m) (h8 : c m = 8) (h : post (-2) (il_Y c g v d)) : wpY_insert post (il_Y c g v d) (nI m) (nI w) x := by
  have hv : vp_in (nI m) 6 := vp_in_nI hm (by omega)
  unfold wpY_insert
  dsimp only
  rw [nI_clamp (n := m) (by omega)]
  refine iy_isM hm (br_f (by decide) (br_f (nI_pos (by omega)) ⟨hv, br_t (nI_le hw (by omega)) ⟨hv, br_t ?_ h⟩⟩))
  rw [h8]; rfl
theorem iy_inN {post : Int32 → SY → Prop} {m : Nat} {y x : Int32} (hm : m < 6) (hw : il_bad (c m + 1) y) (h : post (-4) (il_Y c g v d)) : wpY_insert post (il_Y c g v d) (nI m) y x := by
  have hv : vp_in (nI m) 6 := vp_in_nI hm (by omega)
  unfold wpY_insert
  dsimp only
  rw [nI_clamp (n := m) (by omega)]
  refine iy_isM hm (br_f (by decide) ?_)
  rcases hw with hw | ⟨j, h1, h2, rfl⟩
  · exact br_t hw h
  · exact br_f (nI_pos h2) ⟨hv, br_f (nI_ge (by omega) h2) h⟩
theorem iy_inB {post : Int32 → SY → Prop} {z y x : Int32} (hm : il_bad 6 z) (h : post (-1) (il_Y c g v d)) : wpY_insert post (il_Y c g v d) z y x := by
  unfold wpY_insert
  dsimp only
  exact iy_isMx hm (br_t rfl h)
theorem iy_d93 {post : Int32 → SY → Prop} {m w : Nat} (hm : m < 6) (hw : w ≤ 8) : ∀ e i (d : Nat → Option Nat), i + e = 10 → (∀ n, i ≤ n → n < 10 → ∀ k, d (10 * m + n) = some k → k ≤ 8) → post (nI (c m)) (il_Y c g v (il_fil (il_qd w) e (10 * m + i) d)) → wY_delete_93 post (nI m) (nI w) (e + 1) (nI (10 * m + i)) (fun i => il_yo (g i)) v (fun i => nI (c i)) (fun i => il_yo (d i))
  | 0, i, d, hi, hd, h => by
    have e : i = 10 := by omega
    subst e
    refine br_t ?_ ⟨vp_in_nI hm (by omega), ?_⟩
    · rw [il_m10, il_a10]
      exact nI_le (Nat.le_refl _) (by omega)
    · rw [nI_clamp (by omega)]
      exact h
  | e + 1, i, d, hi, hd, h => by
    have hb := hd i (Nat.le_refl i) (by omega)
    have hv : vp_in (nI (10 * m + i)) 60 := vp_in_nI (by omega) (by omega)
    have hn : ∀ (x : Option Nat) n, i + 1 ≤ n → n < 10 → ∀ k, il_up d (10 * m + i) x (10 * m + n) = some k → k ≤ 8 := by
      intro x n h1 h2 k hk
      rw [il_un d x (by omega)] at hk
      exact hd n (by omega) h2 k hk
    have ih := iy_d93 hm hw e (i + 1) (il_up d (10 * m + i) (il_qd w (d (10 * m + i)))) (by omega) (hn _) h
    refine br_f ?_ ⟨hv, ?_⟩
    · rw [il_m10, il_a10]
      exact nI_ge (by omega) (by omega)
    · rw [nI_clamp (by omega)]
      refine il_yle w (by omega) (fun k z => by have := hb k z; omega) (fun z => ⟨hv, hv, ?_⟩) (fun k z y => ⟨hv, hv, ?_⟩)
      · have hq : il_qd w (d (10 * m + i)) = d (10 * m + i) := by
          cases hz : d (10 * m + i) with
          | none => rfl
          | some k => exact il_qd1 (z k hz)
        rw [hq] at ih
        exact nm_r (il_uP il_yo d (10 * m + i) (d (10 * m + i))) (nm_r (nI_1 _) ih)
      · rw [z, il_qd2 y] at ih
        dsimp only
        rw [z]
        refine nm_r ?_ (nm_r (nI_1 _) ih)
        rw [← il_uP]
        exact congrArg _ (il_mi1 (by omega))
theorem iy_d39 {post : Int32 → SY → Prop} {m w : Nat} (I : ∀ n k, n < 10 → d (10 * m + n) = some k → k ≤ 8) (hm : m < 6) (hw : w ≤ 8) (h8 : c m ≤ 7) : ∀ e i (g : Nat → Option Nat) (v : Nat → Int32), i + e = c m → post (nI (c m)) (il_Y c (il_cls e (8 * m + i) g) (il_cls e (8 * m + i) v) (il_fil (il_qd w) 10 (10 * m) d)) → wY_delete_39 post (nI m) (nI w) (e + 1) (nI (8 * m + i)) (fun i => il_yo (g i)) v (fun i => nI (c i)) (fun i => il_yo (d i))
  | 0, i, g, v, hi, h => by
    refine ⟨vp_in_nI hm (by omega), br_t ?_ (nm_r (il_m10 m) ⟨11, iy_d93 hm hw 10 0 d rfl (fun n _ hn k hk => I n k hn hk) h⟩)⟩
    rw [nI_clamp (by omega), il_s8' m (c m)]
    exact nI_le (by omega) (by omega)
  | e + 1, i, g, v, hi, h => by
    have hv : vp_in (nI (8 * m + i)) 48 := vp_in_nI (by omega) (by omega)
    have hv' : vp_in (nI (8 * m + i + 1)) 48 := vp_in_nI (by omega) (by omega)
    have ih := iy_d39 I hm hw h8 e (i + 1) (il_up g (8 * m + i) (g (8 * m + i + 1))) (il_up v (8 * m + i) (v (8 * m + i + 1))) (by omega) h
    refine ⟨vp_in_nI hm (by omega), br_f ?_ ?_⟩
    · rw [nI_clamp (by omega), il_s8' m (c m)]
      exact nI_ge (by omega) (by omega)
    · rw [nI_1 (8 * m + i), nI_clamp (n := 8 * m + i) (by omega), nI_clamp (n := 8 * m + i + 1) (by omega)]
      exact ⟨hv', hv, nm_r (il_uP il_yo g (8 * m + i) (g (8 * m + i + 1))) ⟨hv', hv, nm_r (il_uV v (8 * m + i) (v (8 * m + i + 1))) (nm_e ih)⟩⟩
theorem iy_de {post : Int32 → SY → Prop} {m w : Nat} (I : il_ok c g d) (hm : m < 6) (hw : w < c m) (h : post (nI (c m - 1)) (il_Y (il_up c m (c m - 1)) (il_cls (c m - 1 - w) (8 * m + w) g) (il_cls (c m - 1 - w) (8 * m + w) v) (il_fil (il_qd w) 10 (10 * m) d))) : wpY_delete post (il_Y c g v d) (nI m) (nI w) := by
  have h8 := I.1 m
  have hv : vp_in (nI m) 6 := vp_in_nI hm (by omega)
  have hu : il_up c m (c m - 1) m = c m - 1 := il_us c m (c m - 1)
  have h' : post (nI (il_up c m (c m - 1) m)) (il_Y (il_up c m (c m - 1)) (il_cls (c m - 1 - w) (8 * m + w) g) (il_cls (c m - 1 - w) (8 * m + w) v) (il_fil (il_qd w) 10 (10 * m) d)) := by rw [hu]; exact h
  have t := iy_d39 (c := il_up c m (c m - 1)) (d := d) (post := post) (w := w) (fun n k hn hk => by have h1 := I.2.2 m n k hm hn hk; omega) hm (by omega) (by rw [hu]; omega) (c m - 1 - w) w g v (by rw [hu]; omega) h'
  unfold wpY_delete
  dsimp only
  rw [nI_clamp (n := m) (by omega)]
  refine iy_isM hm (br_f (by decide) (iy_iw I.1 hm hw (br_f (by decide) ⟨hv, hv, nm_r (e' := fun i => nI (il_up c m (c m - 1) i)) ?_ (nm_r (il_s8' m w) ⟨_, t⟩)⟩)))
  rw [il_mi1 (by omega)]
  exact il_uP nI c m _
theorem iy_deN {post : Int32 → SY → Prop} {m : Nat} {y : Int32} (hm : m < 6) (hw : il_bad (c m) y) (h : post (-4) (il_Y c g v d)) : wpY_delete post (il_Y c g v d) (nI m) y := by
  unfold wpY_delete
  dsimp only
  exact iy_isM hm (br_f (by decide) (iy_iwx hm hw (br_t rfl h)))
theorem iy_deB {post : Int32 → SY → Prop} {z y : Int32} (hm : il_bad 6 z) (h : post (-1) (il_Y c g v d)) : wpY_delete post (il_Y c g v d) z y := by
  unfold wpY_delete
  dsimp only
  exact iy_isMx hm (br_t rfl h)
theorem iy_ul0 {post : Int32 → SY → Prop} {m : Nat} {y : Int32} (hm : m < 6) : ∀ e i (d : Nat → Option Nat), i + e = 10 → post y (il_Y c g v (il_fil (fun _ => none) e (10 * m + i) d)) → wY_unload_29 post (nI m) y (e + 1) (nI (10 * m + i)) (fun i => il_yo (g i)) v (fun i => nI (c i)) (fun i => il_yo (d i))
  | 0, i, d, hi, h => by
    have e : i = 10 := by omega
    subst e
    refine br_t ?_ h
    rw [il_m10, il_a10]
    exact nI_le (Nat.le_refl _) (by omega)
  | e + 1, i, d, hi, h => by
    have ih := iy_ul0 hm e (i + 1) (il_up d (10 * m + i) none) (by omega) h
    refine br_f ?_ ⟨vp_in_nI (by omega) (by omega), ?_⟩
    · rw [il_m10, il_a10]
      exact nI_ge (by omega) (by omega)
    · rw [nI_clamp (by omega)]
      exact nm_r (il_uP il_yo d (10 * m + i) none) (nm_r (nI_1 _) ih)
theorem iy_ul {post : Int32 → SY → Prop} {m : Nat} (hm : m < 6) (h : post (nI (c m)) (il_Y (il_up c m 0) g v (il_fil (fun _ => none) 10 (10 * m) d))) : wpY_unload post (il_Y c g v d) (nI m) := by
  have hv : vp_in (nI m) 6 := vp_in_nI hm (by omega)
  unfold wpY_unload
  dsimp only
  rw [nI_clamp (by omega)]
  exact iy_isM hm (br_f (by decide) ⟨hv, nm_e ⟨hv, nm_r (il_uP nI c m 0) (nm_r (il_m10 m) ⟨11, iy_ul0 hm 10 0 d rfl h⟩)⟩⟩)
theorem iy_ulB {post : Int32 → SY → Prop} {z : Int32} (hm : il_bad 6 z) (h : post (-1) (il_Y c g v d)) : wpY_unload post (il_Y c g v d) z := by
  unfold wpY_unload
  dsimp only
  exact iy_isMx hm (br_t rfl h)
theorem iy_df {post : Int32 → SY → Prop} {m n w : Nat} (I : il_ok c g d) (hm : m < 6) (hn : n < 10) (hw : w ≤ c m) (h : post (il_fl (d (10 * m + n))) (il_Y c g v (il_up d (10 * m + n) (some w)))) : wpY_define post (il_Y c g v d) (nI m) (nI n) (nI w) := by
  have h8 := I.1 m
  have hv : vp_in (nI (10 * m + n)) 60 := vp_in_nI (by omega) (by omega)
  have hv6 : vp_in (nI m) 6 := vp_in_nI hm (by omega)
  unfold wpY_define wY_define_56
  dsimp only
  rw [nI_clamp (n := m) (by omega), il_s10' m n, nI_clamp (n := 10 * m + n) (by omega)]
  refine iy_isM hm (br_f (by decide) (iy_isN hn (br_f (by decide) (br_f (nI_pos (by omega)) ⟨hv6, br_t (nI_le hw (by omega)) ⟨hv, il_by (il_db I hm hn) (fun z => ?_) (fun k z => ?_)⟩⟩))))
  · rw [z] at h
    exact ⟨hv, nm_r (il_uP il_yo d (10 * m + n) (some w)) h⟩
  · rw [z] at h
    exact ⟨hv, nm_r (il_uP il_yo d (10 * m + n) (some w)) h⟩
theorem iy_dfN {post : Int32 → SY → Prop} {m n : Nat} {y : Int32} (hm : m < 6) (hn : n < 10) (hw : il_bad (c m + 1) y) (h : post (-4) (il_Y c g v d)) : wpY_define post (il_Y c g v d) (nI m) (nI n) y := by
  have hv : vp_in (nI m) 6 := vp_in_nI hm (by omega)
  unfold wpY_define
  dsimp only
  rw [nI_clamp (n := m) (by omega)]
  refine iy_isM hm (br_f (by decide) (iy_isN hn (br_f (by decide) ?_)))
  rcases hw with hw | ⟨j, h1, h2, rfl⟩
  · exact br_t hw h
  · exact br_f (nI_pos h2) ⟨hv, br_f (nI_ge (by omega) h2) h⟩
theorem iy_dfM {post : Int32 → SY → Prop} {m : Nat} {x y : Int32} (hm : m < 6) (hn : il_bad 10 x) (h : post (-1) (il_Y c g v d)) : wpY_define post (il_Y c g v d) (nI m) x y := by
  unfold wpY_define
  dsimp only
  exact iy_isM hm (br_f (by decide) (iy_isNx hn (br_t rfl h)))
theorem iy_dfB {post : Int32 → SY → Prop} {z x y : Int32} (hm : il_bad 6 z) (h : post (-1) (il_Y c g v d)) : wpY_define post (il_Y c g v d) z x y := by
  unfold wpY_define
  dsimp only
  exact iy_isMx hm (br_t rfl h)
theorem iy_ud {post : Int32 → SY → Prop} {m n : Nat} (hm : m < 6) (hn : n < 10) (h : post (il_yo (d (10 * m + n))) (il_Y c g v (il_up d (10 * m + n) none))) : wpY_undefine post (il_Y c g v d) (nI m) (nI n) := by
  have hv : vp_in (nI (10 * m + n)) 60 := vp_in_nI (by omega) (by omega)
  unfold wpY_undefine
  dsimp only
  rw [il_s10' m n, nI_clamp (by omega)]
  exact iy_isM hm (br_f (by decide) (iy_isN hn (br_f (by decide) ⟨hv, nm_e ⟨hv, nm_r (il_uP il_yo d (10 * m + n) none) h⟩⟩)))
theorem iy_udM {post : Int32 → SY → Prop} {m : Nat} {x : Int32} (hm : m < 6) (hn : il_bad 10 x) (h : post (-1) (il_Y c g v d)) : wpY_undefine post (il_Y c g v d) (nI m) x := by
  unfold wpY_undefine
  dsimp only
  exact iy_isM hm (br_f (by decide) (iy_isNx hn (br_t rfl h)))
theorem iy_udB {post : Int32 → SY → Prop} {z x : Int32} (hm : il_bad 6 z) (h : post (-1) (il_Y c g v d)) : wpY_undefine post (il_Y c g v d) z x := by
  unfold wpY_undefine
  dsimp only
  exact iy_isMx hm (br_t rfl h)
theorem iy_si {post : Int32 → Prop} (h : post (nI (il_S 6 c))) : wpY_size post (il_Y c g v d) := by
  unfold wpY_size
  dsimp only
  exact iy_bg (m := 6) (by omega) h
theorem iy_ad {post : Int32 → Prop} {m : Nat} (hm : m < 6) (h : post (nI (il_S m c))) : wpY_address post (il_Y c g v d) (nI m) := by
  unfold wpY_address
  dsimp only
  exact iy_isM hm (br_f (by decide) (iy_bg (by omega) h))
theorem iy_adB {post : Int32 → Prop} {z : Int32} (hm : il_bad 6 z) (h : post (-1)) : wpY_address post (il_Y c g v d) z := by
  unfold wpY_address
  dsimp only
  exact iy_isMx hm (br_t rfl h)
theorem iy_whB {post : Int32 → Prop} {z : Int32} (hm : il_bad 10 z) (h : post (-4)) : wpY_where post (il_Y c g v d) z := by
  unfold wpY_where
  dsimp only
  exact iy_isNx hm (br_t rfl h)
theorem iy_utB {post : Int32 → Prop} {z : Int32} (hm : il_bad 10 z) (h : post (-1)) : wpY_uses post (il_Y c g v d) z := by
  unfold wpY_uses
  dsimp only
  exact iy_isNx hm (br_t rfl h)
theorem iy_usB {post : Int32 → Prop} {z : Int32} (hm : il_bad 6 z) (h : post (-1)) : wpY_users post (il_Y c g v d) z := by
  unfold wpY_users
  dsimp only
  exact iy_isMx hm (br_t rfl h)
end YP
end
section
/-! ===== what is owed ===== -/
def i_Rel (_ : Nat) (u : SX) (v : SY) : Prop := ∃ (c : Nat → Nat) (g : Nat → Option Nat) (t : Nat → Int32) (d : Nat → Option Nat), il_ok c g d ∧ u = il_X c g t d ∧ v = il_Y c g t d
theorem i_up {k : Nat} {u : SX} {v : SY} (h : i_Rel k u v) : i_Rel (k + 4) u v := h
theorem ip_x0 {post : SX → Prop} {c : Nat → Nat} {g : Nat → Option Nat} {v : Nat → Int32} : ∀ e i (d : Nat → Option Nat), i + e = 60 → post (il_X c g v (il_fil (fun _ => none) e i d)) → wX_init_38 post (e + 1) (nI i) (fun i => nI (c i)) (fun i => il_xo (g i)) v (fun i => il_xo (d i))
  | 0, i, d, hi, h => by
    have e : i = 60 := by omega
    subst e
    exact br_t (nI_le (a := 60) (Nat.le_refl _) (by decide)) h
  | e + 1, i, d, hi, h => by
    have ih := ip_x0 e (i + 1) (il_up d i none) (by omega) h
    refine br_f (nI_ge (b := 60) (by omega) (by decide)) ⟨vp_in_nI (by omega) (by omega), ?_⟩
    rw [nI_clamp (by omega)]
    exact nm_r (il_uP il_xo d i none) (nm_r (nI_1 i) ih)
theorem ip_y0 {post : SY → Prop} {c : Nat → Nat} {g : Nat → Option Nat} {v : Nat → Int32} : ∀ e i (d : Nat → Option Nat), i + e = 60 → post (il_Y c g v (il_fil (fun _ => none) e i d)) → wY_init_38 post (e + 1) (nI i) (fun i => il_yo (g i)) v (fun i => nI (c i)) (fun i => il_yo (d i))
  | 0, i, d, hi, h => by
    have e : i = 60 := by omega
    subst e
    exact br_t (nI_le (a := 60) (Nat.le_refl _) (by decide)) h
  | e + 1, i, d, hi, h => by
    have ih := ip_y0 e (i + 1) (il_up d i none) (by omega) h
    refine br_f (nI_ge (b := 60) (by omega) (by decide)) ⟨vp_in_nI (by omega) (by omega), ?_⟩
    rw [nI_clamp (by omega)]
    exact nm_r (il_uP il_yo d i none) (nm_r (nI_1 i) ih)
theorem ip_ok0 : il_ok (fun _ => 0) (fun _ => some 0) (il_fil (fun _ => none) 60 0 (fun _ => some 0)) := by
  refine ⟨fun _ => Nat.zero_le 8, fun i k h => ?_, fun m n k hm hn h => ?_⟩
  · have h' : (some 0 : Option Nat) = some k := h
    cases h'
    decide
  · rw [il_fil_eq, if_pos (by omega)] at h
    have h' : (none : Option Nat) = some k := h
    cases h'
theorem i_vc0 : wpX_init (fun u => wpY_init (fun v => i_Rel 0 u v)) :=
  ⟨61, ip_x0 (c := fun _ => 0) (g := fun _ => some 0) (v := fun _ => 0) 60 0 (fun _ => some 0) rfl ⟨61, ip_y0 (c := fun _ => 0) (g := fun _ => some 0) (v := fun _ => 0) 60 0 (fun _ => some 0) rfl ⟨_, _, _, _, ip_ok0, rfl, rfl⟩⟩⟩
theorem i_vc_constant {k : Nat} {u : SX} {v : SY} (I : i_Rel k u v) (hk : k + 4 ≤ 2048) (v1 : Int32) (v2 : Int32) : wpX_constant (fun r u' => wpY_constant (fun r' v' => r' = r ∧ i_Rel (k + 4) u' v') v v1 v2) u v1 v2 := by
  obtain ⟨c, g, t, d, I, rfl, rfl⟩ := I
  rcases il_ix v1 6 with hb | ⟨m, hm, _, rfl⟩
  · exact ix_coB hb (iy_coB hb ⟨rfl, _, _, _, _, I, rfl, rfl⟩)
  · by_cases h8 : c m = 8
    · exact ix_coF hm h8 (iy_coF hm h8 ⟨rfl, _, _, _, _, I, rfl, rfl⟩)
    · have h8' : c m < 8 := by have := I.1 m; omega
      exact ix_co hm h8' (iy_co hm h8' ⟨rfl, _, _, _, _, il_ok_add I h8' (fun _ z => by cases z), rfl, rfl⟩)
theorem i_vc_reference {k : Nat} {u : SX} {v : SY} (I : i_Rel k u v) (hk : k + 4 ≤ 2048) (v1 : Int32) (v2 : Int32) (v3 : Int32) : wpX_reference (fun r u' => wpY_reference (fun r' v' => r' = r ∧ i_Rel (k + 4) u' v') v v1 v2 v3) u v1 v2 v3 := by
  obtain ⟨c, g, t, d, I, rfl, rfl⟩ := I
  rcases il_ix v1 6 with hb | ⟨m, hm, _, rfl⟩
  · exact ix_reB hb (iy_reB hb ⟨rfl, _, _, _, _, I, rfl, rfl⟩)
  · rcases il_ix v2 10 with hb | ⟨n, hn, _, rfl⟩
    · exact ix_reN hm hb (iy_reN hm hb ⟨rfl, _, _, _, _, I, rfl, rfl⟩)
    · by_cases a1 : v3 < -100
      · exact ix_reA hm hn (Or.inl a1) (iy_reA hm hn (Or.inl a1) ⟨rfl, _, _, _, _, I, rfl, rfl⟩)
      · by_cases a2 : 100 < v3
        · exact ix_reA hm hn (Or.inr a2) (iy_reA hm hn (Or.inr a2) ⟨rfl, _, _, _, _, I, rfl, rfl⟩)
        · by_cases h8 : c m = 8
          · exact ix_reF hm hn a1 a2 h8 (iy_reF hm hn a1 a2 h8 ⟨rfl, _, _, _, _, I, rfl, rfl⟩)
          · have h8' : c m < 8 := by have := I.1 m; omega
            exact ix_re hm hn a1 a2 h8' (iy_re hm hn a1 a2 h8' ⟨rfl, _, _, _, _, il_ok_add I h8' (fun _ z => by cases z; exact hn), rfl, rfl⟩)
theorem i_vc_patch {k : Nat} {u : SX} {v : SY} (I : i_Rel k u v) (hk : k + 4 ≤ 2048) (v1 : Int32) (v2 : Int32) (v3 : Int32) : wpX_patch (fun r u' => wpY_patch (fun r' v' => r' = r ∧ i_Rel (k + 4) u' v') v v1 v2 v3) u v1 v2 v3 := by
  obtain ⟨c, g, t, d, I, rfl, rfl⟩ := I
  rcases il_ix v1 6 with hb | ⟨m, hm, _, rfl⟩
  · exact ix_paB hb (iy_paB hb ⟨rfl, _, _, _, _, I, rfl, rfl⟩)
  · rcases il_ix v2 (c m) with hb | ⟨w, hw, _, rfl⟩
    · exact ix_paN hm hb (iy_paN hm hb ⟨rfl, _, _, _, _, I, rfl, rfl⟩)
    · exact ix_pa I hm hw (iy_pa I hm hw ⟨rfl, _, _, _, _, il_ok_name I (fun _ z => by cases z), rfl, rfl⟩)
theorem i_vc_insert {k : Nat} {u : SX} {v : SY} (I : i_Rel k u v) (hk : k + 4 ≤ 2048) (v1 : Int32) (v2 : Int32) (v3 : Int32) : wpX_insert (fun r u' => wpY_insert (fun r' v' => r' = r ∧ i_Rel (k + 4) u' v') v v1 v2 v3) u v1 v2 v3 := by
  obtain ⟨c, g, t, d, I, rfl, rfl⟩ := I
  rcases il_ix v1 6 with hb | ⟨m, hm, _, rfl⟩
  · exact ix_inB hb (iy_inB hb ⟨rfl, _, _, _, _, I, rfl, rfl⟩)
  · rcases il_ix v2 (c m + 1) with hb | ⟨w, hw, _, rfl⟩
    · exact ix_inN hm hb (iy_inN hm hb ⟨rfl, _, _, _, _, I, rfl, rfl⟩)
    · have hw' : w ≤ c m := by omega
      by_cases h8 : c m = 8
      · exact ix_inF I hm hw' h8 (iy_inF hm hw' h8 ⟨rfl, _, _, _, _, I, rfl, rfl⟩)
      · have h8' : c m < 8 := by have := I.1 m; omega
        have hg : ∀ i k, il_up (il_opn (c m - w) (8 * m + w) g) (8 * m + w) none i = some k → k < 10 :=
          il_up_all (P := fun o => ∀ k, o = some k → k < 10) (8 * m + w) (il_opn_all (P := fun o => ∀ k, o = some k → k < 10) _ _ g I.2.1) (fun _ z => by cases z)
        exact ix_in I hm hw' h8' (iy_in I hm hw' h8' ⟨rfl, _, _, _, _, il_ok_fil (il_qi w) I (by omega) rfl hg (fun o a ho z => il_qi_ok o a ho z), rfl, rfl⟩)
theorem i_vc_delete {k : Nat} {u : SX} {v : SY} (I : i_Rel k u v) (hk : k + 4 ≤ 2048) (v1 : Int32) (v2 : Int32) : wpX_delete (fun r u' => wpY_delete (fun r' v' => r' = r ∧ i_Rel (k + 4) u' v') v v1 v2) u v1 v2 := by
  obtain ⟨c, g, t, d, I, rfl, rfl⟩ := I
  rcases il_ix v1 6 with hb | ⟨m, hm, _, rfl⟩
  · exact ix_deB hb (iy_deB hb ⟨rfl, _, _, _, _, I, rfl, rfl⟩)
  · rcases il_ix v2 (c m) with hb | ⟨w, hw, _, rfl⟩
    · exact ix_deN hm hb (iy_deN hm hb ⟨rfl, _, _, _, _, I, rfl, rfl⟩)
    · have h8 := I.1 m
      have hg : ∀ i k, il_cls (c m - 1 - w) (8 * m + w) g i = some k → k < 10 :=
        il_cls_all (P := fun o => ∀ k, o = some k → k < 10) _ _ g I.2.1
      exact ix_de I hm hw (iy_de I hm hw ⟨rfl, _, _, _, _, il_ok_fil (il_qd w) I (by omega) rfl hg (fun o a ho z => il_qd_ok hw o a ho z), rfl, rfl⟩)
theorem i_vc_unload {k : Nat} {u : SX} {v : SY} (I : i_Rel k u v) (hk : k + 4 ≤ 2048) (v1 : Int32) : wpX_unload (fun r u' => wpY_unload (fun r' v' => r' = r ∧ i_Rel (k + 4) u' v') v v1) u v1 := by
  obtain ⟨c, g, t, d, I, rfl, rfl⟩ := I
  rcases il_ix v1 6 with hb | ⟨m, hm, _, rfl⟩
  · exact ix_ulB hb (iy_ulB hb ⟨rfl, _, _, _, _, I, rfl, rfl⟩)
  · exact ix_ul hm (iy_ul hm ⟨rfl, _, _, _, _, il_ok_fil (fun _ => none) I (Nat.zero_le 8) rfl I.2.1 (fun o a _ z => by cases z), rfl, rfl⟩)
theorem i_vc_define {k : Nat} {u : SX} {v : SY} (I : i_Rel k u v) (hk : k + 4 ≤ 2048) (v1 : Int32) (v2 : Int32) (v3 : Int32) : wpX_define (fun r u' => wpY_define (fun r' v' => r' = r ∧ i_Rel (k + 4) u' v') v v1 v2 v3) u v1 v2 v3 := by
  obtain ⟨c, g, t, d, I, rfl, rfl⟩ := I
  rcases il_ix v1 6 with hb | ⟨m, hm, _, rfl⟩
  · exact ix_dfB hb (iy_dfB hb ⟨rfl, _, _, _, _, I, rfl, rfl⟩)
  · rcases il_ix v2 10 with hb | ⟨n, hn, _, rfl⟩
    · exact ix_dfM hm hb (iy_dfM hm hb ⟨rfl, _, _, _, _, I, rfl, rfl⟩)
    · rcases il_ix v3 (c m + 1) with hb | ⟨w, hw, _, rfl⟩
      · exact ix_dfN hm hn hb (iy_dfN hm hn hb ⟨rfl, _, _, _, _, I, rfl, rfl⟩)
      · have hw' : w ≤ c m := by omega
        exact ix_df I hm hn hw' (iy_df I hm hn hw' ⟨rfl, _, _, _, _, il_ok_def I hm hn (fun _ z => by cases z; exact hw'), rfl, rfl⟩)
theorem i_vc_undefine {k : Nat} {u : SX} {v : SY} (I : i_Rel k u v) (hk : k + 4 ≤ 2048) (v1 : Int32) (v2 : Int32) : wpX_undefine (fun r u' => wpY_undefine (fun r' v' => r' = r ∧ i_Rel (k + 4) u' v') v v1 v2) u v1 v2 := by
  obtain ⟨c, g, t, d, I, rfl, rfl⟩ := I
  rcases il_ix v1 6 with hb | ⟨m, hm, _, rfl⟩
  · exact ix_udB hb (iy_udB hb ⟨rfl, _, _, _, _, I, rfl, rfl⟩)
  · rcases il_ix v2 10 with hb | ⟨n, hn, _, rfl⟩
    · exact ix_udM hm hb (iy_udM hm hb ⟨rfl, _, _, _, _, I, rfl, rfl⟩)
    · exact ix_ud I hm hn (iy_ud hm hn ⟨rfl, _, _, _, _, il_ok_def I hm hn (fun _ z => by cases z), rfl, rfl⟩)
theorem i_vc_size {k : Nat} {u : SX} {v : SY} (I : i_Rel k u v) (hk : k + 4 ≤ 2048) : wpX_size (fun r => wpY_size (fun r' => r' = r ∧ i_Rel (k + 4) u v) v) u := by
  obtain ⟨c, g, t, d, I, rfl, rfl⟩ := I
  exact ix_si (iy_si ⟨rfl, _, _, _, _, I, rfl, rfl⟩)
theorem i_vc_value {k : Nat} {u : SX} {v : SY} (I : i_Rel k u v) (hk : k + 4 ≤ 2048) (v1 : Int32) : wpX_value (fun r => wpY_value (fun r' => r' = r ∧ i_Rel (k + 4) u v) v v1) u v1 := by
  obtain ⟨c, g, t, d, I, rfl, rfl⟩ := I
  by_cases h0 : v1 < 0
  · exact ix_van h0 (iy_van I h0 ⟨rfl, _, _, _, _, I, rfl, rfl⟩)
  · obtain ⟨p, hp, rfl⟩ := nI_of h0
    exact ix_va I hp (iy_va I hp ⟨rfl, _, _, _, _, I, rfl, rfl⟩)
theorem i_vc_address {k : Nat} {u : SX} {v : SY} (I : i_Rel k u v) (hk : k + 4 ≤ 2048) (v1 : Int32) : wpX_address (fun r => wpY_address (fun r' => r' = r ∧ i_Rel (k + 4) u v) v v1) u v1 := by
  obtain ⟨c, g, t, d, I, rfl, rfl⟩ := I
  rcases il_ix v1 6 with hb | ⟨m, hm, _, rfl⟩
  · exact ix_adB hb (iy_adB hb ⟨rfl, _, _, _, _, I, rfl, rfl⟩)
  · exact ix_ad hm (iy_ad hm ⟨rfl, _, _, _, _, I, rfl, rfl⟩)
theorem i_vc_where {k : Nat} {u : SX} {v : SY} (I : i_Rel k u v) (hk : k + 4 ≤ 2048) (v1 : Int32) : wpX_where (fun r => wpY_where (fun r' => r' = r ∧ i_Rel (k + 4) u v) v v1) u v1 := by
  obtain ⟨c, g, t, d, I, rfl, rfl⟩ := I
  rcases il_ix v1 10 with hb | ⟨n, hn, _, rfl⟩
  · exact ix_whB hb (iy_whB hb ⟨rfl, _, _, _, _, I, rfl, rfl⟩)
  · exact ix_wh I hn (iy_wh I hn ⟨rfl, _, _, _, _, I, rfl, rfl⟩)
theorem i_vc_undefined {k : Nat} {u : SX} {v : SY} (I : i_Rel k u v) (hk : k + 4 ≤ 2048) : wpX_undefined (fun r => wpY_undefined (fun r' => r' = r ∧ i_Rel (k + 4) u v) v) u := by
  obtain ⟨c, g, t, d, I, rfl, rfl⟩ := I
  exact ix_un I (iy_un I ⟨congrArg nI (il_undef c g d I.1 I.2.1), _, _, _, _, I, rfl, rfl⟩)
theorem i_vc_idle {k : Nat} {u : SX} {v : SY} (I : i_Rel k u v) (hk : k + 4 ≤ 2048) : wpX_idle (fun r => wpY_idle (fun r' => r' = r ∧ i_Rel (k + 4) u v) v) u := by
  obtain ⟨c, g, t, d, I, rfl, rfl⟩ := I
  exact ix_id I (iy_id I ⟨congrArg nI (il_idle d), _, _, _, _, I, rfl, rfl⟩)
theorem i_vc_uses {k : Nat} {u : SX} {v : SY} (I : i_Rel k u v) (hk : k + 4 ≤ 2048) (v1 : Int32) : wpX_uses (fun r => wpY_uses (fun r' => r' = r ∧ i_Rel (k + 4) u v) v v1) u v1 := by
  obtain ⟨c, g, t, d, I, rfl, rfl⟩ := I
  rcases il_ix v1 10 with hb | ⟨n, hn, _, rfl⟩
  · exact ix_utB hb (iy_utB hb ⟨rfl, _, _, _, _, I, rfl, rfl⟩)
  · exact ix_ut I hn (iy_ut I hn ⟨congrArg nI (il_uses c g n I.1), _, _, _, _, I, rfl, rfl⟩)
theorem i_vc_users {k : Nat} {u : SX} {v : SY} (I : i_Rel k u v) (hk : k + 4 ≤ 2048) (v1 : Int32) : wpX_users (fun r => wpY_users (fun r' => r' = r ∧ i_Rel (k + 4) u v) v v1) u v1 := by
  obtain ⟨c, g, t, d, I, rfl, rfl⟩ := I
  rcases il_ix v1 6 with hb | ⟨m, hm, _, rfl⟩
  · exact ix_usB hb (iy_usB hb ⟨rfl, _, _, _, _, I, rfl, rfl⟩)
  · exact ix_us I hm (iy_us I hm ⟨il_users c g d m I.1 I.2.1, _, _, _, _, I, rfl, rfl⟩)
theorem i_vc_moduleOf {k : Nat} {u : SX} {v : SY} (I : i_Rel k u v) (hk : k + 4 ≤ 2048) (v1 : Int32) : wpX_moduleOf (fun r => wpY_moduleOf (fun r' => r' = r ∧ i_Rel (k + 4) u v) v v1) u v1 := by
  obtain ⟨c, g, t, d, I, rfl, rfl⟩ := I
  by_cases h0 : v1 < 0
  · exact ix_mon h0 (iy_mon I.1 h0 ⟨rfl, _, _, _, _, I, rfl, rfl⟩)
  · obtain ⟨p, hp, rfl⟩ := nI_of h0
    exact ix_mo I hp (iy_mo I.1 hp ⟨rfl, _, _, _, _, I, rfl, rfl⟩)
theorem i_vc_digest {k : Nat} {u : SX} {v : SY} (I : i_Rel k u v) (hk : k + 4 ≤ 2048) : wpX_digest (fun r => wpY_digest (fun r' => r' = r ∧ i_Rel (k + 4) u v) v) u := by
  obtain ⟨c, g, t, d, I, rfl, rfl⟩ := I
  exact ix_di I (iy_di I ⟨il_dig c g t d I.1, _, _, _, _, I, rfl, rfl⟩)
end
