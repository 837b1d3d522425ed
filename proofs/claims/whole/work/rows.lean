section
/-! pasted from kit/rows: stores, numbers, branches -/
theorem pk_us {f : Nat → Int32} {k : Nat} {x : Int32} : upd f k x k = x := if_pos rfl
theorem pk_un {f : Nat → Int32} {k j : Nat} {x : Int32} (h : j ≠ k) : upd f k x j = f j := if_neg h
theorem pk_sub {a b : Nat} (h : b ≤ a) : nI a - nI b = nI (a - b) := by
  obtain ⟨c, rfl⟩ : ∃ c, a = c + b := ⟨a - b, by omega⟩
  rw [← nI_add, Int32.add_sub_cancel, Nat.add_sub_cancel]
theorem pk_m1 (n : Nat) : nI (n + 1) + (-1) = nI n := by
  rw [← nI_1, Int32.add_assoc, show (1 : Int32) + (-1) = 0 from rfl, Int32.add_zero]
theorem pk_mul (a b : Nat) : nI a * nI b = nI (a * b) := (Int32.ofNat_mul a b).symm
theorem pk_div {a d : Nat} (ha : a < 2 ^ 31) (h0 : 0 < d) (hd : d < 2 ^ 31) : nI a / nI d = nI (a / d) := by
  apply Int32.toInt_inj.mp
  rw [lg_idiv_nonneg (by rw [nI_toInt ha]; omega) (by rw [nI_toInt hd]; omega), nI_toInt ha, nI_toInt hd, nI_toInt (Nat.lt_of_le_of_lt (Nat.div_le_self a d) ha)]
  first | rfl | exact (Int.natCast_ediv _ _).symm
theorem pk_rem {a d : Nat} (ha : a < 2 ^ 31) (h0 : 0 < d) (hd : d < 2 ^ 31) : nI a - nI a / nI d * nI d = nI (a % d) := by
  rw [pk_div ha h0 hd, pk_mul, pk_sub (Nat.div_mul_le_self a d)]
  exact congrArg nI (by have := Nat.div_add_mod' a d; omega)
theorem pk_ix (x : Int32) {n : Nat} (hn : n < 2 ^ 31) : x < 0 ∨ nI n ≤ x ∨ ∃ j : Nat, j < n ∧ x = nI j := by
  by_cases h : x < 0
  · exact Or.inl h
  · obtain ⟨j, hj, rfl⟩ := nI_of h
    by_cases h2 : j < n
    · exact Or.inr (Or.inr ⟨j, h2, rfl⟩)
    · exact Or.inr (Or.inl (nI_le (by omega) hj))
theorem pk_le {x y : Int32} {A B : Prop} (a b : Nat) (f : a ≤ b → A) (g : b < a → B) (hx : x = nI a := by rfl) (hy : y = nI b := by rfl) (ha : a < 2 ^ 31 := by omega) (hb : b < 2 ^ 31 := by omega) : (x ≤ y → A) ∧ (¬ x ≤ y → B) := by
  subst hx hy
  rw [nI_leI ha hb]
  exact ⟨f, fun z => g (by omega)⟩
theorem pk_lt {x y : Int32} {A B : Prop} (a b : Nat) (f : a < b → A) (g : b ≤ a → B) (hx : x = nI a := by rfl) (hy : y = nI b := by rfl) (ha : a < 2 ^ 31 := by omega) (hb : b < 2 ^ 31 := by omega) : (x < y → A) ∧ (¬ x < y → B) := by
  subst hx hy
  rw [nI_ltI ha hb]
  exact ⟨f, fun z => g (by omega)⟩
theorem pk_eq {x y : Int32} {A B : Prop} (a b : Nat) (f : a = b → A) (g : a ≠ b → B) (hx : x = nI a := by rfl) (hy : y = nI b := by rfl) (ha : a < 2 ^ 31 := by omega) (hb : b < 2 ^ 31 := by omega) : (x = y → A) ∧ (¬ x = y → B) := by
  subst hx hy
  rw [nI_eq ha hb]
  exact ⟨f, g⟩
theorem pk_in {x : Int32} (n N : Nat) (h : n < N) (hx : x = nI n := by rfl) (hN : N < 2 ^ 31 := by omega) : vp_in x N := by
  subst hx
  exact vp_in_nI h hN
theorem pk_cl {x : Int32} (n : Nat) (hx : x = nI n := by rfl) (h : n < 2 ^ 31 := by omega) : x.toNatClampNeg = n := by
  subst hx
  exact nI_clamp h
/-! pasted from kit/rows: Int32 by its bits -/
def bt (x : Int32) (i : Nat) : Bool := x.toBitVec.getLsbD i
theorem b_ext {x y : Int32} (h : ∀ i, i < 32 → bt x i = bt y i) : x = y := Int32.toBitVec_inj.mp (BitVec.eq_of_getLsbD_eq (fun i hi => h i hi))
theorem b_or (x y : Int32) (i : Nat) : bt (x ||| y) i = (bt x i || bt y i) := by unfold bt; rw [Int32.toBitVec_or, BitVec.getLsbD_or]
theorem b_0 (i : Nat) : bt 0 i = false := BitVec.getLsbD_zero
/-! ===== stores of any kind ===== -/
def il_up {α : Type} (f : Nat → α) (k : Nat) (x : α) : Nat → α := fun j => if j = k then x else f j
theorem il_us {α : Type} (f : Nat → α) (k : Nat) (x : α) : il_up f k x k = x := if_pos rfl
theorem il_un {α : Type} (f : Nat → α) {k j : Nat} (x : α) (h : j ≠ k) : il_up f k x j = f j := if_neg h
theorem il_ui {α : Type} (f : Nat → α) (k : Nat) : il_up f k (f k) = f := by
  funext j
  by_cases h : j = k
  · subst h; rw [il_us]
  · rw [il_un f _ h]
theorem il_uP {α : Type} (p : α → Int32) (f : Nat → α) (k : Nat) (x : α) : upd (fun i => p (f i)) k (p x) = fun i => p (il_up f k x i) := by
  funext j
  show upd (fun i => p (f i)) k (p x) j = p (il_up f k x j)
  by_cases h : j = k
  · subst h; rw [pk_us, il_us]
  · rw [pk_un h, il_un f _ h]
theorem il_uV (f : Nat → Int32) (k : Nat) (x : Int32) : upd f k x = il_up f k x := rfl
/-! ===== the pictures of a word's name and of a definition ===== -/
def il_xo (o : Option Nat) : Int32 := match o with
  | none => -1
  | some k => nI k
def il_yo (o : Option Nat) : Int32 := match o with
  | none => -4
  | some k => nI k
theorem il_nm1 {k : Nat} (h : k < 2 ^ 31) : ¬ nI k = -1 := by
  intro e
  have h1 := nI_toInt h
  rw [e] at h1
  have h2 : (-1 : Int32).toInt = -1 := by decide
  rw [h2] at h1
  omega
theorem il_nm4 {k : Nat} (h : k < 2 ^ 31) : ¬ nI k = -4 := by
  intro e
  have h1 := nI_toInt h
  rw [e] at h1
  have h2 : (-4 : Int32).toInt = -4 := by decide
  rw [h2] at h1
  omega
/-! ===== sums ===== -/
def il_S : Nat → (Nat → Nat) → Nat
  | 0, _ => 0
  | n + 1, f => il_S n f + f n
theorem il_S_s (n : Nat) (f : Nat → Nat) : il_S (n + 1) f = il_S n f + f n := rfl
theorem il_S_congr {f h : Nat → Nat} : ∀ n, (∀ i, i < n → f i = h i) → il_S n f = il_S n h
  | 0, _ => rfl
  | n + 1, e => by
    rw [il_S_s, il_S_s, il_S_congr n (fun i hi => e i (Nat.lt_succ_of_lt hi)), e n (Nat.lt_succ_self n)]
theorem il_S_add (f h : Nat → Nat) : ∀ n, il_S n (fun i => f i + h i) = il_S n f + il_S n h
  | 0 => rfl
  | n + 1 => by
    have ih := il_S_add f h n
    rw [il_S_s, il_S_s, il_S_s, ih]
    omega
theorem il_S_zero : ∀ n, il_S n (fun _ => 0) = 0
  | 0 => rfl
  | n + 1 => by
    have ih := il_S_zero n
    rw [il_S_s]
    omega
theorem il_S_comm (f : Nat → Nat → Nat) (b : Nat) : ∀ a, il_S a (fun i => il_S b (fun j => f i j)) = il_S b (fun j => il_S a (fun i => f i j))
  | 0 => (il_S_zero b).symm
  | a + 1 => by
    have ih := il_S_comm f b a
    have h := il_S_add (fun j => il_S a (fun i => f i j)) (fun j => f a j) b
    rw [il_S_s, ih]
    exact h.symm
theorem il_S_le {f : Nat → Nat} {b : Nat} : ∀ n, (∀ i, i < n → f i ≤ b) → il_S n f ≤ n * b
  | 0, _ => Nat.zero_le _
  | n + 1, h => by
    have h1 := il_S_le n (fun i hi => h i (Nat.lt_succ_of_lt hi))
    have h2 := h n (Nat.lt_succ_self n)
    rw [il_S_s, Nat.succ_mul]
    omega
theorem il_S_mono (f : Nat → Nat) (a : Nat) : ∀ e, il_S a f ≤ il_S (a + e) f
  | 0 => Nat.le_refl _
  | e + 1 => Nat.le_trans (il_S_mono f a e) (Nat.le_add_right _ _)
theorem il_S_mn (f : Nat → Nat) {a b : Nat} (h : a ≤ b) : il_S a f ≤ il_S b f := by
  obtain ⟨e, rfl⟩ := Nat.le.dest h
  exact il_S_mono f a e
theorem il_S_split (f : Nat → Nat) (a : Nat) : ∀ e, il_S (a + e) f = il_S a f + il_S e (fun i => f (a + i))
  | 0 => rfl
  | e + 1 => by
    have ih := il_S_split f a e
    show il_S (a + e) f + f (a + e) = il_S a f + (il_S e (fun i => f (a + i)) + f (a + e))
    omega
theorem il_S_flat (b : Nat) (f : Nat → Nat) : ∀ a, il_S (b * a) f = il_S a (fun m => il_S b (fun w => f (b * m + w)))
  | 0 => rfl
  | a + 1 => by
    rw [Nat.mul_succ, il_S_split f (b * a) b, il_S_flat b f a, il_S_s]
theorem il_S_cut (f : Nat → Nat) (c : Nat) : ∀ e, il_S (c + e) (fun w => if w < c then f w else 0) = il_S c f
  | 0 => il_S_congr c (fun _ hi => if_pos hi)
  | e + 1 => by
    have ih := il_S_cut f c e
    show il_S (c + e) (fun w => if w < c then f w else 0) + (if c + e < c then f (c + e) else 0) = il_S c f
    rw [ih, if_neg (by omega), Nat.add_zero]
theorem il_S_one (f : Nat → Nat) (k : Nat) : ∀ n, il_S n (fun i => if i = k then f i else 0) = if k < n then f k else 0
  | 0 => by rw [if_neg (Nat.not_lt_zero k)]; rfl
  | n + 1 => by
    have ih := il_S_one f k n
    show il_S n (fun i => if i = k then f i else 0) + (if n = k then f n else 0) = if k < n + 1 then f k else 0
    rw [ih]
    by_cases h : n = k
    · subst h
      rw [if_neg (Nat.lt_irrefl n), if_pos rfl, if_pos (Nat.lt_succ_self n), Nat.zero_add]
    · by_cases h2 : k < n
      · rw [if_neg h, if_pos h2, if_pos (by omega : k < n + 1), Nat.add_zero]
      · rw [if_neg h, if_neg h2, if_neg (by omega : ¬ k < n + 1)]
theorem il_S_pos (f : Nat → Nat) : ∀ n, 0 < il_S n f ↔ ∃ i, i < n ∧ 0 < f i
  | 0 => ⟨fun h => absurd h (Nat.lt_irrefl 0), fun ⟨i, h, _⟩ => absurd h (Nat.not_lt_zero i)⟩
  | n + 1 => by
    have ih := il_S_pos f n
    rw [il_S_s]
    constructor
    · intro h
      by_cases h1 : 0 < il_S n f
      · obtain ⟨i, hi, hf⟩ := ih.mp h1
        exact ⟨i, Nat.lt_succ_of_lt hi, hf⟩
      · exact ⟨n, Nat.lt_succ_self n, by omega⟩
    · intro ⟨i, hi, hf⟩
      by_cases h1 : i = n
      · subst h1; omega
      · have := ih.mpr ⟨i, by omega, hf⟩
        omega
/-! ===== the first that holds ===== -/
def il_ff (P : Nat → Bool) : Nat → Nat → Option Nat
  | 0, _ => none
  | n + 1, i => if P i = true then some i else il_ff P n (i + 1)
theorem il_ff_s (P : Nat → Bool) (n i : Nat) : il_ff P (n + 1) i = if P i = true then some i else il_ff P n (i + 1) := rfl
theorem il_ff_t {P : Nat → Bool} {n i : Nat} (h : P i = true) : il_ff P (n + 1) i = some i := if_pos h
theorem il_ff_f {P : Nat → Bool} {n i : Nat} (h : ¬ P i = true) : il_ff P (n + 1) i = il_ff P n (i + 1) := if_neg h
theorem il_ff_some {P : Nat → Bool} : ∀ n i k, il_ff P n i = some k → i ≤ k ∧ k < i + n ∧ P k = true ∧ ∀ j, i ≤ j → j < k → P j = false
  | 0, _, k, h => by
    have h' : (none : Option Nat) = some k := h
    cases h'
  | n + 1, i, k, h => by
    by_cases hp : P i = true
    · rw [il_ff_t hp] at h
      cases h
      exact ⟨by omega, by omega, hp, fun j h1 h2 => by omega⟩
    · rw [il_ff_f hp] at h
      obtain ⟨a, b, c, e⟩ := il_ff_some n (i + 1) k h
      refine ⟨by omega, by omega, c, fun j h1 h2 => ?_⟩
      by_cases hj : j = i
      · subst hj; exact Bool.eq_false_iff.mpr hp
      · exact e j (by omega) h2
theorem il_ff_none {P : Nat → Bool} : ∀ n i, il_ff P n i = none → ∀ j, i ≤ j → j < i + n → P j = false
  | 0, i, _, j, h1, h2 => by omega
  | n + 1, i, h, j, h1, h2 => by
    by_cases hp : P i = true
    · rw [il_ff_t hp] at h
      cases h
    · rw [il_ff_f hp] at h
      by_cases hj : j = i
      · subst hj; exact Bool.eq_false_iff.mpr hp
      · exact il_ff_none n (i + 1) h j (by omega) (by omega)
theorem il_ff_at {P : Nat → Bool} : ∀ n i k, i ≤ k → k < i + n → P k = true → (∀ j, i ≤ j → j < k → P j = false) → il_ff P n i = some k
  | 0, i, k, h1, h2, _, _ => by omega
  | n + 1, i, k, h1, h2, h3, h4 => by
    by_cases hk : i = k
    · subst hk; exact il_ff_t h3
    · have hp : ¬ P i = true := by rw [h4 i (Nat.le_refl i) (by omega)]; decide
      rw [il_ff_f hp]
      exact il_ff_at n (i + 1) k (by omega) (by omega) h3 (fun j a b => h4 j (by omega) b)
theorem il_ff_all {P : Nat → Bool} : ∀ n i, (∀ j, i ≤ j → j < i + n → P j = false) → il_ff P n i = none
  | 0, _, _ => rfl
  | n + 1, i, h => by
    have hp : ¬ P i = true := by rw [h i (Nat.le_refl i) (by omega)]; decide
    rw [il_ff_f hp]
    exact il_ff_all n (i + 1) (fun j a b => h j (by omega) (by omega))
end
section
/-! ===== counts, places, definitions ===== -/
def il_mf (d : Nat → Option Nat) (n : Nat) : Option Nat := il_ff (fun m => (d (10 * m + n)).isSome) 6 0
def il_mo (c : Nat → Nat) (p : Nat) : Option Nat := il_ff (fun m => decide (p < il_S (m + 1) c)) 6 0
def il_dd (d : Nat → Option Nat) (i : Nat) : Nat := (d i).getD 0
def il_wh (c : Nat → Nat) (d : Nat → Option Nat) (n : Nat) : Option Nat := match il_mf d n with
  | none => none
  | some m => some (il_S m c + il_dd d (10 * m + n))
def il_wv (c : Nat → Nat) (g : Nat → Option Nat) (v : Nat → Int32) (d : Nat → Option Nat) (i : Nat) : Int32 := match g i with
  | none => v i
  | some k => match il_wh c d k with
    | none => -1
    | some a => nI a + v i
def il_val (c : Nat → Nat) (g : Nat → Option Nat) (v : Nat → Int32) (d : Nat → Option Nat) (p : Nat) : Int32 := match il_mo c p with
  | none => 0
  | some m => il_wv c g v d (8 * m + (p - il_S m c))
theorem il_mf_some {d : Nat → Option Nat} {n m : Nat} (h : il_mf d n = some m) : m < 6 ∧ ∃ k, d (10 * m + n) = some k := by
  obtain ⟨_, h2, h3, _⟩ := il_ff_some 6 0 m h
  exact ⟨by omega, Option.isSome_iff_exists.mp h3⟩
theorem il_mf_none {d : Nat → Option Nat} {n : Nat} (h : il_mf d n = none) : ∀ m, m < 6 → (d (10 * m + n)).isSome = false :=
  fun m hm => il_ff_none 6 0 h m (Nat.zero_le m) (by omega)
theorem il_mo_some {c : Nat → Nat} {p m : Nat} (h : il_mo c p = some m) : m < 6 ∧ il_S m c ≤ p ∧ p < il_S (m + 1) c := by
  obtain ⟨_, h2, h3, h4⟩ := il_ff_some 6 0 m h
  refine ⟨by omega, ?_, of_decide_eq_true h3⟩
  cases m with
  | zero => exact Nat.zero_le p
  | succ j =>
    have h5 := of_decide_eq_false (h4 j (Nat.zero_le j) (Nat.lt_succ_self j))
    omega
theorem il_mo_at {c : Nat → Nat} {m w : Nat} (hm : m < 6) (hw : w < c m) : il_mo c (il_S m c + w) = some m := by
  refine il_ff_at 6 0 m (Nat.zero_le m) (by omega) (decide_eq_true ?_) (fun j _ hj => decide_eq_false ?_)
  · rw [il_S_s]; omega
  · have h := il_S_mn c (a := j + 1) (b := m) (by omega)
    omega
theorem il_mo_no {c : Nat → Nat} {p : Nat} (h : il_S 6 c ≤ p) : il_mo c p = none := by
  refine il_ff_all 6 0 (fun j _ hj => decide_eq_false ?_)
  have h := il_S_mn c (a := j + 1) (b := 6) (by omega)
  omega
theorem il_val_at {c : Nat → Nat} (g : Nat → Option Nat) (v : Nat → Int32) (d : Nat → Option Nat) {m w : Nat} (hm : m < 6) (hw : w < c m) : il_val c g v d (il_S m c + w) = il_wv c g v d (8 * m + w) := by
  unfold il_val
  rw [il_mo_at hm hw]
  show il_wv c g v d (8 * m + (il_S m c + w - il_S m c)) = _
  rw [Nat.add_sub_cancel_left]
theorem il_val_no {c : Nat → Nat} (g : Nat → Option Nat) (v : Nat → Int32) (d : Nat → Option Nat) {p : Nat} (h : il_S 6 c ≤ p) : il_val c g v d p = 0 := by
  unfold il_val
  rw [il_mo_no h] <;> rfl
/-! ===== the digest's sum ===== -/
def il_D : Nat → (Nat → Int32) → Int32
  | 0, _ => 0
  | n + 1, f => il_D n f + f n
theorem il_D_s (n : Nat) (f : Nat → Int32) : il_D (n + 1) f = il_D n f + f n := rfl
theorem il_D_ext (f : Nat → Int32) (a : Nat) (h : ∀ p, a ≤ p → f p = 0) : ∀ e, il_D (a + e) f = il_D a f
  | 0 => rfl
  | e + 1 => by
    show il_D (a + e) f + f (a + e) = il_D a f
    rw [il_D_ext f a h e, h (a + e) (by omega), Int32.add_zero]
def il_F (c : Nat → Nat) (g : Nat → Option Nat) (v : Nat → Int32) (d : Nat → Option Nat) (p : Nat) : Int32 := nI (p + 1) * il_val c g v d p
theorem il_dig (c : Nat → Nat) (g : Nat → Option Nat) (v : Nat → Int32) (d : Nat → Option Nat) (hc : ∀ m, c m ≤ 8) : il_D 48 (il_F c g v d) = il_D (il_S 6 c) (il_F c g v d) := by
  have hb : il_S 6 c ≤ 6 * 8 := il_S_le 6 (fun i _ => hc i)
  have h := il_D_ext (il_F c g v d) (il_S 6 c) (fun p hp => by unfold il_F; rw [il_val_no g v d hp, Int32.mul_zero]) (48 - il_S 6 c)
  have e : il_S 6 c + (48 - il_S 6 c) = 48 := by omega
  rw [e] at h
  exact h
/-! ===== references: by modules and words, by places ===== -/
def il_rf (c : Nat → Nat) (g : Nat → Option Nat) (k n : Nat) : Nat := il_S (c k) (fun w => if g (8 * k + w) = some n then 1 else 0)
def il_rt (c : Nat → Nat) (g : Nat → Option Nat) (n : Nat) : Nat := il_S 6 (fun k => il_rf c g k n)
theorem il_rf_le {c : Nat → Nat} (g : Nat → Option Nat) (k n : Nat) (hc : ∀ m, c m ≤ 8) : il_rf c g k n ≤ 8 := by
  have h := il_S_le (f := fun w => if g (8 * k + w) = some n then 1 else 0) (b := 1) (c k) (fun i _ => by show (if g (8 * k + i) = some n then 1 else 0) ≤ 1; split <;> omega)
  have h2 := hc k
  unfold il_rf
  omega
theorem il_fold (c q : Nat → Nat) (hc : ∀ m, c m ≤ 8) : il_S 48 (fun i => if i % 8 < c (i / 8) then q i else 0) = il_S 6 (fun k => il_S (c k) (fun w => q (8 * k + w))) := by
  refine (il_S_flat 8 (fun i => if i % 8 < c (i / 8) then q i else 0) 6).trans (il_S_congr 6 fun k _ => ?_)
  have e : ∀ w, w < 8 → (if (8 * k + w) % 8 < c ((8 * k + w) / 8) then q (8 * k + w) else 0) = if w < c k then q (8 * k + w) else 0 := by
    intro w hw
    rw [show (8 * k + w) % 8 = w from by omega, show (8 * k + w) / 8 = k from by omega]
  refine (il_S_congr 8 e).trans ?_
  have h2 := il_S_cut (fun w => q (8 * k + w)) (c k) (8 - c k)
  rw [Nat.add_sub_cancel' (hc k)] at h2
  exact h2
theorem il_uses (c : Nat → Nat) (g : Nat → Option Nat) (n : Nat) (hc : ∀ m, c m ≤ 8) : il_S 48 (fun i => if i % 8 < c (i / 8) then (if g i = some n then 1 else 0) else 0) = il_rt c g n :=
  il_fold c (fun i => if g i = some n then 1 else 0) hc
/-! ===== undefined ===== -/
def il_ud (d : Nat → Option Nat) (o : Option Nat) : Bool := match o with
  | none => false
  | some n => (il_mf d n).isNone
theorem il_pick (f : Nat → Nat) (N k : Nat) (h : k < N) : il_S N (fun n => if some k = some n then f n else 0) = f k := by
  have e : ∀ n, n < N → (if some k = some n then f n else 0) = if n = k then f n else 0 := by
    intro n _
    by_cases h : n = k
    · subst h; rw [if_pos rfl, if_pos rfl]
    · rw [if_neg h, if_neg (fun z => h (Option.some.inj z).symm)]
  refine (il_S_congr N e).trans ?_
  rw [il_S_one, if_pos h]
theorem il_undef (c : Nat → Nat) (g d : Nat → Option Nat) (hc : ∀ m, c m ≤ 8) (hg : ∀ i k, g i = some k → k < 10) : il_S 48 (fun i => if i % 8 < c (i / 8) then (if il_ud d (g i) = true then 1 else 0) else 0) = il_S 10 (fun n => if il_mf d n = none then il_rt c g n else 0) := by
  refine (il_fold c (fun i => if il_ud d (g i) = true then 1 else 0) hc).trans ?_
  have e1 : ∀ n, n < 10 → (if il_mf d n = none then il_rt c g n else 0) = il_S 6 (fun k => il_S (c k) (fun w => if g (8 * k + w) = some n then (if il_mf d n = none then 1 else 0) else 0)) := by
    intro n _
    by_cases h : il_mf d n = none
    · rw [if_pos h]
      exact il_S_congr 6 fun k _ => il_S_congr (c k) fun w _ => by rw [if_pos h]
    · rw [if_neg h]
      refine ((il_S_congr 6 fun k _ => ?_).trans (il_S_zero 6)).symm
      refine (il_S_congr (c k) fun w _ => ?_).trans (il_S_zero (c k))
      show (if g (8 * k + w) = some n then (if il_mf d n = none then 1 else 0) else 0) = 0
      rw [if_neg h]
      split <;> rfl
  refine Eq.trans ?_ (il_S_congr 10 e1).symm
  refine Eq.trans ?_ (il_S_comm (fun n k => il_S (c k) (fun w => if g (8 * k + w) = some n then (if il_mf d n = none then 1 else 0) else 0)) 6 10).symm
  refine il_S_congr 6 fun k _ => ?_
  refine Eq.trans ?_ (il_S_comm (fun n w => if g (8 * k + w) = some n then (if il_mf d n = none then 1 else 0) else 0) (c k) 10).symm
  refine il_S_congr (c k) fun w _ => ?_
  show (if il_ud d (g (8 * k + w)) = true then 1 else 0) = il_S 10 (fun n => if g (8 * k + w) = some n then (if il_mf d n = none then 1 else 0) else 0)
  cases hk : g (8 * k + w) with
  | none =>
    have e0 : ∀ n, n < 10 → (if (none : Option Nat) = some n then (if il_mf d n = none then 1 else 0) else 0) = 0 := fun n _ => if_neg (fun z => by cases z)
    exact ((il_S_congr 10 e0).trans (il_S_zero 10)).symm
  | some a =>
    rw [il_pick (fun n => if il_mf d n = none then 1 else 0) 10 a (hg _ _ hk)]
    show (if (il_mf d a).isNone = true then 1 else 0) = if il_mf d a = none then 1 else 0
    cases il_mf d a with
    | none => rfl
    | some b => rfl
/-! ===== idle ===== -/
def il_df (d : Nat → Option Nat) (n : Nat) : Nat := il_S 6 (fun m => if (d (10 * m + n)).isSome = true then 1 else 0)
def il_id (d : Nat → Option Nat) (i : Nat) : Nat := if (d i).isSome = true then (if il_mf d (i % 10) = some (i / 10) then 0 else 1) else 0
theorem il_df_le (d : Nat → Option Nat) (n : Nat) : il_df d n ≤ 6 := by
  have h := il_S_le (f := fun m => if (d (10 * m + n)).isSome = true then 1 else 0) (b := 1) 6 (fun i _ => by show (if (d (10 * i + n)).isSome = true then 1 else 0) ≤ 1; split <;> omega)
  unfold il_df
  omega
theorem il_idle1 (d : Nat → Option Nat) (n : Nat) : il_S 6 (fun m => if (d (10 * m + n)).isSome = true then (if il_mf d n = some m then 0 else 1) else 0) = il_df d n - 1 := by
  have hf : ¬ (false = true) := by decide
  cases h : il_mf d n with
  | none =>
    have hz := il_mf_none h
    have e1 : il_df d n = 0 := by
      refine (il_S_congr 6 fun m hm => ?_).trans (il_S_zero 6)
      show (if (d (10 * m + n)).isSome = true then 1 else 0) = 0
      rw [hz m hm, if_neg hf]
    rw [e1]
    refine (il_S_congr 6 fun m hm => ?_).trans (il_S_zero 6)
    show (if (d (10 * m + n)).isSome = true then _ else 0) = 0
    rw [hz m hm, if_neg hf]
  | some k =>
    obtain ⟨hk, a, ha⟩ := il_mf_some h
    have e2 : ∀ m, m < 6 → (if (d (10 * m + n)).isSome = true then 1 else 0) = (if (d (10 * m + n)).isSome = true then (if some k = some m then 0 else 1) else 0) + (if m = k then 1 else 0) := by
      intro m _
      by_cases hm : m = k
      · subst hm
        rw [ha]; simp
      · have hm' : ¬ some k = some m := fun z => hm (Option.some.inj z).symm
        rw [if_neg hm, if_neg hm', Nat.add_zero]
    have e3 : il_df d n = il_S 6 (fun m => if (d (10 * m + n)).isSome = true then (if some k = some m then 0 else 1) else 0) + 1 := by
      refine (il_S_congr 6 e2).trans ?_
      refine (il_S_add (fun m => if (d (10 * m + n)).isSome = true then (if some k = some m then 0 else 1) else 0) (fun m => if m = k then 1 else 0) 6).trans ?_
      exact congrArg (fun z => il_S 6 (fun m => if (d (10 * m + n)).isSome = true then (if some k = some m then 0 else 1) else 0) + z) ((il_S_one (fun _ => 1) k 6).trans (if_pos hk))
    rw [e3, Nat.add_sub_cancel]
theorem il_idle (d : Nat → Option Nat) : il_S 60 (il_id d) = il_S 10 (fun n => il_df d n - 1) := by
  refine (il_S_flat 10 (il_id d) 6).trans ?_
  have e : ∀ m, m < 6 → il_S 10 (fun n => il_id d (10 * m + n)) = il_S 10 (fun n => if (d (10 * m + n)).isSome = true then (if il_mf d n = some m then 0 else 1) else 0) := by
    intro m _
    refine il_S_congr 10 fun n hn => ?_
    unfold il_id
    rw [show (10 * m + n) % 10 = n from by omega, show (10 * m + n) / 10 = m from by omega]
  refine (il_S_congr 6 e).trans ?_
  refine (il_S_comm (fun m n => if (d (10 * m + n)).isSome = true then (if il_mf d n = some m then 0 else 1) else 0) 10 6).trans ?_
  exact il_S_congr 10 fun n _ => il_idle1 d n
/-! ===== users ===== -/
def il_O : Nat → (Nat → Int32) → Int32
  | 0, _ => 0
  | n + 1, f => il_O n f ||| f n
theorem il_O_s (n : Nat) (f : Nat → Int32) : il_O (n + 1) f = il_O n f ||| f n := rfl
theorem il_O_b (f : Nat → Int32) (j : Nat) : ∀ n, bt (il_O n f) j = true ↔ ∃ i, i < n ∧ bt (f i) j = true
  | 0 => ⟨fun h => by rw [show il_O 0 f = 0 from rfl, b_0] at h; cases h, fun ⟨i, h, _⟩ => absurd h (Nat.not_lt_zero i)⟩
  | n + 1 => by
    have ih := il_O_b f j n
    rw [il_O_s, b_or, Bool.or_eq_true, ih]
    constructor
    · intro h
      cases h with
      | inl h => obtain ⟨i, hi, hb⟩ := h; exact ⟨i, Nat.lt_succ_of_lt hi, hb⟩
      | inr h => exact ⟨n, Nat.lt_succ_self n, h⟩
    · intro ⟨i, hi, hb⟩
      by_cases h : i = n
      · subst h; exact Or.inr hb
      · exact Or.inl ⟨i, by omega, hb⟩
def il_sh (k : Nat) : Int32 := (1 : Int32) <<< (nI k &&& 31)
def il_ub (d : Nat → Option Nat) (m : Nat) (o : Option Nat) : Bool := match o with
  | none => false
  | some n => decide (il_mf d n = some m)
def il_mr (c : Nat → Nat) (g : Nat → Option Nat) (n : Nat) : Int32 := il_O 6 (fun k => if 0 < il_rf c g k n then il_sh k else 0)
theorem il_if_b {p : Prop} [Decidable p] {x : Int32} {j : Nat} : bt (if p then x else 0) j = true ↔ p ∧ bt x j = true := by
  by_cases h : p
  · rw [if_pos h]; exact ⟨fun z => ⟨h, z⟩, fun z => z.2⟩
  · rw [if_neg h, b_0]; exact ⟨fun z => by cases z, fun z => absurd z.1 h⟩
theorem il_rf_pos (c : Nat → Nat) (g : Nat → Option Nat) (k n : Nat) : 0 < il_rf c g k n ↔ ∃ w, w < c k ∧ g (8 * k + w) = some n := by
  unfold il_rf
  rw [il_S_pos]
  constructor
  · intro ⟨w, hw, h⟩
    refine ⟨w, hw, ?_⟩
    by_cases e : g (8 * k + w) = some n
    · exact e
    · rw [if_neg e] at h; exact absurd h (Nat.lt_irrefl 0)
  · intro ⟨w, hw, e⟩
    exact ⟨w, hw, by rw [if_pos e]; decide⟩
theorem il_users (c : Nat → Nat) (g d : Nat → Option Nat) (m : Nat) (hc : ∀ m, c m ≤ 8) (hg : ∀ i k, g i = some k → k < 10) : il_O 48 (fun i => if i % 8 < c (i / 8) ∧ il_ub d m (g i) = true then il_sh (i / 8) else 0) = il_O 10 (fun n => if il_mf d n = some m then il_mr c g n else 0) := by
  apply b_ext
  intro j _
  apply Bool.eq_iff_iff.mpr
  rw [il_O_b, il_O_b]
  constructor
  · intro ⟨i, hi, hb⟩
    obtain ⟨⟨h1, h2⟩, h3⟩ := il_if_b.mp hb
    cases hk : g i with
    | none =>
      rw [hk] at h2
      have h2' : false = true := h2
      cases h2'
    | some n =>
      rw [hk] at h2
      have h4 : il_mf d n = some m := of_decide_eq_true h2
      refine ⟨n, hg i n hk, il_if_b.mpr ⟨h4, (il_O_b _ j 6).mpr ⟨i / 8, by omega, il_if_b.mpr ⟨(il_rf_pos c g (i / 8) n).mpr ⟨i % 8, h1, ?_⟩, h3⟩⟩⟩⟩
      rw [show 8 * (i / 8) + i % 8 = i from by omega]
      exact hk
  · intro ⟨n, hn, hb⟩
    obtain ⟨h4, h5⟩ := il_if_b.mp hb
    obtain ⟨k, hk, h6⟩ := (il_O_b _ j 6).mp h5
    obtain ⟨h7, h8⟩ := il_if_b.mp h6
    obtain ⟨w, hw, hgw⟩ := (il_rf_pos c g k n).mp h7
    have hw8 := hc k
    refine ⟨8 * k + w, by omega, il_if_b.mpr ⟨⟨?_, ?_⟩, ?_⟩⟩
    · rw [show (8 * k + w) % 8 = w from by omega, show (8 * k + w) / 8 = k from by omega]; exact hw
    · rw [hgw]; exact decide_eq_true h4
    · rw [show (8 * k + w) / 8 = k from by omega]; exact h8
end
section
/-! ===== words that move, definitions that move ===== -/
def il_opn {α : Type} : Nat → Nat → (Nat → α) → (Nat → α)
  | 0, _, f => f
  | n + 1, i, f => il_opn n i (il_up f (i + n + 1) (f (i + n)))
def il_cls {α : Type} : Nat → Nat → (Nat → α) → (Nat → α)
  | 0, _, f => f
  | n + 1, i, f => il_cls n (i + 1) (il_up f i (f (i + 1)))
def il_fil {α : Type} (q : α → α) : Nat → Nat → (Nat → α) → (Nat → α)
  | 0, _, f => f
  | n + 1, i, f => il_fil q n (i + 1) (il_up f i (q (f i)))
theorem il_up_all {α : Type} {P : α → Prop} {f : Nat → α} {x : α} (k : Nat) (h : ∀ i, P (f i)) (hx : P x) : ∀ i, P (il_up f k x i) := by
  intro i
  by_cases e : i = k
  · subst e; rw [il_us]; exact hx
  · rw [il_un f x e]; exact h i
theorem il_opn_all {α : Type} {P : α → Prop} : ∀ n i (f : Nat → α), (∀ j, P (f j)) → ∀ j, P (il_opn n i f j)
  | 0, _, _, h => h
  | n + 1, i, f, h => il_opn_all n i _ (il_up_all (i + n + 1) h (h (i + n)))
theorem il_cls_all {α : Type} {P : α → Prop} : ∀ n i (f : Nat → α), (∀ j, P (f j)) → ∀ j, P (il_cls n i f j)
  | 0, _, _, h => h
  | n + 1, i, f, h => il_cls_all n (i + 1) _ (il_up_all i h (h (i + 1)))
theorem il_fil_eq {α : Type} (q : α → α) : ∀ n i (f : Nat → α) (j : Nat), il_fil q n i f j = if i ≤ j ∧ j < i + n then q (f j) else f j
  | 0, i, f, j => by rw [if_neg (by omega)]; rfl
  | n + 1, i, f, j => by
    show il_fil q n (i + 1) (il_up f i (q (f i))) j = _
    rw [il_fil_eq q n (i + 1)]
    by_cases e : j = i
    · subst e
      rw [if_neg (by omega), if_pos (by omega), il_us]
    · rw [il_un f _ e]
      by_cases h : i + 1 ≤ j ∧ j < i + 1 + n
      · rw [if_pos h, if_pos (by omega)]
      · rw [if_neg h, if_neg (by omega)]
def il_ok (c : Nat → Nat) (g d : Nat → Option Nat) : Prop :=
  (∀ m, c m ≤ 8) ∧ (∀ i k, g i = some k → k < 10) ∧ (∀ m n k, m < 6 → n < 10 → d (10 * m + n) = some k → k ≤ c m)
/-- the definitions of module m through q: those of the others stay -/
theorem il_ok_fil {c c' : Nat → Nat} {g g' d : Nat → Option Nat} {m x : Nat} (q : Option Nat → Option Nat) (I : il_ok c g d) (hx : x ≤ 8) (hc : c' = il_up c m x) (hg : ∀ i k, g' i = some k → k < 10) (hq : ∀ o k, (∀ j, o = some j → j ≤ c m) → q o = some k → k ≤ x) : il_ok c' g' (il_fil q 10 (10 * m) d) := by
  subst hc
  refine ⟨fun j => ?_, hg, fun j n k hj hn h => ?_⟩
  · by_cases e : j = m
    · subst e; rw [il_us]; exact hx
    · rw [il_un c x e]; exact I.1 j
  · rw [il_fil_eq] at h
    by_cases e : j = m
    · subst e
      rw [if_pos (by omega)] at h
      rw [il_us]
      exact hq _ k (fun a ha => I.2.2 j n a hj hn ha) h
    · rw [if_neg (by omega)] at h
      rw [il_un c x e]
      exact I.2.2 j n k hj hn h
def il_qi (w : Nat) (o : Option Nat) : Option Nat := match o with
  | none => none
  | some k => if w ≤ k then some (k + 1) else some k
def il_qd (w : Nat) (o : Option Nat) : Option Nat := match o with
  | none => none
  | some k => if w < k then some (k - 1) else some k
theorem il_qi_ok {w x : Nat} (o : Option Nat) (k : Nat) (h : ∀ j, o = some j → j ≤ x) (e : il_qi w o = some k) : k ≤ x + 1 := by
  cases o with
  | none =>
    have e' : (none : Option Nat) = some k := e
    cases e'
  | some a =>
    have ha := h a rfl
    change (if w ≤ a then some (a + 1) else some a) = some k at e
    by_cases z : w ≤ a
    · rw [if_pos z] at e; cases e; omega
    · rw [if_neg z] at e; cases e; omega
theorem il_qd_ok {w x : Nat} (hw : w < x) (o : Option Nat) (k : Nat) (h : ∀ j, o = some j → j ≤ x) (e : il_qd w o = some k) : k ≤ x - 1 := by
  cases o with
  | none =>
    have e' : (none : Option Nat) = some k := e
    cases e'
  | some a =>
    have ha := h a rfl
    change (if w < a then some (a - 1) else some a) = some k at e
    by_cases z : w < a
    · rw [if_pos z] at e; cases e; omega
    · rw [if_neg z] at e; cases e; omega
theorem il_ok_add {c : Nat → Nat} {g d : Nat → Option Nat} {m s : Nat} {o : Option Nat} (I : il_ok c g d) (h8 : c m < 8) (ho : ∀ k, o = some k → k < 10) : il_ok (il_up c m (c m + 1)) (il_up g s o) d := by
  refine ⟨fun j => ?_, fun i => il_up_all (P := fun a => ∀ k, a = some k → k < 10) s I.2.1 ho i, fun j n k hj hn h => ?_⟩
  · by_cases e : j = m
    · subst e; rw [il_us]; omega
    · rw [il_un c _ e]; exact I.1 j
  · have := I.2.2 j n k hj hn h
    by_cases e : j = m
    · subst e; rw [il_us]; omega
    · rw [il_un c _ e]; exact this
theorem il_ok_name {c : Nat → Nat} {g d : Nat → Option Nat} {s : Nat} {o : Option Nat} (I : il_ok c g d) (ho : ∀ k, o = some k → k < 10) : il_ok c (il_up g s o) d :=
  ⟨I.1, fun i => il_up_all (P := fun a => ∀ k, a = some k → k < 10) s I.2.1 ho i, I.2.2⟩
theorem il_ok_def {c : Nat → Nat} {g d : Nat → Option Nat} {m n : Nat} {o : Option Nat} (I : il_ok c g d) (hm : m < 6) (hn : n < 10) (ho : ∀ k, o = some k → k ≤ c m) : il_ok c g (il_up d (10 * m + n) o) := by
  refine ⟨I.1, I.2.1, fun j b k hj hb h => ?_⟩
  by_cases e : 10 * j + b = 10 * m + n
  · have : j = m := by omega
    subst this
    rw [e, il_us] at h
    exact ho k h
  · rw [il_un d _ e] at h
    exact I.2.2 j b k hj hb h
end
section
/-! ===== numbers, branches ===== -/
theorem il_s8 (m w : Nat) : nI m * 8 + nI w = nI (8 * m + w) := by
  rw [show (8 : Int32) = nI 8 from rfl, pk_mul, nI_add, Nat.mul_comm]
theorem il_s8' (m w : Nat) : 8 * nI m + nI w = nI (8 * m + w) := by
  rw [show (8 : Int32) = nI 8 from rfl, pk_mul, nI_add]
theorem il_s10 (m w : Nat) : nI m * 10 + nI w = nI (10 * m + w) := by
  rw [show (10 : Int32) = nI 10 from rfl, pk_mul, nI_add, Nat.mul_comm]
theorem il_s10' (m w : Nat) : 10 * nI m + nI w = nI (10 * m + w) := by
  rw [show (10 : Int32) = nI 10 from rfl, pk_mul, nI_add]
theorem il_m8 (m : Nat) : 8 * nI m = nI (8 * m) := by
  rw [show (8 : Int32) = nI 8 from rfl, pk_mul]
theorem il_m10 (m : Nat) : 10 * nI m = nI (10 * m) := by
  rw [show (10 : Int32) = nI 10 from rfl, pk_mul]
theorem il_a10 (m : Nat) : nI m + 10 = nI (m + 10) := nI_add m 10
theorem il_p1 (m : Nat) : nI (m + 1) - 1 = nI m := nI_pred m
theorem il_bx {o : Option Nat} {A B : Prop} (hb : ∀ k, o = some k → k < 2 ^ 31) (f : o = none → A) (g : ∀ k, o = some k → B) : (il_xo o = -1 → A) ∧ (¬ il_xo o = -1 → B) := by
  cases o with
  | none => exact br_t rfl (f rfl)
  | some k => exact br_f (il_nm1 (hb k rfl)) (g k rfl)
theorem il_by {o : Option Nat} {A B : Prop} (hb : ∀ k, o = some k → k < 2 ^ 31) (f : o = none → A) (g : ∀ k, o = some k → B) : (il_yo o = -4 → A) ∧ (¬ il_yo o = -4 → B) := by
  cases o with
  | none => exact br_t rfl (f rfl)
  | some k => exact br_f (il_nm4 (hb k rfl)) (g k rfl)
theorem il_byn {o : Option Nat} {A B : Prop} (hb : ∀ k, o = some k → k < 2 ^ 31) (f : o = none → A) (g : ∀ k, o = some k → B) : (il_yo o < 0 → A) ∧ (¬ il_yo o < 0 → B) := by
  cases o with
  | none => exact br_t (show (-4 : Int32) < 0 from by decide) (f rfl)
  | some k => exact br_f (nI_pos (hb k rfl)) (g k rfl)
theorem il_byp {o : Option Nat} {A B : Prop} (hb : ∀ k, o = some k → k < 2 ^ 31) (f : ∀ k, o = some k → A) (g : o = none → B) : (0 ≤ il_yo o → A) ∧ (¬ 0 ≤ il_yo o → B) := by
  cases o with
  | none => exact br_f (show ¬ (0 : Int32) ≤ -4 from by decide) (g rfl)
  | some k => exact br_t (nI_pos' (hb k rfl)) (f k rfl)
theorem il_xge {o : Option Nat} {A B : Prop} (w : Nat) (hw : w < 2 ^ 31) (hb : ∀ k, o = some k → k < 2 ^ 31) (f : (∀ k, o = some k → k < w) → A) (g : ∀ k, o = some k → w ≤ k → B) : (il_xo o < nI w → A) ∧ (¬ il_xo o < nI w → B) := by
  cases o with
  | none =>
    have h : (-1 : Int32) < nI w := by
      rw [Int32.lt_iff_toInt_lt, nI_toInt hw, show (-1 : Int32).toInt = -1 from by decide]
      omega
    exact br_t h (f (fun k z => by cases z))
  | some k =>
    have hk := hb k rfl
    by_cases h : k < w
    · exact br_t (nI_lt h hw) (f (fun j z => by cases z; exact h))
    · exact br_f (nI_nlt (by omega) hk) (g k rfl (by omega))
theorem il_yge {o : Option Nat} {A B : Prop} (w : Nat) (hw : w < 2 ^ 31) (hb : ∀ k, o = some k → k < 2 ^ 31) (f : (∀ k, o = some k → k < w) → A) (g : ∀ k, o = some k → w ≤ k → B) : (il_yo o < nI w → A) ∧ (¬ il_yo o < nI w → B) := by
  cases o with
  | none =>
    have h : (-4 : Int32) < nI w := by
      rw [Int32.lt_iff_toInt_lt, nI_toInt hw, show (-4 : Int32).toInt = -4 from by decide]
      omega
    exact br_t h (f (fun k z => by cases z))
  | some k =>
    have hk := hb k rfl
    by_cases h : k < w
    · exact br_t (nI_lt h hw) (f (fun j z => by cases z; exact h))
    · exact br_f (nI_nlt (by omega) hk) (g k rfl (by omega))
theorem il_yle {o : Option Nat} {A B : Prop} (w : Nat) (hw : w < 2 ^ 31) (hb : ∀ k, o = some k → k < 2 ^ 31) (f : (∀ k, o = some k → k ≤ w) → A) (g : ∀ k, o = some k → w < k → B) : (il_yo o ≤ nI w → A) ∧ (¬ il_yo o ≤ nI w → B) := by
  cases o with
  | none =>
    have h : (-4 : Int32) ≤ nI w := by
      rw [Int32.le_iff_toInt_le, nI_toInt hw, show (-4 : Int32).toInt = -4 from by decide]
      omega
    exact br_t h (f (fun k z => by cases z))
  | some k =>
    have hk := hb k rfl
    by_cases h : k ≤ w
    · exact br_t (nI_le h hw) (f (fun j z => by cases z; exact h))
    · exact br_f (nI_ge (by omega) hk) (g k rfl (by omega))
theorem il_db {c : Nat → Nat} {g d : Nat → Option Nat} (I : il_ok c g d) {m n : Nat} (hm : m < 6) (hn : n < 10) : ∀ k, d (10 * m + n) = some k → k < 2 ^ 31 := by
  intro k h
  have h1 := I.2.2 m n k hm hn h
  have h2 := I.1 m
  omega
theorem il_gb {c : Nat → Nat} {g d : Nat → Option Nat} (I : il_ok c g d) (i : Nat) : ∀ k, g i = some k → k < 2 ^ 31 := by
  intro k h
  have h1 := I.2.1 i k h
  omega
theorem il_mb {d : Nat → Option Nat} {n : Nat} : ∀ k, il_mf d n = some k → k < 2 ^ 31 := by
  intro k h
  have h1 := (il_mf_some h).1
  omega
theorem il_S48 {c : Nat → Nat} (hc : ∀ m, c m ≤ 8) {m : Nat} (hm : m ≤ 6) : il_S m c ≤ 48 := by
  have h := il_S_le (f := c) (b := 8) m (fun i _ => hc i)
  omega
theorem il_whb {c : Nat → Nat} {g d : Nat → Option Nat} (I : il_ok c g d) {n : Nat} (hn : n < 10) : ∀ a, il_wh c d n = some a → a < 2 ^ 31 := by
  intro a h
  unfold il_wh at h
  cases hm : il_mf d n with
  | none => rw [hm] at h; cases h
  | some m =>
    rw [hm] at h
    have h' : some (il_S m c + il_dd d (10 * m + n)) = some a := h
    have h2 := Option.some.inj h'
    obtain ⟨h3, k, h4⟩ := il_mf_some hm
    have h5 := I.2.2 m n k h3 hn h4
    have h6 := I.1 m
    have h7 := il_S48 I.1 (m := m) (by omega)
    have h8 : il_dd d (10 * m + n) = k := by unfold il_dd; rw [h4]; rfl
    omega
theorem il_xne {o : Option Nat} {n : Nat} (hn : n < 2 ^ 31) (hb : ∀ k, o = some k → k < 2 ^ 31) (h : ¬ o = some n) : ¬ il_xo o = nI n := by
  cases o with
  | none => exact fun z => il_nm1 hn z.symm
  | some k => exact fun z => h (congrArg some ((nI_eq (hb k rfl) hn).mp z))
theorem il_yne {o : Option Nat} {n : Nat} (hn : n < 2 ^ 31) (hb : ∀ k, o = some k → k < 2 ^ 31) (h : ¬ o = some n) : ¬ il_yo o = nI n := by
  cases o with
  | none => exact fun z => il_nm4 hn z.symm
  | some k => exact fun z => h (congrArg some ((nI_eq (hb k rfl) hn).mp z))
theorem il_dv8 {i : Nat} (h : i < 2 ^ 31) : nI i / 8 = nI (i / 8) := pk_div h (d := 8) (by omega) (by omega)
theorem il_rm8 {i : Nat} (h : i < 2 ^ 31) : nI i - nI i / 8 * 8 = nI (i % 8) := pk_rem h (d := 8) (by omega) (by omega)
theorem il_dv10 {i : Nat} (h : i < 2 ^ 31) : nI i / 10 = nI (i / 10) := pk_div h (d := 10) (by omega) (by omega)
theorem il_rm10 {i : Nat} (h : i < 2 ^ 31) : nI i - nI i / 10 * 10 = nI (i % 10) := pk_rem h (d := 10) (by omega) (by omega)
/-! ===== arguments: out of range, or a natural below n ===== -/
def il_bad (n : Nat) (x : Int32) : Prop := x < 0 ∨ ∃ j : Nat, n ≤ j ∧ j < 2 ^ 31 ∧ x = nI j
theorem il_ix (x : Int32) (n : Nat) : il_bad n x ∨ ∃ j : Nat, j < n ∧ j < 2 ^ 31 ∧ x = nI j := by
  by_cases h : x < 0
  · exact Or.inl (Or.inl h)
  · obtain ⟨j, hj, e⟩ := nI_of h
    by_cases h2 : j < n
    · exact Or.inr ⟨j, h2, hj, e⟩
    · exact Or.inl (Or.inr ⟨j, by omega, hj, e⟩)
def il_fl (o : Option Nat) : Int32 := match o with
  | none => 0
  | some _ => 1
theorem il_n8 {a : Nat} (h : a < 8) : ¬ nI a = 8 := fun z => by
  have := (nI_eq (a := a) (b := 8) (by omega) (by decide)).mp z
  omega
theorem il_qi1 {w k : Nat} (h : k < w) : il_qi w (some k) = some k := if_neg (by omega)
theorem il_qi2 {w k : Nat} (h : w ≤ k) : il_qi w (some k) = some (k + 1) := if_pos h
theorem il_qd1 {w k : Nat} (h : k ≤ w) : il_qd w (some k) = some k := if_neg (by omega)
theorem il_qd2 {w k : Nat} (h : w < k) : il_qd w (some k) = some (k - 1) := if_pos h
theorem il_m1 {k : Nat} (h : 0 < k) : nI k + (-1) = nI (k - 1) := by
  obtain ⟨j, rfl⟩ : ∃ j, k = j + 1 := ⟨k - 1, by omega⟩
  exact pk_m1 j
theorem il_mi1 {k : Nat} (h : 0 < k) : nI k - 1 = nI (k - 1) := by
  obtain ⟨j, rfl⟩ : ∃ j, k = j + 1 := ⟨k - 1, by omega⟩
  exact nI_pred j
end
