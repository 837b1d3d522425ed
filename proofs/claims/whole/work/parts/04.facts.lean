/-! ===== numbers, branches ===== -/
theorem il_s8 (m w : Nat) : nI m * 8 + nI w = nI (8 * m + w) := by
  rw [show (8 : Int32) = nI 8 from rfl, pk_mul, nI_add, Nat.mul_comm]
theorem il_s8' (m w : Nat) : 8 * nI m + nI w = nI (8 * m + w) := by
  rw [show (8 : Int32) = nI 8 from rfl, pk_mul, nI_add]
theorem il_s10 (m w : Nat) : nI m * 10 + nI w = nI (10 * m + w) := by
  rw [show (10 : Int32) = nI 10 from rfl, pk_mul, nI_add, Nat.mul_comm]
theorem il_s10' (m w : Nat) : 10 * nI m + nI w = nI (10 * m + w) := by
  rw [show (10 : Int32) = nI 10 from rfl, pk_mul, nI_add]
theorem il_m8 (m : Nat) : 8 * nI m = nI (8 * m) := by
  rw [show (8 : Int32) = nI 8 from rfl, pk_mul]
theorem il_m10 (m : Nat) : 10 * nI m = nI (10 * m) := by
  rw [show (10 : Int32) = nI 10 from rfl, pk_mul]
theorem il_a10 (m : Nat) : nI m + 10 = nI (m + 10) := nI_add m 10
theorem il_p1 (m : Nat) : nI (m + 1) - 1 = nI m := nI_pred m
theorem il_bx {o : Option Nat} {A B : Prop} (hb : ∀ k, o = some k → k < 2 ^ 31) (f : o = none → A) (g : ∀ k, o = some k → B) : (il_xo o = -1 → A) ∧ (¬ il_xo o = -1 → B) := by
  cases o with
  | none => exact br_t rfl (f rfl)
  | some k => exact br_f (il_nm1 (hb k rfl)) (g k rfl)
theorem il_by {o : Option Nat} {A B : Prop} (hb : ∀ k, o = some k → k < 2 ^ 31) (f : o = none → A) (g : ∀ k, o = some k → B) : (il_yo o = -4 → A) ∧ (¬ il_yo o = -4 → B) := by
  cases o with
  | none => exact br_t rfl (f rfl)
  | some k => exact br_f (il_nm4 (hb k rfl)) (g k rfl)
theorem il_byn {o : Option Nat} {A B : Prop} (hb : ∀ k, o = some k → k < 2 ^ 31) (f : o = none → A) (g : ∀ k, o = some k → B) : (il_yo o < 0 → A) ∧ (¬ il_yo o < 0 → B) := by
  cases o with
  | none => exact br_t (show (-4 : Int32) < 0 from by decide) (f rfl)
  | some k => exact br_f (nI_pos (hb k rfl)) (g k rfl)
theorem il_byp {o : Option Nat} {A B : Prop} (hb : ∀ k, o = some k → k < 2 ^ 31) (f : ∀ k, o = some k → A) (g : o = none → B) : (0 ≤ il_yo o → A) ∧ (¬ 0 ≤ il_yo o → B) := by
  cases o with
  | none => exact br_f (show ¬ (0 : Int32) ≤ -4 from by decide) (g rfl)
  | some k => exact br_t (nI_pos' (hb k rfl)) (f k rfl)
theorem il_xge {o : Option Nat} {A B : Prop} (w : Nat) (hw : w < 2 ^ 31) (hb : ∀ k, o = some k → k < 2 ^ 31) (f : (∀ k, o = some k → k < w) → A) (g : ∀ k, o = some k → w ≤ k → B) : (il_xo o < nI w → A) ∧ (¬ il_xo o < nI w → B) := by
  cases o with
  | none =>
    have h : (-1 : Int32) < nI w := by
      rw [Int32.lt_iff_toInt_lt, nI_toInt hw, show (-1 : Int32).toInt = -1 from by decide]
      omega
    exact br_t h (f (fun k z => by cases z))
  | some k =>
    have hk := hb k rfl
    by_cases h : k < w
    · exact br_t (nI_lt h hw) (f (fun j z => by cases z; exact h))
    · exact br_f (nI_nlt (by omega) hk) (g k rfl (by omega))
theorem il_yge {o : Option Nat} {A B : Prop} (w : Nat) (hw : w < 2 ^ 31) (hb : ∀ k, o = some k → k < 2 ^ 31) (f : (∀ k, o = some k → k < w) → A) (g : ∀ k, o = some k → w ≤ k → B) : (il_yo o < nI w → A) ∧ (¬ il_yo o < nI w → B) := by
  cases o with
  | none =>
    have h : (-4 : Int32) < nI w := by
      rw [Int32.lt_iff_toInt_lt, nI_toInt hw, show (-4 : Int32).toInt = -4 from by decide]
      omega
    exact br_t h (f (fun k z => by cases z))
  | some k =>
    have hk := hb k rfl
    by_cases h : k < w
    · exact br_t (nI_lt h hw) (f (fun j z => by cases z; exact h))
    · exact br_f (nI_nlt (by omega) hk) (g k rfl (by omega))
theorem il_yle {o : Option Nat} {A B : Prop} (w : Nat) (hw : w < 2 ^ 31) (hb : ∀ k, o = some k → k < 2 ^ 31) (f : (∀ k, o = some k → k ≤ w) → A) (g : ∀ k, o = some k → w < k → B) : (il_yo o ≤ nI w → A) ∧ (¬ il_yo o ≤ nI w → B) := by
  cases o with
  | none =>
    have h : (-4 : Int32) ≤ nI w := by
      rw [Int32.le_iff_toInt_le, nI_toInt hw, show (-4 : Int32).toInt = -4 from by decide]
      omega
    exact br_t h (f (fun k z => by cases z))
  | some k =>
    have hk := hb k rfl
    by_cases h : k ≤ w
    · exact br_t (nI_le h hw) (f (fun j z => by cases z; exact h))
    · exact br_f (nI_ge (by omega) hk) (g k rfl (by omega))
theorem il_db {c : Nat → Nat} {g d : Nat → Option Nat} (I : il_ok c g d) {m n : Nat} (hm : m < 6) (hn : n < 10) : ∀ k, d (10 * m + n) = some k → k < 2 ^ 31 := by
  intro k h
  have h1 := I.2.2 m n k hm hn h
  have h2 := I.1 m
  omega
theorem il_gb {c : Nat → Nat} {g d : Nat → Option Nat} (I : il_ok c g d) (i : Nat) : ∀ k, g i = some k → k < 2 ^ 31 := by
  intro k h
  have h1 := I.2.1 i k h
  omega
theorem il_mb {d : Nat → Option Nat} {n : Nat} : ∀ k, il_mf d n = some k → k < 2 ^ 31 := by
  intro k h
  have h1 := (il_mf_some h).1
  omega
theorem il_S48 {c : Nat → Nat} (hc : ∀ m, c m ≤ 8) {m : Nat} (hm : m ≤ 6) : il_S m c ≤ 48 := by
  have h := il_S_le (f := c) (b := 8) m (fun i _ => hc i)
  omega
theorem il_whb {c : Nat → Nat} {g d : Nat → Option Nat} (I : il_ok c g d) {n : Nat} (hn : n < 10) : ∀ a, il_wh c d n = some a → a < 2 ^ 31 := by
  intro a h
  unfold il_wh at h
  cases hm : il_mf d n with
  | none => rw [hm] at h; cases h
  | some m =>
    rw [hm] at h
    have h' : some (il_S m c + il_dd d (10 * m + n)) = some a := h
    have h2 := Option.some.inj h'
    obtain ⟨h3, k, h4⟩ := il_mf_some hm
    have h5 := I.2.2 m n k h3 hn h4
    have h6 := I.1 m
    have h7 := il_S48 I.1 (m := m) (by omega)
    have h8 : il_dd d (10 * m + n) = k := by unfold il_dd; rw [h4]; rfl
    omega
theorem il_xne {o : Option Nat} {n : Nat} (hn : n < 2 ^ 31) (hb : ∀ k, o = some k → k < 2 ^ 31) (h : ¬ o = some n) : ¬ il_xo o = nI n := by
  cases o with
  | none => exact fun z => il_nm1 hn z.symm
  | some k => exact fun z => h (congrArg some ((nI_eq (hb k rfl) hn).mp z))
theorem il_yne {o : Option Nat} {n : Nat} (hn : n < 2 ^ 31) (hb : ∀ k, o = some k → k < 2 ^ 31) (h : ¬ o = some n) : ¬ il_yo o = nI n := by
  cases o with
  | none => exact fun z => il_nm4 hn z.symm
  | some k => exact fun z => h (congrArg some ((nI_eq (hb k rfl) hn).mp z))
theorem il_dv8 {i : Nat} (h : i < 2 ^ 31) : nI i / 8 = nI (i / 8) := pk_div h (d := 8) (by omega) (by omega)
theorem il_rm8 {i : Nat} (h : i < 2 ^ 31) : nI i - nI i / 8 * 8 = nI (i % 8) := pk_rem h (d := 8) (by omega) (by omega)
theorem il_dv10 {i : Nat} (h : i < 2 ^ 31) : nI i / 10 = nI (i / 10) := pk_div h (d := 10) (by omega) (by omega)
theorem il_rm10 {i : Nat} (h : i < 2 ^ 31) : nI i - nI i / 10 * 10 = nI (i % 10) := pk_rem h (d := 10) (by omega) (by omega)
/-! ===== arguments: out of range, or a natural below n ===== -/
def il_bad (n : Nat) (x : Int32) : Prop := x < 0 ∨ ∃ j : Nat, n ≤ j ∧ j < 2 ^ 31 ∧ x = nI j
theorem il_ix (x : Int32) (n : Nat) : il_bad n x ∨ ∃ j : Nat, j < n ∧ j < 2 ^ 31 ∧ x = nI j := by
  by_cases h : x < 0
  · exact Or.inl (Or.inl h)
  · obtain ⟨j, hj, e⟩ := nI_of h
    by_cases h2 : j < n
    · exact Or.inr ⟨j, h2, hj, e⟩
    · exact Or.inl (Or.inr ⟨j, by omega, hj, e⟩)
def il_fl (o : Option Nat) : Int32 := match o with
  | none => 0
  | some _ => 1
theorem il_n8 {a : Nat} (h : a < 8) : ¬ nI a = 8 := fun z => by
  have := (nI_eq (a := a) (b := 8) (by omega) (by decide)).mp z
  omega
theorem il_qi1 {w k : Nat} (h : k < w) : il_qi w (some k) = some k := if_neg (by omega)
theorem il_qi2 {w k : Nat} (h : w ≤ k) : il_qi w (some k) = some (k + 1) := if_pos h
theorem il_qd1 {w k : Nat} (h : k ≤ w) : il_qd w (some k) = some k := if_neg (by omega)
theorem il_qd2 {w k : Nat} (h : w < k) : il_qd w (some k) = some (k - 1) := if_pos h
theorem il_m1 {k : Nat} (h : 0 < k) : nI k + (-1) = nI (k - 1) := by
  obtain ⟨j, rfl⟩ : ∃ j, k = j + 1 := ⟨k - 1, by omega⟩
  exact pk_m1 j
theorem il_mi1 {k : Nat} (h : 0 < k) : nI k - 1 = nI (k - 1) := by
  obtain ⟨j, rfl⟩ : ∃ j, k = j + 1 := ⟨k - 1, by omega⟩
  exact nI_pred j
