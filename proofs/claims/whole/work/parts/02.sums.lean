/-! ===== counts, places, definitions ===== -/
def il_mf (d : Nat → Option Nat) (n : Nat) : Option Nat := il_ff (fun m => (d (10 * m + n)).isSome) 6 0
def il_mo (c : Nat → Nat) (p : Nat) : Option Nat := il_ff (fun m => decide (p < il_S (m + 1) c)) 6 0
def il_dd (d : Nat → Option Nat) (i : Nat) : Nat := (d i).getD 0
def il_wh (c : Nat → Nat) (d : Nat → Option Nat) (n : Nat) : Option Nat := match il_mf d n with
  | none => none
  | some m => some (il_S m c + il_dd d (10 * m + n))
def il_wv (c : Nat → Nat) (g : Nat → Option Nat) (v : Nat → Int32) (d : Nat → Option Nat) (i : Nat) : Int32 := match g i with
  | none => v i
  | some k => match il_wh c d k with
    | none => -1
    | some a => nI a + v i
def il_val (c : Nat → Nat) (g : Nat → Option Nat) (v : Nat → Int32) (d : Nat → Option Nat) (p : Nat) : Int32 := match il_mo c p with
  | none => 0
  | some m => il_wv c g v d (8 * m + (p - il_S m c))
theorem il_mf_some {d : Nat → Option Nat} {n m : Nat} (h : il_mf d n = some m) : m < 6 ∧ ∃ k, d (10 * m + n) = some k := by
  obtain ⟨_, h2, h3, _⟩ := il_ff_some 6 0 m h
  exact ⟨by omega, Option.isSome_iff_exists.mp h3⟩
theorem il_mf_none {d : Nat → Option Nat} {n : Nat} (h : il_mf d n = none) : ∀ m, m < 6 → (d (10 * m + n)).isSome = false :=
  fun m hm => il_ff_none 6 0 h m (Nat.zero_le m) (by omega)
theorem il_mo_some {c : Nat → Nat} {p m : Nat} (h : il_mo c p = some m) : m < 6 ∧ il_S m c ≤ p ∧ p < il_S (m + 1) c := by
  obtain ⟨_, h2, h3, h4⟩ := il_ff_some 6 0 m h
  refine ⟨by omega, ?_, of_decide_eq_true h3⟩
  cases m with
  | zero => exact Nat.zero_le p
  | succ j =>
    have h5 := of_decide_eq_false (h4 j (Nat.zero_le j) (Nat.lt_succ_self j))
    omega
theorem il_mo_at {c : Nat → Nat} {m w : Nat} (hm : m < 6) (hw : w < c m) : il_mo c (il_S m c + w) = some m := by
  refine il_ff_at 6 0 m (Nat.zero_le m) (by omega) (decide_eq_true ?_) (fun j _ hj => decide_eq_false ?_)
  · rw [il_S_s]; omega
  · have h := il_S_mn c (a := j + 1) (b := m) (by omega)
    omega
theorem il_mo_no {c : Nat → Nat} {p : Nat} (h : il_S 6 c ≤ p) : il_mo c p = none := by
  refine il_ff_all 6 0 (fun j _ hj => decide_eq_false ?_)
  have h := il_S_mn c (a := j + 1) (b := 6) (by omega)
  omega
theorem il_val_at {c : Nat → Nat} (g : Nat → Option Nat) (v : Nat → Int32) (d : Nat → Option Nat) {m w : Nat} (hm : m < 6) (hw : w < c m) : il_val c g v d (il_S m c + w) = il_wv c g v d (8 * m + w) := by
  unfold il_val
  rw [il_mo_at hm hw]
  show il_wv c g v d (8 * m + (il_S m c + w - il_S m c)) = _
  rw [Nat.add_sub_cancel_left]
theorem il_val_no {c : Nat → Nat} (g : Nat → Option Nat) (v : Nat → Int32) (d : Nat → Option Nat) {p : Nat} (h : il_S 6 c ≤ p) : il_val c g v d p = 0 := by
  unfold il_val
  rw [il_mo_no h] <;> rfl
/-! ===== the digest's sum ===== -/
def il_D : Nat → (Nat → Int32) → Int32
  | 0, _ => 0
  | n + 1, f => il_D n f + f n
theorem il_D_s (n : Nat) (f : Nat → Int32) : il_D (n + 1) f = il_D n f + f n := rfl
theorem il_D_ext (f : Nat → Int32) (a : Nat) (h : ∀ p, a ≤ p → f p = 0) : ∀ e, il_D (a + e) f = il_D a f
  | 0 => rfl
  | e + 1 => by
    show il_D (a + e) f + f (a + e) = il_D a f
    rw [il_D_ext f a h e, h (a + e) (by omega), Int32.add_zero]
def il_F (c : Nat → Nat) (g : Nat → Option Nat) (v : Nat → Int32) (d : Nat → Option Nat) (p : Nat) : Int32 := nI (p + 1) * il_val c g v d p
theorem il_dig (c : Nat → Nat) (g : Nat → Option Nat) (v : Nat → Int32) (d : Nat → Option Nat) (hc : ∀ m, c m ≤ 8) : il_D 48 (il_F c g v d) = il_D (il_S 6 c) (il_F c g v d) := by
  have hb : il_S 6 c ≤ 6 * 8 := il_S_le 6 (fun i _ => hc i)
  have h := il_D_ext (il_F c g v d) (il_S 6 c) (fun p hp => by unfold il_F; rw [il_val_no g v d hp, Int32.mul_zero]) (48 - il_S 6 c)
  have e : il_S 6 c + (48 - il_S 6 c) = 48 := by omega
  rw [e] at h
  exact h
/-! ===== references: by modules and words, by places ===== -/
def il_rf (c : Nat → Nat) (g : Nat → Option Nat) (k n : Nat) : Nat := il_S (c k) (fun w => if g (8 * k + w) = some n then 1 else 0)
def il_rt (c : Nat → Nat) (g : Nat → Option Nat) (n : Nat) : Nat := il_S 6 (fun k => il_rf c g k n)
theorem il_rf_le {c : Nat → Nat} (g : Nat → Option Nat) (k n : Nat) (hc : ∀ m, c m ≤ 8) : il_rf c g k n ≤ 8 := by
  have h := il_S_le (f := fun w => if g (8 * k + w) = some n then 1 else 0) (b := 1) (c k) (fun i _ => by show (if g (8 * k + i) = some n then 1 else 0) ≤ 1; split <;> omega)
  have h2 := hc k
  unfold il_rf
  omega
theorem il_fold (c q : Nat → Nat) (hc : ∀ m, c m ≤ 8) : il_S 48 (fun i => if i % 8 < c (i / 8) then q i else 0) = il_S 6 (fun k => il_S (c k) (fun w => q (8 * k + w))) := by
  refine (il_S_flat 8 (fun i => if i % 8 < c (i / 8) then q i else 0) 6).trans (il_S_congr 6 fun k _ => ?_)
  have e : ∀ w, w < 8 → (if (8 * k + w) % 8 < c ((8 * k + w) / 8) then q (8 * k + w) else 0) = if w < c k then q (8 * k + w) else 0 := by
    intro w hw
    rw [show (8 * k + w) % 8 = w from by omega, show (8 * k + w) / 8 = k from by omega]
  refine (il_S_congr 8 e).trans ?_
  have h2 := il_S_cut (fun w => q (8 * k + w)) (c k) (8 - c k)
  rw [Nat.add_sub_cancel' (hc k)] at h2
  exact h2
theorem il_uses (c : Nat → Nat) (g : Nat → Option Nat) (n : Nat) (hc : ∀ m, c m ≤ 8) : il_S 48 (fun i => if i % 8 < c (i / 8) then (if g i = some n then 1 else 0) else 0) = il_rt c g n :=
  il_fold c (fun i => if g i = some n then 1 else 0) hc
/-! ===== undefined ===== -/
def il_ud (d : Nat → Option Nat) (o : Option Nat) : Bool := match o with
  | none => false
  | some n => (il_mf d n).isNone
theorem il_pick (f : Nat → Nat) (N k : Nat) (h : k < N) : il_S N (fun n => if some k = some n then f n else 0) = f k := by
  have e : ∀ n, n < N → (if some k = some n then f n else 0) = if n = k then f n else 0 := by
    intro n _
    by_cases h : n = k
    · subst h; rw [if_pos rfl, if_pos rfl]
    · rw [if_neg h, if_neg (fun z => h (Option.some.inj z).symm)]
  refine (il_S_congr N e).trans ?_
  rw [il_S_one, if_pos h]
theorem il_undef (c : Nat → Nat) (g d : Nat → Option Nat) (hc : ∀ m, c m ≤ 8) (hg : ∀ i k, g i = some k → k < 10) : il_S 48 (fun i => if i % 8 < c (i / 8) then (if il_ud d (g i) = true then 1 else 0) else 0) = il_S 10 (fun n => if il_mf d n = none then il_rt c g n else 0) := by
  refine (il_fold c (fun i => if il_ud d (g i) = true then 1 else 0) hc).trans ?_
  have e1 : ∀ n, n < 10 → (if il_mf d n = none then il_rt c g n else 0) = il_S 6 (fun k => il_S (c k) (fun w => if g (8 * k + w) = some n then (if il_mf d n = none then 1 else 0) else 0)) := by
    intro n _
    by_cases h : il_mf d n = none
    · rw [if_pos h]
      exact il_S_congr 6 fun k _ => il_S_congr (c k) fun w _ => by rw [if_pos h]
    · rw [if_neg h]
      refine ((il_S_congr 6 fun k _ => ?_).trans (il_S_zero 6)).symm
      refine (il_S_congr (c k) fun w _ => ?_).trans (il_S_zero (c k))
      show (if g (8 * k + w) = some n then (if il_mf d n = none then 1 else 0) else 0) = 0
      rw [if_neg h]
      split <;> rfl
  refine Eq.trans ?_ (il_S_congr 10 e1).symm
  refine Eq.trans ?_ (il_S_comm (fun n k => il_S (c k) (fun w => if g (8 * k + w) = some n then (if il_mf d n = none then 1 else 0) else 0)) 6 10).symm
  refine il_S_congr 6 fun k _ => ?_
  refine Eq.trans ?_ (il_S_comm (fun n w => if g (8 * k + w) = some n then (if il_mf d n = none then 1 else 0) else 0) (c k) 10).symm
  refine il_S_congr (c k) fun w _ => ?_
  show (if il_ud d (g (8 * k + w)) = true then 1 else 0) = il_S 10 (fun n => if g (8 * k + w) = some n then (if il_mf d n = none then 1 else 0) else 0)
  cases hk : g (8 * k + w) with
  | none =>
    have e0 : ∀ n, n < 10 → (if (none : Option Nat) = some n then (if il_mf d n = none then 1 else 0) else 0) = 0 := fun n _ => if_neg (fun z => by cases z)
    exact ((il_S_congr 10 e0).trans (il_S_zero 10)).symm
  | some a =>
    rw [il_pick (fun n => if il_mf d n = none then 1 else 0) 10 a (hg _ _ hk)]
    show (if (il_mf d a).isNone = true then 1 else 0) = if il_mf d a = none then 1 else 0
    cases il_mf d a with
    | none => rfl
    | some b => rfl
/-! ===== idle ===== -/
def il_df (d : Nat → Option Nat) (n : Nat) : Nat := il_S 6 (fun m => if (d (10 * m + n)).isSome = true then 1 else 0)
def il_id (d : Nat → Option Nat) (i : Nat) : Nat := if (d i).isSome = true then (if il_mf d (i % 10) = some (i / 10) then 0 else 1) else 0
theorem il_df_le (d : Nat → Option Nat) (n : Nat) : il_df d n ≤ 6 := by
  have h := il_S_le (f := fun m => if (d (10 * m + n)).isSome = true then 1 else 0) (b := 1) 6 (fun i _ => by show (if (d (10 * i + n)).isSome = true then 1 else 0) ≤ 1; split <;> omega)
  unfold il_df
  omega
theorem il_idle1 (d : Nat → Option Nat) (n : Nat) : il_S 6 (fun m => if (d (10 * m + n)).isSome = true then (if il_mf d n = some m then 0 else 1) else 0) = il_df d n - 1 := by
  have hf : ¬ (false = true) := by decide
  cases h : il_mf d n with
  | none =>
    have hz := il_mf_none h
    have e1 : il_df d n = 0 := by
      refine (il_S_congr 6 fun m hm => ?_).trans (il_S_zero 6)
      show (if (d (10 * m + n)).isSome = true then 1 else 0) = 0
      rw [hz m hm, if_neg hf]
    rw [e1]
    refine (il_S_congr 6 fun m hm => ?_).trans (il_S_zero 6)
    show (if (d (10 * m + n)).isSome = true then _ else 0) = 0
    rw [hz m hm, if_neg hf]
  | some k =>
    obtain ⟨hk, a, ha⟩ := il_mf_some h
    have e2 : ∀ m, m < 6 → (if (d (10 * m + n)).isSome = true then 1 else 0) = (if (d (10 * m + n)).isSome = true then (if some k = some m then 0 else 1) else 0) + (if m = k then 1 else 0) := by
      intro m _
      by_cases hm : m = k
      · subst hm
        rw [ha]; simp
      · have hm' : ¬ some k = some m := fun z => hm (Option.some.inj z).symm
        rw [if_neg hm, if_neg hm', Nat.add_zero]
    have e3 : il_df d n = il_S 6 (fun m => if (d (10 * m + n)).isSome = true then (if some k = some m then 0 else 1) else 0) + 1 := by
      refine (il_S_congr 6 e2).trans ?_
      refine (il_S_add (fun m => if (d (10 * m + n)).isSome = true then (if some k = some m then 0 else 1) else 0) (fun m => if m = k then 1 else 0) 6).trans ?_
      exact congrArg (fun z => il_S 6 (fun m => if (d (10 * m + n)).isSome = true then (if some k = some m then 0 else 1) else 0) + z) ((il_S_one (fun _ => 1) k 6).trans (if_pos hk))
    rw [e3, Nat.add_sub_cancel]
theorem il_idle (d : Nat → Option Nat) : il_S 60 (il_id d) = il_S 10 (fun n => il_df d n - 1) := by
  refine (il_S_flat 10 (il_id d) 6).trans ?_
  have e : ∀ m, m < 6 → il_S 10 (fun n => il_id d (10 * m + n)) = il_S 10 (fun n => if (d (10 * m + n)).isSome = true then (if il_mf d n = some m then 0 else 1) else 0) := by
    intro m _
    refine il_S_congr 10 fun n hn => ?_
    unfold il_id
    rw [show (10 * m + n) % 10 = n from by omega, show (10 * m + n) / 10 = m from by omega]
  refine (il_S_congr 6 e).trans ?_
  refine (il_S_comm (fun m n => if (d (10 * m + n)).isSome = true then (if il_mf d n = some m then 0 else 1) else 0) 10 6).trans ?_
  exact il_S_congr 10 fun n _ => il_idle1 d n
/-! ===== users ===== -/
def il_O : Nat → (Nat → Int32) → Int32
  | 0, _ => 0
  | n + 1, f => il_O n f ||| f n
theorem il_O_s (n : Nat) (f : Nat → Int32) : il_O (n + 1) f = il_O n f ||| f n := rfl
theorem il_O_b (f : Nat → Int32) (j : Nat) : ∀ n, bt (il_O n f) j = true ↔ ∃ i, i < n ∧ bt (f i) j = true
  | 0 => ⟨fun h => by rw [show il_O 0 f = 0 from rfl, b_0] at h; exact absurd h (by decide), fun ⟨i, h, _⟩ => absurd h (Nat.not_lt_zero i)⟩
  | n + 1 => by
    have ih := il_O_b f j n
    rw [il_O_s, b_or, Bool.or_eq_true, ih]
    constructor
    · intro h
      cases h with
      | inl h => obtain ⟨i, hi, hb⟩ := h; exact ⟨i, Nat.lt_succ_of_lt hi, hb⟩
      | inr h => exact ⟨n, Nat.lt_succ_self n, h⟩
    · intro ⟨i, hi, hb⟩
      by_cases h : i = n
      · subst h; exact Or.inr hb
      · exact Or.inl ⟨i, by omega, hb⟩
def il_sh (k : Nat) : Int32 := (1 : Int32) <<< (nI k &&& 31)
def il_ub (d : Nat → Option Nat) (m : Nat) (o : Option Nat) : Bool := match o with
  | none => false
  | some n => decide (il_mf d n = some m)
def il_mr (c : Nat → Nat) (g : Nat → Option Nat) (n : Nat) : Int32 := il_O 6 (fun k => if 0 < il_rf c g k n then il_sh k else 0)
theorem il_if_b {p : Prop} [Decidable p] {x : Int32} {j : Nat} : bt (if p then x else 0) j = true ↔ p ∧ bt x j = true := by
  by_cases h : p
  · rw [if_pos h]; exact ⟨fun z => ⟨h, z⟩, fun z => z.2⟩
  · rw [if_neg h, b_0]; exact ⟨fun z => absurd z (by decide), fun z => absurd z.1 h⟩
theorem il_rf_pos (c : Nat → Nat) (g : Nat → Option Nat) (k n : Nat) : 0 < il_rf c g k n ↔ ∃ w, w < c k ∧ g (8 * k + w) = some n := by
  unfold il_rf
  rw [il_S_pos]
  constructor
  · intro ⟨w, hw, h⟩
    refine ⟨w, hw, ?_⟩
    by_cases e : g (8 * k + w) = some n
    · exact e
    · rw [if_neg e] at h; exact absurd h (Nat.lt_irrefl 0)
  · intro ⟨w, hw, e⟩
    exact ⟨w, hw, by rw [if_pos e]; decide⟩
theorem il_users (c : Nat → Nat) (g d : Nat → Option Nat) (m : Nat) (hc : ∀ m, c m ≤ 8) (hg : ∀ i k, g i = some k → k < 10) : il_O 48 (fun i => if i % 8 < c (i / 8) ∧ il_ub d m (g i) = true then il_sh (i / 8) else 0) = il_O 10 (fun n => if il_mf d n = some m then il_mr c g n else 0) := by
  apply b_ext
  intro j _
  apply Bool.eq_iff_iff.mpr
  rw [il_O_b, il_O_b]
  constructor
  · intro ⟨i, hi, hb⟩
    obtain ⟨⟨h1, h2⟩, h3⟩ := il_if_b.mp hb
    cases hk : g i with
    | none =>
      rw [hk] at h2
      have h2' : false = true := h2
      cases h2'
    | some n =>
      rw [hk] at h2
      have h4 : il_mf d n = some m := of_decide_eq_true h2
      refine ⟨n, hg i n hk, il_if_b.mpr ⟨h4, (il_O_b _ j 6).mpr ⟨i / 8, by omega, il_if_b.mpr ⟨(il_rf_pos c g (i / 8) n).mpr ⟨i % 8, h1, ?_⟩, h3⟩⟩⟩⟩
      rw [show 8 * (i / 8) + i % 8 = i from by omega]
      exact hk
  · intro ⟨n, hn, hb⟩
    obtain ⟨h4, h5⟩ := il_if_b.mp hb
    obtain ⟨k, hk, h6⟩ := (il_O_b _ j 6).mp h5
    obtain ⟨h7, h8⟩ := il_if_b.mp h6
    obtain ⟨w, hw, hgw⟩ := (il_rf_pos c g k n).mp h7
    have hw8 := hc k
    refine ⟨8 * k + w, by omega, il_if_b.mpr ⟨⟨?_, ?_⟩, ?_⟩⟩
    · rw [show (8 * k + w) % 8 = w from by omega, show (8 * k + w) / 8 = k from by omega]; exact hw
    · rw [hgw]; exact decide_eq_true h4
    · rw [show (8 * k + w) / 8 = k from by omega]; exact h8
