/-! ===== words that move, definitions that move ===== -/
def il_opn {α : Type} : Nat → Nat → (Nat → α) → (Nat → α)
  | 0, _, f => f
  | n + 1, i, f => il_opn n i (il_up f (i + n + 1) (f (i + n)))
def il_cls {α : Type} : Nat → Nat → (Nat → α) → (Nat → α)
  | 0, _, f => f
  | n + 1, i, f => il_cls n (i + 1) (il_up f i (f (i + 1)))
def il_fil {α : Type} (q : α → α) : Nat → Nat → (Nat → α) → (Nat → α)
  | 0, _, f => f
  | n + 1, i, f => il_fil q n (i + 1) (il_up f i (q (f i)))
theorem il_up_all {α : Type} {P : α → Prop} {f : Nat → α} {x : α} (k : Nat) (h : ∀ i, P (f i)) (hx : P x) : ∀ i, P (il_up f k x i) := by
  intro i
  by_cases e : i = k
  · subst e; rw [il_us]; exact hx
  · rw [il_un f x e]; exact h i
theorem il_opn_all {α : Type} {P : α → Prop} : ∀ n i (f : Nat → α), (∀ j, P (f j)) → ∀ j, P (il_opn n i f j)
  | 0, _, _, h => h
  | n + 1, i, f, h => il_opn_all n i _ (il_up_all (i + n + 1) h (h (i + n)))
theorem il_cls_all {α : Type} {P : α → Prop} : ∀ n i (f : Nat → α), (∀ j, P (f j)) → ∀ j, P (il_cls n i f j)
  | 0, _, _, h => h
  | n + 1, i, f, h => il_cls_all n (i + 1) _ (il_up_all i h (h (i + 1)))
theorem il_fil_eq {α : Type} (q : α → α) : ∀ n i (f : Nat → α) (j : Nat), il_fil q n i f j = if i ≤ j ∧ j < i + n then q (f j) else f j
  | 0, i, f, j => by rw [if_neg (by omega)]; rfl
  | n + 1, i, f, j => by
    show il_fil q n (i + 1) (il_up f i (q (f i))) j = _
    rw [il_fil_eq q n (i + 1)]
    by_cases e : j = i
    · subst e
      rw [if_neg (by omega), if_pos (by omega), il_us]
    · rw [il_un f _ e]
      by_cases h : i + 1 ≤ j ∧ j < i + 1 + n
      · rw [if_pos h, if_pos (by omega)]
      · rw [if_neg h, if_neg (by omega)]
def il_ok (c : Nat → Nat) (g d : Nat → Option Nat) : Prop :=
  (∀ m, c m ≤ 8) ∧ (∀ i k, g i = some k → k < 10) ∧ (∀ m n k, m < 6 → n < 10 → d (10 * m + n) = some k → k ≤ c m)
/-- the definitions of module m through q: those of the others stay -/
theorem il_ok_fil {c c' : Nat → Nat} {g g' d : Nat → Option Nat} {m x : Nat} (q : Option Nat → Option Nat) (I : il_ok c g d) (hx : x ≤ 8) (hc : c' = il_up c m x) (hg : ∀ i k, g' i = some k → k < 10) (hq : ∀ o k, (∀ j, o = some j → j ≤ c m) → q o = some k → k ≤ x) : il_ok c' g' (il_fil q 10 (10 * m) d) := by
  subst hc
  refine ⟨fun j => ?_, hg, fun j n k hj hn h => ?_⟩
  · by_cases e : j = m
    · subst e; rw [il_us]; exact hx
    · rw [il_un c x e]; exact I.1 j
  · rw [il_fil_eq] at h
    by_cases e : j = m
    · subst e
      rw [if_pos (by omega)] at h
      rw [il_us]
      exact hq _ k (fun a ha => I.2.2 j n a hj hn ha) h
    · rw [if_neg (by omega)] at h
      rw [il_un c x e]
      exact I.2.2 j n k hj hn h
def il_qi (w : Nat) (o : Option Nat) : Option Nat := match o with
  | none => none
  | some k => if w ≤ k then some (k + 1) else some k
def il_qd (w : Nat) (o : Option Nat) : Option Nat := match o with
  | none => none
  | some k => if w < k then some (k - 1) else some k
theorem il_qi_ok {w x : Nat} (o : Option Nat) (k : Nat) (h : ∀ j, o = some j → j ≤ x) (e : il_qi w o = some k) : k ≤ x + 1 := by
  cases o with
  | none =>
    have e' : (none : Option Nat) = some k := e
    cases e'
  | some a =>
    have ha := h a rfl
    change (if w ≤ a then some (a + 1) else some a) = some k at e
    by_cases z : w ≤ a
    · rw [if_pos z] at e; cases e; omega
    · rw [if_neg z] at e; cases e; omega
theorem il_qd_ok {w x : Nat} (hw : w < x) (o : Option Nat) (k : Nat) (h : ∀ j, o = some j → j ≤ x) (e : il_qd w o = some k) : k ≤ x - 1 := by
  cases o with
  | none =>
    have e' : (none : Option Nat) = some k := e
    cases e'
  | some a =>
    have ha := h a rfl
    change (if w < a then some (a - 1) else some a) = some k at e
    by_cases z : w < a
    · rw [if_pos z] at e; cases e; omega
    · rw [if_neg z] at e; cases e; omega
theorem il_ok_add {c : Nat → Nat} {g d : Nat → Option Nat} {m s : Nat} {o : Option Nat} (I : il_ok c g d) (h8 : c m < 8) (ho : ∀ k, o = some k → k < 10) : il_ok (il_up c m (c m + 1)) (il_up g s o) d := by
  refine ⟨fun j => ?_, fun i => il_up_all (P := fun a => ∀ k, a = some k → k < 10) s I.2.1 ho i, fun j n k hj hn h => ?_⟩
  · by_cases e : j = m
    · subst e; rw [il_us]; omega
    · rw [il_un c _ e]; exact I.1 j
  · have := I.2.2 j n k hj hn h
    by_cases e : j = m
    · subst e; rw [il_us]; omega
    · rw [il_un c _ e]; exact this
theorem il_ok_name {c : Nat → Nat} {g d : Nat → Option Nat} {s : Nat} {o : Option Nat} (I : il_ok c g d) (ho : ∀ k, o = some k → k < 10) : il_ok c (il_up g s o) d :=
  ⟨I.1, fun i => il_up_all (P := fun a => ∀ k, a = some k → k < 10) s I.2.1 ho i, I.2.2⟩
theorem il_ok_def {c : Nat → Nat} {g d : Nat → Option Nat} {m n : Nat} {o : Option Nat} (I : il_ok c g d) (hm : m < 6) (hn : n < 10) (ho : ∀ k, o = some k → k ≤ c m) : il_ok c g (il_up d (10 * m + n) o) := by
  refine ⟨I.1, I.2.1, fun j b k hj hb h => ?_⟩
  by_cases e : 10 * j + b = 10 * m + n
  · have : j = m := by omega
    subst this
    rw [e, il_us] at h
    exact ho k h
  · rw [il_un d _ e] at h
    exact I.2.2 j b k hj hb h
