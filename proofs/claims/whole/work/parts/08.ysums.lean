/-! ===== the reference's places and counts ===== -/
section YS
variable {c : Nat → Nat} {g : Nat → Option Nat} {v : Nat → Int32} {d : Nat → Option Nat}
theorem iy_mo0 {post : Int32 → Prop} {p : Nat} (hc : ∀ m, c m ≤ 8) (hp : p < 2 ^ 31) : ∀ e i, i + e = 6 → il_S i c ≤ p → post (il_yo (il_ff (fun m => decide (p < il_S (m + 1) c)) e i)) → wY_moduleOf_2 post (nI p) (fun i => il_yo (g i)) v (fun i => nI (c i)) (fun i => il_yo (d i)) (e + 1) (nI i)
  | 0, i, hi, _, h => by
    have e : i = 6 := by omega
    subst e
    exact br_t (nI_le (a := 6) (Nat.le_refl _) (by decide)) h
  | e + 1, i, hi, hs, h => by
    have hb := il_S48 hc (m := i + 1) (by omega)
    have hb' : il_S i c + c i ≤ 48 := hb
    refine br_f (nI_ge (b := 6) (by omega) (by decide)) (iy_bg (by omega) (br_f (nI_nlt hs hp) ⟨vp_in_nI (by omega) (by omega), ?_⟩))
    rw [nI_clamp (by omega), nI_add]
    by_cases q : p < il_S (i + 1) c
    · rw [il_ff_t (P := fun m => decide (p < il_S (m + 1) c)) (decide_eq_true q)] at h
      exact br_f (nI_ge q (by omega)) h
    · rw [il_ff_f (P := fun m => decide (p < il_S (m + 1) c)) (by rw [decide_eq_false q]; decide)] at h
      exact br_t (nI_le (by have q' : ¬ p < il_S i c + c i := q; omega) hp) (nm_r (nI_1 i) (iy_mo0 hc hp e (i + 1) (by omega) (by omega) h))
theorem iy_mo {post : Int32 → Prop} {p : Nat} (hc : ∀ m, c m ≤ 8) (hp : p < 2 ^ 31) (h : post (il_yo (il_mo c p))) : wpY_moduleOf post (il_Y c g v d) (nI p) :=
  ⟨7, iy_mo0 hc hp 6 0 rfl (Nat.zero_le p) h⟩
theorem iy_mon0 {post : Int32 → Prop} {x : Int32} (hc : ∀ m, c m ≤ 8) (hx : x < 0) (h : post (-4)) : ∀ e i, i + e = 6 → wY_moduleOf_2 post x (fun i => il_yo (g i)) v (fun i => nI (c i)) (fun i => il_yo (d i)) (e + 1) (nI i)
  | 0, i, hi => by
    have e : i = 6 := by omega
    subst e
    exact br_t (nI_le (a := 6) (Nat.le_refl _) (by decide)) h
  | e + 1, i, hi => by
    have hb := il_S48 hc (m := i) (by omega)
    have hx2 : x < nI (il_S i c) := by
      rw [Int32.lt_iff_toInt_lt] at hx ⊢
      rw [nI_toInt (by omega)]
      rw [show (0 : Int32).toInt = 0 from by decide] at hx
      omega
    exact br_f (nI_ge (b := 6) (by omega) (by decide)) (iy_bg (by omega) (br_t hx2 (nm_r (nI_1 i) (iy_mon0 hc hx h e (i + 1) (by omega)))))
theorem iy_mon {post : Int32 → Prop} {x : Int32} (hc : ∀ m, c m ≤ 8) (hx : x < 0) (h : post (-4)) : wpY_moduleOf post (il_Y c g v d) x :=
  ⟨7, iy_mon0 hc hx h 6 0 rfl⟩
theorem iy_va {post : Int32 → Prop} {p : Nat} (I : il_ok c g d) (hp : p < 2 ^ 31) (h : post (il_val c g v d p)) : wpY_value post (il_Y c g v d) (nI p) := by
  unfold wpY_value
  dsimp only
  refine iy_mo I.1 hp (il_byp (fun k z => by have := (il_mo_some z).1; omega) (fun m y => ?_) (fun y => ?_))
  · obtain ⟨hm, h1, h2⟩ := il_mo_some y
    rw [y]
    refine iy_bg (by omega) ?_
    have h3 : p < il_S m c + c m := h2
    have h8 := I.1 m
    have e : 8 * il_yo (some m) + nI p - nI (il_S m c) = nI (8 * m + (p - il_S m c)) := by
      show 8 * nI m + nI p - nI (il_S m c) = _
      rw [il_s8', pk_sub (by omega)]
      exact congrArg nI (by omega)
    rw [e]
    refine iy_vo I (by omega) ?_
    unfold il_val at h
    rw [y] at h
    exact h
  · unfold il_val at h
    rw [y] at h
    exact h
theorem iy_van {post : Int32 → Prop} {x : Int32} (I : il_ok c g d) (hx : x < 0) (h : post 0) : wpY_value post (il_Y c g v d) x := by
  unfold wpY_value
  dsimp only
  exact iy_mon I.1 hx (br_f (by decide) h)
theorem iy_un0 {post : Int32 → Prop} (I : il_ok c g d) (h : post (nI (il_S 48 (fun i => if i % 8 < c (i / 8) then (if il_ud d (g i) = true then 1 else 0) else 0)))) : ∀ e i, i + e = 48 → wY_undefined_4 post (fun i => il_yo (g i)) v (fun i => nI (c i)) (fun i => il_yo (d i)) (e + 1) (nI (il_S i (fun i => if i % 8 < c (i / 8) then (if il_ud d (g i) = true then 1 else 0) else 0))) (nI i)
  | 0, i, hi => by
    have e : i = 48 := by omega
    subst e
    exact br_t (nI_le (a := 48) (Nat.le_refl _) (by decide)) h
  | e + 1, i, hi => by
    have ih := iy_un0 I h e (i + 1) (by omega)
    rw [il_S_s] at ih
    have h8 := I.1 (i / 8)
    refine br_f (nI_ge (b := 48) (by omega) (by decide)) ?_
    rw [il_rm8 (by omega), il_dv8 (by omega), nI_clamp (n := i / 8) (by omega)]
    refine ⟨by decide, by decide, vp_in_nI (by omega) (by omega), ?_⟩
    by_cases q : i % 8 < c (i / 8)
    · rw [if_pos q] at ih
      refine br_f (nI_ge q (by omega)) ⟨vp_in_nI (by omega) (by omega), ?_⟩
      rw [nI_clamp (by omega)]
      refine il_by (il_gb I i) (fun z => ?_) (fun k z => ⟨vp_in_nI (by omega) (by omega), ?_⟩)
      · rw [z] at ih
        exact nm_r (nI_1 i) ih
      · have hk := I.2.1 i k z
        dsimp only
        rw [z]
        refine iy_mf I hk (il_byp il_mb (fun a y => ?_) (fun y => ?_))
        · rw [if_neg (by rw [z]; show ¬ (il_mf d k).isNone = true; rw [y]; exact Bool.false_ne_true)] at ih
          exact nm_r (nI_1 i) ih
        · rw [if_pos (by rw [z]; show (il_mf d k).isNone = true; rw [y]; rfl)] at ih
          exact nm_r (nI_1 _) (nm_r (nI_1 i) ih)
    · rw [if_neg q] at ih
      exact br_t (nI_le (by omega) (by omega)) (nm_r (nI_1 i) ih)
theorem iy_un {post : Int32 → Prop} (I : il_ok c g d) (h : post (nI (il_S 48 (fun i => if i % 8 < c (i / 8) then (if il_ud d (g i) = true then 1 else 0) else 0)))) : wpY_undefined post (il_Y c g v d) :=
  ⟨49, iy_un0 I h 48 0 rfl⟩
theorem iy_id0 {post : Int32 → Prop} (I : il_ok c g d) (h : post (nI (il_S 60 (il_id d)))) : ∀ e i, i + e = 60 → wY_idle_4 post (fun i => il_yo (g i)) v (fun i => nI (c i)) (fun i => il_yo (d i)) (e + 1) (nI (il_S i (il_id d))) (nI i)
  | 0, i, hi => by
    have e : i = 60 := by omega
    subst e
    exact br_t (nI_le (a := 60) (Nat.le_refl _) (by decide)) h
  | e + 1, i, hi => by
    have ih := iy_id0 I h e (i + 1) (by omega)
    rw [il_S_s] at ih
    unfold il_id at ih
    have hdb : ∀ k, d i = some k → k < 2 ^ 31 := by
      have := il_db I (m := i / 10) (n := i % 10) (by omega) (by omega)
      rw [show 10 * (i / 10) + i % 10 = i from by omega] at this
      exact this
    refine br_f (nI_ge (b := 60) (by omega) (by decide)) ⟨vp_in_nI (by omega) (by omega), ?_⟩
    rw [il_rm10 (by omega), il_dv10 (by omega), nI_clamp (n := i) (by omega)]
    refine il_by hdb (fun z => ?_) (fun k z => ⟨by decide, iy_mf I (by omega) ⟨by decide, ?_⟩⟩)
    · rw [if_neg (by rw [z]; decide)] at ih
      exact nm_r (nI_1 i) ih
    · rw [if_pos (by rw [z]; rfl)] at ih
      by_cases q : il_mf d (i % 10) = some (i / 10)
      · rw [if_pos q] at ih
        exact br_t (by rw [q]; rfl) (nm_r (nI_1 i) ih)
      · rw [if_neg q] at ih
        exact br_f (il_yne (by omega) il_mb q) (nm_r (nI_1 _) (nm_r (nI_1 i) ih))
theorem iy_id {post : Int32 → Prop} (I : il_ok c g d) (h : post (nI (il_S 60 (il_id d)))) : wpY_idle post (il_Y c g v d) :=
  ⟨61, iy_id0 I h 60 0 rfl⟩
theorem iy_ut0 {post : Int32 → Prop} {n : Nat} (I : il_ok c g d) (hn : n < 10) (h : post (nI (il_S 48 (fun i => if i % 8 < c (i / 8) then (if g i = some n then 1 else 0) else 0)))) : ∀ e i, i + e = 48 → wY_uses_14 post (nI n) (fun i => il_yo (g i)) v (fun i => nI (c i)) (fun i => il_yo (d i)) (e + 1) (nI (il_S i (fun i => if i % 8 < c (i / 8) then (if g i = some n then 1 else 0) else 0))) (nI i)
  | 0, i, hi => by
    have e : i = 48 := by omega
    subst e
    exact br_t (nI_le (a := 48) (Nat.le_refl _) (by decide)) h
  | e + 1, i, hi => by
    have ih := iy_ut0 I hn h e (i + 1) (by omega)
    rw [il_S_s] at ih
    have h8 := I.1 (i / 8)
    refine br_f (nI_ge (b := 48) (by omega) (by decide)) ?_
    rw [il_rm8 (by omega), il_dv8 (by omega), nI_clamp (n := i / 8) (by omega)]
    refine ⟨by decide, by decide, vp_in_nI (by omega) (by omega), ?_⟩
    by_cases q : i % 8 < c (i / 8)
    · rw [if_pos q] at ih
      refine br_f (nI_ge q (by omega)) ⟨vp_in_nI (by omega) (by omega), ?_⟩
      rw [nI_clamp (by omega)]
      by_cases z : g i = some n
      · rw [if_pos z] at ih
        exact br_t (by show il_yo (g i) = nI n; rw [z]; rfl) (nm_r (nI_1 _) (nm_r (nI_1 i) ih))
      · rw [if_neg z] at ih
        exact br_f (il_yne (by omega) (il_gb I i) z) (nm_r (nI_1 i) ih)
    · rw [if_neg q] at ih
      exact br_t (nI_le (by omega) (by omega)) (nm_r (nI_1 i) ih)
theorem iy_ut {post : Int32 → Prop} {n : Nat} (I : il_ok c g d) (hn : n < 10) (h : post (nI (il_S 48 (fun i => if i % 8 < c (i / 8) then (if g i = some n then 1 else 0) else 0)))) : wpY_uses post (il_Y c g v d) (nI n) := by
  unfold wpY_uses
  dsimp only
  exact iy_isN hn (br_f (by decide) ⟨49, iy_ut0 I hn h 48 0 rfl⟩)
theorem iy_us0 {post : Int32 → Prop} {m : Nat} (I : il_ok c g d) (hm : m < 6) (h : post (il_O 48 (fun i => if i % 8 < c (i / 8) ∧ il_ub d m (g i) = true then il_sh (i / 8) else 0))) : ∀ e i, i + e = 48 → wY_users_14 post (nI m) (fun i => il_yo (g i)) v (fun i => nI (c i)) (fun i => il_yo (d i)) (e + 1) (il_O i (fun i => if i % 8 < c (i / 8) ∧ il_ub d m (g i) = true then il_sh (i / 8) else 0)) (nI i)
  | 0, i, hi => by
    have e : i = 48 := by omega
    subst e
    exact br_t (nI_le (a := 48) (Nat.le_refl _) (by decide)) h
  | e + 1, i, hi => by
    have ih := iy_us0 I hm h e (i + 1) (by omega)
    rw [il_O_s] at ih
    have h8 := I.1 (i / 8)
    refine br_f (nI_ge (b := 48) (by omega) (by decide)) ?_
    rw [il_rm8 (by omega), il_dv8 (by omega), nI_clamp (n := i / 8) (by omega)]
    refine ⟨by decide, by decide, vp_in_nI (by omega) (by omega), ?_⟩
    by_cases q : i % 8 < c (i / 8)
    · refine br_f (nI_ge q (by omega)) ⟨vp_in_nI (by omega) (by omega), ?_⟩
      rw [nI_clamp (n := i) (by omega)]
      refine il_by (il_gb I i) (fun z => ?_) (fun k z => ⟨vp_in_nI (by omega) (by omega), ?_⟩)
      · rw [if_neg (by rw [z]; intro y; have y2 : false = true := y.2; cases y2), Int32.or_zero] at ih
        exact nm_r (nI_1 i) ih
      · have hk := I.2.1 i k z
        dsimp only
        rw [z]
        refine iy_mf I hk ?_
        by_cases y : il_mf d k = some m
        · rw [if_pos ⟨q, by rw [z]; exact decide_eq_true y⟩] at ih
          exact br_t (by rw [y]; rfl) ⟨by decide, nm_r rfl (nm_r (nI_1 i) ih)⟩
        · rw [if_neg (by rw [z]; intro t; exact y (of_decide_eq_true t.2)), Int32.or_zero] at ih
          exact br_f (il_yne (by omega) il_mb y) (nm_r (nI_1 i) ih)
    · rw [if_neg (fun t => q t.1), Int32.or_zero] at ih
      exact br_t (nI_le (by omega) (by omega)) (nm_r (nI_1 i) ih)
theorem iy_us {post : Int32 → Prop} {m : Nat} (I : il_ok c g d) (hm : m < 6) (h : post (il_O 48 (fun i => if i % 8 < c (i / 8) ∧ il_ub d m (g i) = true then il_sh (i / 8) else 0))) : wpY_users post (il_Y c g v d) (nI m) := by
  unfold wpY_users
  dsimp only
  exact iy_isM hm (br_f (by decide) ⟨49, iy_us0 I hm h 48 0 rfl⟩)
theorem iy_di0 {post : Int32 → Prop} (I : il_ok c g d) (h : post (il_D 48 (il_F c g v d))) : ∀ e i, i + e = 48 → wY_digest_4 post (fun i => il_yo (g i)) v (fun i => nI (c i)) (fun i => il_yo (d i)) (e + 1) (il_D i (il_F c g v d)) (nI i)
  | 0, i, hi => by
    have e : i = 48 := by omega
    subst e
    exact br_t (nI_le (a := 48) (Nat.le_refl _) (by decide)) h
  | e + 1, i, hi => by
    have ih := iy_di0 I h e (i + 1) (by omega)
    refine br_f (nI_ge (b := 48) (by omega) (by decide)) (iy_va I (by omega) (nm_r ?_ (nm_r (nI_1 i) ih)))
    rw [nI_1 i]
    rfl
theorem iy_di {post : Int32 → Prop} (I : il_ok c g d) (h : post (il_D 48 (il_F c g v d))) : wpY_digest post (il_Y c g v d) :=
  ⟨49, iy_di0 I h 48 0 rfl⟩
end YS
