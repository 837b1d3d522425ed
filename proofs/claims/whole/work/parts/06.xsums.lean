/-! ===== the component's counting readers ===== -/
section XS
variable {c : Nat → Nat} {g : Nat → Option Nat} {v : Nat → Int32} {d : Nat → Option Nat}
theorem ix_ri0 {post : Int32 → Prop} {m n : Nat} (I : il_ok c g d) (hm : m < 6) (hn : n < 10) (h : post (nI (il_rf c g m n))) : ∀ e i, i + e = c m → wX_referencesIn_5 post (nI m) (nI n) (fun i => nI (c i)) (fun i => il_xo (g i)) v (fun i => il_xo (d i)) (e + 1) (nI (il_S i (fun w => if g (8 * m + w) = some n then 1 else 0))) (nI i)
  | 0, i, hi => by
    have h8 := I.1 m
    have e : i = c m := by omega
    subst e
    refine ⟨vp_in_nI hm (by omega), br_t ?_ h⟩
    rw [nI_clamp (by omega)]
    exact nI_le (Nat.le_refl _) (by omega)
  | e + 1, i, hi => by
    have h8 := I.1 m
    have ih := ix_ri0 I hm hn h e (i + 1) (by omega)
    refine ⟨vp_in_nI hm (by omega), br_f ?_ ?_⟩
    · rw [nI_clamp (by omega)]
      exact nI_ge (by omega) (by omega)
    · unfold wpX_wordSlot
      dsimp only
      rw [il_s8 m i, nI_clamp (by omega)]
      refine ⟨vp_in_nI (by omega) (by omega), ?_⟩
      rw [il_S_s] at ih
      by_cases q : g (8 * m + i) = some n
      · rw [if_pos q] at ih
        refine br_t (by rw [q]; rfl) (nm_r (nI_1 _) (nm_r (nI_1 i) ih))
      · rw [if_neg q] at ih
        exact br_f (il_xne (by omega) (il_gb I _) q) (nm_r (nI_1 i) ih)
theorem ix_ri {post : Int32 → Prop} {m n : Nat} (I : il_ok c g d) (hm : m < 6) (hn : n < 10) (h : post (nI (il_rf c g m n))) : wpX_referencesIn post (il_X c g v d) (nI m) (nI n) :=
  ⟨c m + 1, ix_ri0 I hm hn h (c m) 0 (by omega)⟩
theorem ix_rt0 {post : Int32 → Prop} {n : Nat} (I : il_ok c g d) (hn : n < 10) (h : post (nI (il_rt c g n))) : ∀ e i, i + e = 6 → wX_referencesTo_4 post (nI n) (fun i => nI (c i)) (fun i => il_xo (g i)) v (fun i => il_xo (d i)) (e + 1) (nI (il_S i (fun k => il_rf c g k n))) (nI i)
  | 0, i, hi => by
    have e : i = 6 := by omega
    subst e
    exact br_t (nI_le (a := 6) (Nat.le_refl _) (by decide)) h
  | e + 1, i, hi => by
    have ih := ix_rt0 I hn h e (i + 1) (by omega)
    exact br_f (nI_ge (b := 6) (by omega) (by decide)) (ix_ri I (by omega) hn (nm_r (nI_add _ _) (nm_r (nI_1 i) ih)))
theorem ix_rt {post : Int32 → Prop} {n : Nat} (I : il_ok c g d) (hn : n < 10) (h : post (nI (il_rt c g n))) : wpX_referencesTo post (il_X c g v d) (nI n) :=
  ⟨7, ix_rt0 I hn h 6 0 rfl⟩
theorem ix_mr0 {post : Int32 → Prop} {n : Nat} (I : il_ok c g d) (hn : n < 10) (h : post (il_mr c g n)) : ∀ e i, i + e = 6 → wX_modulesReferringTo_4 post (nI n) (fun i => nI (c i)) (fun i => il_xo (g i)) v (fun i => il_xo (d i)) (e + 1) (il_O i (fun k => if 0 < il_rf c g k n then il_sh k else 0)) (nI i)
  | 0, i, hi => by
    have e : i = 6 := by omega
    subst e
    exact br_t (nI_le (a := 6) (Nat.le_refl _) (by decide)) h
  | e + 1, i, hi => by
    have ih := ix_mr0 I hn h e (i + 1) (by omega)
    have h8 := il_rf_le g i n I.1
    refine br_f (nI_ge (b := 6) (by omega) (by decide)) (ix_ri I (by omega) hn ?_)
    rw [il_O_s] at ih
    by_cases q : 0 < il_rf c g i n
    · rw [if_pos q] at ih
      exact br_f (nI_nle q (by omega)) (nm_r rfl (nm_r (nI_1 i) ih))
    · rw [if_neg q, Int32.or_zero] at ih
      have z : il_rf c g i n = 0 := by omega
      exact br_t (by rw [z]; decide) (nm_r (nI_1 i) ih)
theorem ix_mr {post : Int32 → Prop} {n : Nat} (I : il_ok c g d) (hn : n < 10) (h : post (il_mr c g n)) : wpX_modulesReferringTo post (il_X c g v d) (nI n) :=
  ⟨7, ix_mr0 I hn h 6 0 rfl⟩
theorem ix_do0 {post : Int32 → Prop} {n : Nat} (I : il_ok c g d) (hn : n < 10) (h : post (nI (il_df d n))) : ∀ e i, i + e = 6 → wX_definitionsOf_4 post (nI n) (fun i => nI (c i)) (fun i => il_xo (g i)) v (fun i => il_xo (d i)) (e + 1) (nI (il_S i (fun m => if (d (10 * m + n)).isSome = true then 1 else 0))) (nI i)
  | 0, i, hi => by
    have e : i = 6 := by omega
    subst e
    exact br_t (nI_le (a := 6) (Nat.le_refl _) (by decide)) h
  | e + 1, i, hi => by
    have ih := ix_do0 I hn h e (i + 1) (by omega)
    rw [il_S_s] at ih
    refine br_f (nI_ge (b := 6) (by omega) (by decide)) ?_
    unfold wpX_definitionSlot
    dsimp only
    rw [il_s10 i n, nI_clamp (by omega)]
    refine ⟨vp_in_nI (by omega) (by omega), il_bx (il_db I (by omega) hn) (fun z => ?_) (fun k z => ?_)⟩
    · rw [if_neg (by rw [z]; decide)] at ih
      exact nm_r (nI_1 i) ih
    · rw [if_pos (by rw [z]; rfl)] at ih
      exact nm_r (nI_1 _) (nm_r (nI_1 i) ih)
theorem ix_do {post : Int32 → Prop} {n : Nat} (I : il_ok c g d) (hn : n < 10) (h : post (nI (il_df d n))) : wpX_definitionsOf post (il_X c g v d) (nI n) :=
  ⟨7, ix_do0 I hn h 6 0 rfl⟩
theorem ix_un0 {post : Int32 → Prop} (I : il_ok c g d) (h : post (nI (il_S 10 (fun n => if il_mf d n = none then il_rt c g n else 0)))) : ∀ e i, i + e = 10 → wX_undefined_4 post (fun i => nI (c i)) (fun i => il_xo (g i)) v (fun i => il_xo (d i)) (e + 1) (nI (il_S i (fun n => if il_mf d n = none then il_rt c g n else 0))) (nI i)
  | 0, i, hi => by
    have e : i = 10 := by omega
    subst e
    exact br_t (nI_le (a := 10) (Nat.le_refl _) (by decide)) h
  | e + 1, i, hi => by
    have ih := ix_un0 I h e (i + 1) (by omega)
    rw [il_S_s] at ih
    refine br_f (nI_ge (b := 10) (by omega) (by decide)) (ix_cm I (by omega) (il_bx il_mb (fun z => ?_) (fun k z => ?_)))
    · rw [if_pos z] at ih
      exact ix_rt I (by omega) (nm_r (nI_add _ _) (nm_r (nI_1 i) ih))
    · rw [if_neg (by rw [z]; intro y; cases y)] at ih
      exact nm_r (nI_1 i) ih
theorem ix_un {post : Int32 → Prop} (I : il_ok c g d) (h : post (nI (il_S 10 (fun n => if il_mf d n = none then il_rt c g n else 0)))) : wpX_undefined post (il_X c g v d) :=
  ⟨11, ix_un0 I h 10 0 rfl⟩
theorem ix_id0 {post : Int32 → Prop} (I : il_ok c g d) (h : post (nI (il_S 10 (fun n => il_df d n - 1)))) : ∀ e i, i + e = 10 → wX_idle_4 post (fun i => nI (c i)) (fun i => il_xo (g i)) v (fun i => il_xo (d i)) (e + 1) (nI (il_S i (fun n => il_df d n - 1))) (nI i)
  | 0, i, hi => by
    have e : i = 10 := by omega
    subst e
    exact br_t (nI_le (a := 10) (Nat.le_refl _) (by decide)) h
  | e + 1, i, hi => by
    have ih := ix_id0 I h e (i + 1) (by omega)
    rw [il_S_s] at ih
    have hd := il_df_le d i
    refine br_f (nI_ge (b := 10) (by omega) (by decide)) (ix_do I (by omega) ?_)
    by_cases q : il_df d i ≤ 1
    · rw [show il_df d i - 1 = 0 from by omega, Nat.add_zero] at ih
      exact br_t (nI_le (b := 1) q (by decide)) (nm_r (nI_1 i) ih)
    · refine br_f (nI_ge (a := 1) (by omega) (by omega)) (nm_r ?_ (nm_r (nI_1 i) ih))
      rw [show (1 : Int32) = nI 1 from rfl, pk_sub (by omega), nI_add]
theorem ix_id {post : Int32 → Prop} (I : il_ok c g d) (h : post (nI (il_S 10 (fun n => il_df d n - 1)))) : wpX_idle post (il_X c g v d) :=
  ⟨11, ix_id0 I h 10 0 rfl⟩
theorem ix_us0 {post : Int32 → Prop} {m : Nat} (I : il_ok c g d) (hm : m < 6) (h : post (il_O 10 (fun n => if il_mf d n = some m then il_mr c g n else 0))) : ∀ e i, i + e = 10 → wX_users_13 post (nI m) (fun i => nI (c i)) (fun i => il_xo (g i)) v (fun i => il_xo (d i)) (e + 1) (il_O i (fun n => if il_mf d n = some m then il_mr c g n else 0)) (nI i)
  | 0, i, hi => by
    have e : i = 10 := by omega
    subst e
    exact br_t (nI_le (a := 10) (Nat.le_refl _) (by decide)) h
  | e + 1, i, hi => by
    have ih := ix_us0 I hm h e (i + 1) (by omega)
    rw [il_O_s] at ih
    refine br_f (nI_ge (b := 10) (by omega) (by decide)) (ix_cm I (by omega) ?_)
    by_cases q : il_mf d i = some m
    · rw [if_pos q] at ih
      exact br_t (by rw [q]; rfl) (ix_mr I (by omega) (nm_r rfl (nm_r (nI_1 i) ih)))
    · rw [if_neg q, Int32.or_zero] at ih
      exact br_f (il_xne (by omega) il_mb q) (nm_r (nI_1 i) ih)
theorem ix_us {post : Int32 → Prop} {m : Nat} (I : il_ok c g d) (hm : m < 6) (h : post (il_O 10 (fun n => if il_mf d n = some m then il_mr c g n else 0))) : wpX_users post (il_X c g v d) (nI m) := by
  unfold wpX_users
  dsimp only
  exact ix_isM hm (br_f (by decide) ⟨11, ix_us0 I hm h 10 0 rfl⟩)
theorem ix_di1 {post : Int32 → Prop} {J : Int32 → Int32 → Int32 → Prop} {m : Nat} (I : il_ok c g d) (hm : m < 6) (h : J (il_D (il_S (m + 1) c) (il_F c g v d)) (nI (il_S (m + 1) c)) (nI (m + 1))) : ∀ e i, i + e = c m → wX_digest_15 post J (nI m) (fun i => nI (c i)) (fun i => il_xo (g i)) v (fun i => il_xo (d i)) (e + 1) (il_D (il_S m c + i) (il_F c g v d)) (nI (il_S m c + i)) (nI i)
  | 0, i, hi => by
    have h8 := I.1 m
    have e : i = c m := by omega
    subst e
    refine ⟨vp_in_nI hm (by omega), br_t ?_ (nm_r (nI_1 m) h)⟩
    rw [nI_clamp (by omega)]
    exact nI_le (Nat.le_refl _) (by omega)
  | e + 1, i, hi => by
    have h8 := I.1 m
    have ih := ix_di1 (post := post) I hm h e (i + 1) (by omega)
    refine ⟨vp_in_nI hm (by omega), br_f ?_ (ix_wv I hm (by omega) (nm_r ?_ (nm_r (nI_1 _) (nm_r (nI_1 i) ih))))⟩
    · rw [nI_clamp (by omega)]
      exact nI_ge (by omega) (by omega)
    · show _ = il_D (il_S m c + i) (il_F c g v d) + il_F c g v d (il_S m c + i)
      unfold il_F
      rw [il_val_at g v d hm (by omega), nI_1]
theorem ix_di0 {post : Int32 → Prop} (I : il_ok c g d) (h : post (il_D (il_S 6 c) (il_F c g v d))) : ∀ e i, i + e = 6 → wX_digest_6 post (fun i => nI (c i)) (fun i => il_xo (g i)) v (fun i => il_xo (d i)) (e + 1) (il_D (il_S i c) (il_F c g v d)) (nI (il_S i c)) (nI i)
  | 0, i, hi => by
    have e : i = 6 := by omega
    subst e
    exact br_t (nI_le (a := 6) (Nat.le_refl _) (by decide)) h
  | e + 1, i, hi => by
    have ih := ix_di0 I h e (i + 1) (by omega)
    exact br_f (nI_ge (b := 6) (by omega) (by decide)) ⟨c i + 1, ix_di1 I (by omega) ih (c i) 0 (by omega)⟩
theorem ix_di {post : Int32 → Prop} (I : il_ok c g d) (h : post (il_D (il_S 6 c) (il_F c g v d))) : wpX_digest post (il_X c g v d) :=
  ⟨7, ix_di0 I h 6 0 rfl⟩
end XS
