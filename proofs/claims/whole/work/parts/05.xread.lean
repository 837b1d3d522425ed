/-! ===== the component's readers ===== -/
abbrev il_X (c : Nat → Nat) (g : Nat → Option Nat) (v : Nat → Int32) (d : Nat → Option Nat) : SX := ((fun i => nI (c i)), (fun i => il_xo (g i)), v, (fun i => il_xo (d i)))
abbrev il_Y (c : Nat → Nat) (g : Nat → Option Nat) (v : Nat → Int32) (d : Nat → Option Nat) : SY := ((fun i => il_yo (g i)), v, (fun i => nI (c i)), (fun i => il_yo (d i)))
section XR
variable {c : Nat → Nat} {g : Nat → Option Nat} {v : Nat → Int32} {d : Nat → Option Nat}
theorem ix_isM {post : Int32 → Prop} {m : Nat} (hm : m < 6) (h : post 1) : wpX_isModule post (nI m) :=
  br_f (nI_pos (by omega)) (br_f (nI_ge (b := 6) hm (by decide)) h)
theorem ix_isMn {post : Int32 → Prop} {x : Int32} (hx : x < 0) (h : post 0) : wpX_isModule post x := br_t hx h
theorem ix_isMb {post : Int32 → Prop} {m : Nat} (hm : 6 ≤ m) (h2 : m < 2 ^ 31) (h : post 0) : wpX_isModule post (nI m) :=
  br_f (nI_pos h2) (br_t (nI_le (a := 6) hm h2) h)
theorem ix_isN {post : Int32 → Prop} {m : Nat} (hm : m < 10) (h : post 1) : wpX_isName post (nI m) :=
  br_f (nI_pos (by omega)) (br_f (nI_ge (b := 10) hm (by decide)) h)
theorem ix_isNn {post : Int32 → Prop} {x : Int32} (hx : x < 0) (h : post 0) : wpX_isName post x := br_t hx h
theorem ix_isNb {post : Int32 → Prop} {m : Nat} (hm : 10 ≤ m) (h2 : m < 2 ^ 31) (h : post 0) : wpX_isName post (nI m) :=
  br_f (nI_pos h2) (br_t (nI_le (a := 10) hm h2) h)
theorem ix_wb0 {post : Int32 → Prop} {m : Nat} (hm : m ≤ 6) (h : post (nI (il_S m c))) : ∀ e i, i + e = m → wX_wordsBefore_4 post (nI m) (fun i => nI (c i)) (fun i => il_xo (g i)) v (fun i => il_xo (d i)) (e + 1) (nI (il_S i c)) (nI i)
  | 0, i, hi => by
    obtain rfl : i = m := by omega
    exact br_t (nI_le (Nat.le_refl _) (by omega)) h
  | e + 1, i, hi => by
    refine br_f (nI_ge (by omega) (by omega)) ⟨vp_in_nI (by omega) (by omega), nm_r (e' := nI (il_S (i + 1) c)) ?_ (nm_r (nI_1 i) (ix_wb0 hm h e (i + 1) (by omega)))⟩
    rw [nI_clamp (by omega)]
    exact nI_add _ _
theorem ix_wb {post : Int32 → Prop} {m : Nat} (hm : m ≤ 6) (h : post (nI (il_S m c))) : wpX_wordsBefore post (il_X c g v d) (nI m) :=
  ⟨m + 1, ix_wb0 hm h m 0 (by omega)⟩
theorem ix_ma0 {post : Int32 → Prop} {p : Nat} (hc : ∀ m, c m ≤ 8) (hp : p < 2 ^ 31) : ∀ e i, i + e = 6 → post (il_xo (il_ff (fun m => decide (p < il_S (m + 1) c)) e i)) → wX_moduleAt_10 post (nI p) (fun i => nI (c i)) (fun i => il_xo (g i)) v (fun i => il_xo (d i)) (e + 1) (nI (il_S i c)) (nI i)
  | 0, i, hi, h => by
    obtain rfl : i = 6 := by omega
    exact br_t (nI_le (a := 6) (Nat.le_refl _) (by decide)) h
  | e + 1, i, hi, h => by
    have hb := il_S48 hc (m := i + 1) (by omega)
    refine br_f (nI_ge (b := 6) (by omega) (by decide)) ⟨vp_in_nI (by omega) (by omega), nm_r (e' := nI (il_S (i + 1) c)) ?_ ?_⟩
    · rw [nI_clamp (by omega)]
      exact nI_add _ _
    · by_cases q : p < il_S (i + 1) c
      · rw [il_ff_t (decide_eq_true q)] at h
        exact br_f (nI_ge q (by omega)) h
      · rw [il_ff_f (P := fun m => decide (p < il_S (m + 1) c)) (by rw [decide_eq_false q]; decide)] at h
        exact br_t (nI_le (by omega) hp) (nm_r (nI_1 i) (ix_ma0 hc hp e (i + 1) (by omega) h))
theorem ix_ma {post : Int32 → Prop} {p : Nat} (hc : ∀ m, c m ≤ 8) (hp : p < 2 ^ 31) (h : post (il_xo (il_mo c p))) : wpX_moduleAt post (il_X c g v d) (nI p) :=
  br_t (nI_pos' hp) ⟨7, ix_ma0 hc hp 6 0 rfl h⟩
theorem ix_man {post : Int32 → Prop} {x : Int32} (hx : x < 0) (h : post (-1)) : wpX_moduleAt post (il_X c g v d) x :=
  br_f (Int32.not_le.mpr hx) h
theorem ix_cm0 {post : Int32 → Prop} {n : Nat} (I : il_ok c g d) (hn : n < 10) : ∀ e i, i + e = 6 → post (il_xo (il_ff (fun m => (d (10 * m + n)).isSome) e i)) → wX_countingModule_2 post (nI n) (fun i => nI (c i)) (fun i => il_xo (g i)) v (fun i => il_xo (d i)) (e + 1) (nI i)
  | 0, i, hi, h => by
    obtain rfl : i = 6 := by omega
    exact br_t (nI_le (a := 6) (Nat.le_refl _) (by decide)) h
  | e + 1, i, hi, h => by
    have hs := il_s10 i n
    refine br_f (nI_ge (b := 6) (by omega) (by decide)) ?_
    unfold wpX_definitionSlot
    dsimp only
    rw [hs, nI_clamp (by omega)]
    refine ⟨vp_in_nI (by omega) (by omega), il_bx (il_db I (by omega) hn) (fun z => ?_) (fun k z => ?_)⟩
    · rw [il_ff_f (P := fun m => (d (10 * m + n)).isSome) (by rw [z]; decide)] at h
      exact nm_r (nI_1 i) (ix_cm0 I hn e (i + 1) (by omega) h)
    · rw [il_ff_t (P := fun m => (d (10 * m + n)).isSome) (by rw [z]; rfl)] at h
      exact h
theorem ix_cm {post : Int32 → Prop} {n : Nat} (I : il_ok c g d) (hn : n < 10) (h : post (il_xo (il_mf d n))) : wpX_countingModule post (il_X c g v d) (nI n) :=
  ⟨7, ix_cm0 I hn 6 0 rfl h⟩
theorem ix_na {post : Int32 → Prop} {m n k : Nat} (hm : m < 6) (hn : n < 10) (hk : d (10 * m + n) = some k) (h : post (nI (il_S m c + k))) : wpX_nameAddress post (il_X c g v d) (nI m) (nI n) := by
  unfold wpX_nameAddress wpX_definitionSlot
  dsimp only
  refine ix_wb (by omega) ?_
  rw [il_s10 m n, nI_clamp (by omega), hk]
  refine ⟨vp_in_nI (by omega) (by omega), ?_⟩
  show post (nI (il_S m c) + nI k)
  rw [nI_add]
  exact h
theorem ix_wv {post : Int32 → Prop} {m w : Nat} (I : il_ok c g d) (hm : m < 6) (hw : w < 8) (h : post (il_wv c g v d (8 * m + w))) : wpX_wordValue post (il_X c g v d) (nI m) (nI w) := by
  unfold wpX_wordValue wpX_wordSlot
  dsimp only
  rw [il_s8 m w, nI_clamp (by omega)]
  refine ⟨vp_in_nI (by omega) (by omega), nm_e (il_bx (il_gb I _) (fun z => ?_) (fun k z => ?_))⟩
  · refine ⟨vp_in_nI (by omega) (by omega), ?_⟩
    unfold il_wv at h
    rw [z] at h
    exact h
  · have hk := I.2.1 _ _ z
    rw [z]
    refine ix_cm I hk (il_bx il_mb (fun y => ?_) (fun a y => ?_))
    · unfold il_wv il_wh at h
      rw [z] at h
      simp only [y] at h
      exact h
    · obtain ⟨ha, b, hb⟩ := il_mf_some y
      rw [y]
      refine ix_na ha hk hb ⟨vp_in_nI (by omega) (by omega), ?_⟩
      unfold il_wv il_wh il_dd at h
      rw [z] at h
      simp only [y, hb] at h
      exact h
end XR
