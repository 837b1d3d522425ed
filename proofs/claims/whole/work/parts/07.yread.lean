/-! ===== the reference's readers ===== -/
section YR
variable {c : Nat → Nat} {g : Nat → Option Nat} {v : Nat → Int32} {d : Nat → Option Nat}
theorem iy_isM {post : Int32 → Prop} {m : Nat} (hm : m < 6) (h : post 1) : wpY_isModule post (il_Y c g v d) (nI m) :=
  br_f (nI_pos (by omega)) (br_f (nI_nlt (a := 5) (by omega) (by decide)) h)
theorem iy_isMn {post : Int32 → Prop} {x : Int32} (hx : x < 0) (h : post 0) : wpY_isModule post (il_Y c g v d) x := br_t hx h
theorem iy_isMb {post : Int32 → Prop} {m : Nat} (hm : 6 ≤ m) (h2 : m < 2 ^ 31) (h : post 0) : wpY_isModule post (il_Y c g v d) (nI m) :=
  br_f (nI_pos h2) (br_t (nI_lt (a := 5) (by omega) h2) h)
theorem iy_isN {post : Int32 → Prop} {m : Nat} (hm : m < 10) (h : post 1) : wpY_isName post (il_Y c g v d) (nI m) :=
  br_f (nI_pos (by omega)) (br_f (nI_nlt (a := 9) (by omega) (by decide)) h)
theorem iy_isNn {post : Int32 → Prop} {x : Int32} (hx : x < 0) (h : post 0) : wpY_isName post (il_Y c g v d) x := br_t hx h
theorem iy_isNb {post : Int32 → Prop} {m : Nat} (hm : 10 ≤ m) (h2 : m < 2 ^ 31) (h : post 0) : wpY_isName post (il_Y c g v d) (nI m) :=
  br_f (nI_pos h2) (br_t (nI_lt (a := 9) (by omega) h2) h)
theorem iy_bg0 {post : Int32 → Prop} {m : Nat} (hm : m ≤ 6) (h : post (nI (il_S m c))) : ∀ e i, i + e = m → wY_begin_4 post (nI m) (fun i => il_yo (g i)) v (fun i => nI (c i)) (fun i => il_yo (d i)) (e + 1) (nI (il_S i c)) (nI i)
  | 0, i, hi => by
    have e : i = m := by omega
    subst e
    exact br_t (nI_le (Nat.le_refl _) (by omega)) h
  | e + 1, i, hi => by
    refine br_f (nI_ge (by omega) (by omega)) ⟨vp_in_nI (by omega) (by omega), nm_r (e' := nI (il_S (i + 1) c)) ?_ (nm_r (nI_1 i) (iy_bg0 hm h e (i + 1) (by omega)))⟩
    rw [nI_clamp (by omega)]
    exact nI_add _ _
theorem iy_bg {post : Int32 → Prop} {m : Nat} (hm : m ≤ 6) (h : post (nI (il_S m c))) : wpY_begin post (il_Y c g v d) (nI m) :=
  ⟨m + 1, iy_bg0 hm h m 0 (by omega)⟩
theorem iy_mf0 {post : Int32 → Prop} {n : Nat} (I : il_ok c g d) (hn : n < 10) : ∀ e i, i + e = 6 → post (il_yo (il_ff (fun m => (d (10 * m + n)).isSome) e i)) → wY_moduleFor_2 post (nI n) (fun i => il_yo (g i)) v (fun i => nI (c i)) (fun i => il_yo (d i)) (e + 1) (nI i)
  | 0, i, hi, h => by
    have e : i = 6 := by omega
    subst e
    exact br_t (nI_le (a := 6) (Nat.le_refl _) (by decide)) h
  | e + 1, i, hi, h => by
    refine br_f (nI_ge (b := 6) (by omega) (by decide)) ?_
    rw [il_s10' i n, nI_clamp (by omega)]
    refine ⟨vp_in_nI (by omega) (by omega), il_by (il_db I (by omega) hn) (fun z => ?_) (fun k z => ?_)⟩
    · rw [il_ff_f (P := fun m => (d (10 * m + n)).isSome) (by rw [z]; decide)] at h
      exact nm_r (nI_1 i) (iy_mf0 I hn e (i + 1) (by omega) h)
    · rw [il_ff_t (P := fun m => (d (10 * m + n)).isSome) (by rw [z]; rfl)] at h
      exact h
theorem iy_mf {post : Int32 → Prop} {n : Nat} (I : il_ok c g d) (hn : n < 10) (h : post (il_yo (il_mf d n))) : wpY_moduleFor post (il_Y c g v d) (nI n) :=
  ⟨7, iy_mf0 I hn 6 0 rfl h⟩
theorem iy_wh {post : Int32 → Prop} {n : Nat} (I : il_ok c g d) (hn : n < 10) (h : post (il_yo (il_wh c d n))) : wpY_where post (il_Y c g v d) (nI n) := by
  unfold wpY_where
  dsimp only
  refine iy_isN hn (br_f (by decide) (iy_mf I hn (il_byp il_mb (fun m y => ?_) (fun y => ?_))))
  · obtain ⟨hm, k, hk⟩ := il_mf_some y
    rw [y]
    refine iy_bg (by omega) ?_
    show vp_in (10 * nI m + nI n) 60 ∧ post (nI (il_S m c) + il_yo (d (10 * nI m + nI n).toNatClampNeg))
    rw [il_s10' m n, nI_clamp (by omega), hk]
    refine ⟨vp_in_nI (by omega) (by omega), ?_⟩
    unfold il_wh il_dd at h
    simp only [y, hk] at h
    show post (nI (il_S m c) + nI k)
    rw [nI_add]
    exact h
  · unfold il_wh at h
    simp only [y] at h
    exact h
theorem iy_vo {post : Int32 → Prop} {i : Nat} (I : il_ok c g d) (hi : i < 48) (h : post (il_wv c g v d i)) : wpY_valueOf post (il_Y c g v d) (nI i) := by
  unfold wpY_valueOf
  have hv : vp_in (nI i) 48 := vp_in_nI hi (by omega)
  have hcl : (nI i).toNatClampNeg = i := nI_clamp (by omega)
  dsimp only
  rw [hcl]
  refine ⟨hv, il_by (il_gb I i) (fun z => ⟨hv, ?_⟩) (fun k z => ⟨hv, ?_⟩)⟩
  · unfold il_wv at h
    rw [z] at h
    exact h
  · have hk := I.2.1 i k z
    rw [z]
    refine iy_wh I hk (il_byp (il_whb I hk) (fun a y => ⟨hv, ?_⟩) (fun y => ?_))
    · unfold il_wv at h
      rw [z] at h
      simp only [y] at h
      rw [y]
      exact h
    · unfold il_wv at h
      rw [z] at h
      simp only [y] at h
      exact h
end YR
