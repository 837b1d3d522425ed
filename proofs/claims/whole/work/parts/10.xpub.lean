/-! ===== the component's public methods ===== -/
section XP
variable {c : Nat → Nat} {g : Nat → Option Nat} {v : Nat → Int32} {d : Nat → Option Nat}
theorem ix_isMx {post : Int32 → Prop} {x : Int32} (hx : il_bad 6 x) (h : post 0) : wpX_isModule post x := by
  rcases hx with hx | ⟨j, h1, h2, rfl⟩
  · exact ix_isMn hx h
  · exact ix_isMb h1 h2 h
theorem ix_isNx {post : Int32 → Prop} {x : Int32} (hx : il_bad 10 x) (h : post 0) : wpX_isName post x := by
  rcases hx with hx | ⟨j, h1, h2, rfl⟩
  · exact ix_isNn hx h
  · exact ix_isNb h1 h2 h
theorem ix_hwx {post : Int32 → Prop} {m : Nat} {x : Int32} (hm : m < 6) (hx : il_bad (c m) x) (h : post 0) : wpX_hasWord post (il_X c g v d) (nI m) x := by
  rcases hx with hx | ⟨j, h1, h2, rfl⟩
  · exact ix_hwn hx h
  · exact ix_hwb hm h1 h2 h
theorem ix_hex {post : Int32 → Prop} {m : Nat} {x : Int32} (hm : m < 6) (hx : il_bad (c m + 1) x) (h : post 0) : wpX_hasWordOrEnd post (il_X c g v d) (nI m) x := by
  rcases hx with hx | ⟨j, h1, h2, rfl⟩
  · exact ix_hen hx h
  · exact ix_heb hm h1 h2 h
theorem ix_co {post : Int32 → SX → Prop} {m : Nat} {x : Int32} (hm : m < 6) (h8 : c m < 8) (h : post (nI (c m + 1)) (il_X (il_up c m (c m + 1)) (il_up g (8 * m + c m) none) (il_up v (8 * m + c m) x) d)) : wpX_constant post (il_X c g v d) (nI m) x := by
  unfold wpX_constant
  dsimp only
  exact ix_isM hm (br_f (by decide) (ix_ap (o := none) hm h8 h))
theorem ix_coF {post : Int32 → SX → Prop} {m : Nat} {x : Int32} (hm : m < 6) (h8 : c m = 8) (h : post (-2) (il_X c g v d)) : wpX_constant post (il_X c g v d) (nI m) x := by
  unfold wpX_constant
  dsimp only
  exact ix_isM hm (br_f (by decide) (ix_apF hm h8 h))
theorem ix_coB {post : Int32 → SX → Prop} {x y : Int32} (hx : il_bad 6 x) (h : post (-1) (il_X c g v d)) : wpX_constant post (il_X c g v d) x y := by
  unfold wpX_constant
  dsimp only
  exact ix_isMx hx (br_t rfl h)
theorem ix_re {post : Int32 → SX → Prop} {m n : Nat} {x : Int32} (hm : m < 6) (hn : n < 10) (a1 : ¬ x < -100) (a2 : ¬ 100 < x) (h8 : c m < 8) (h : post (nI (c m + 1)) (il_X (il_up c m (c m + 1)) (il_up g (8 * m + c m) (some n)) (il_up v (8 * m + c m) x) d)) : wpX_reference post (il_X c g v d) (nI m) (nI n) x := by
  unfold wpX_reference wpX_isAddend
  dsimp only
  exact ix_isM hm (br_f (by decide) (ix_isN hn (br_f (by decide) (br_f a1 (br_f a2 (br_f (by decide) (ix_ap (o := some n) hm h8 h)))))))
theorem ix_reF {post : Int32 → SX → Prop} {m n : Nat} {x : Int32} (hm : m < 6) (hn : n < 10) (a1 : ¬ x < -100) (a2 : ¬ 100 < x) (h8 : c m = 8) (h : post (-2) (il_X c g v d)) : wpX_reference post (il_X c g v d) (nI m) (nI n) x := by
  unfold wpX_reference wpX_isAddend
  dsimp only
  exact ix_isM hm (br_f (by decide) (ix_isN hn (br_f (by decide) (br_f a1 (br_f a2 (br_f (by decide) (ix_apF hm h8 h)))))))
theorem ix_reA {post : Int32 → SX → Prop} {m n : Nat} {x : Int32} (hm : m < 6) (hn : n < 10) (a : x < -100 ∨ 100 < x) (h : post (-1) (il_X c g v d)) : wpX_reference post (il_X c g v d) (nI m) (nI n) x := by
  unfold wpX_reference wpX_isAddend
  dsimp only
  refine ix_isM hm (br_f (by decide) (ix_isN hn (br_f (by decide) ?_)))
  by_cases a1 : x < -100
  · exact br_t a1 (br_t rfl h)
  · exact br_f a1 (br_t (a.resolve_left a1) (br_t rfl h))
theorem ix_reN {post : Int32 → SX → Prop} {m : Nat} {y x : Int32} (hm : m < 6) (hn : il_bad 10 y) (h : post (-1) (il_X c g v d)) : wpX_reference post (il_X c g v d) (nI m) y x := by
  unfold wpX_reference
  dsimp only
  exact ix_isM hm (br_f (by decide) (ix_isNx hn (br_t rfl h)))
theorem ix_reB {post : Int32 → SX → Prop} {z y x : Int32} (hm : il_bad 6 z) (h : post (-1) (il_X c g v d)) : wpX_reference post (il_X c g v d) z y x := by
  unfold wpX_reference
  dsimp only
  exact ix_isMx hm (br_t rfl h)
theorem ix_pa {post : Int32 → SX → Prop} {m w : Nat} {x : Int32} (I : il_ok c g d) (hm : m < 6) (hw : w < c m) (h : post (il_fl (g (8 * m + w))) (il_X c (il_up g (8 * m + w) none) (il_up v (8 * m + w) x) d)) : wpX_patch post (il_X c g v d) (nI m) (nI w) x := by
  have h8 := I.1 m
  unfold wpX_patch wpX_wordSlot
  dsimp only
  refine ix_isM hm (br_f (by decide) (ix_hw I.1 hm hw (br_f (by decide) ?_)))
  rw [il_s8 m w, nI_clamp (by omega)]
  refine ⟨vp_in_nI (by omega) (by omega), il_bx (il_gb I _) (fun z => ?_) (fun k z => ?_)⟩
  · rw [z] at h
    exact ix_sw (o := none) rfl (by omega) h
  · rw [z] at h
    exact ix_sw (o := none) rfl (by omega) h
theorem ix_paN {post : Int32 → SX → Prop} {m : Nat} {y x : Int32} (hm : m < 6) (hw : il_bad (c m) y) (h : post (-4) (il_X c g v d)) : wpX_patch post (il_X c g v d) (nI m) y x := by
  unfold wpX_patch
  dsimp only
  exact ix_isM hm (br_f (by decide) (ix_hwx hm hw (br_t rfl h)))
theorem ix_paB {post : Int32 → SX → Prop} {z y x : Int32} (hm : il_bad 6 z) (h : post (-1) (il_X c g v d)) : wpX_patch post (il_X c g v d) z y x := by
  unfold wpX_patch
  dsimp only
  exact ix_isMx hm (br_t rfl h)
theorem ix_in {post : Int32 → SX → Prop} {m w : Nat} {x : Int32} (I : il_ok c g d) (hm : m < 6) (hw : w ≤ c m) (h8 : c m < 8) (h : post (nI (c m + 1)) (il_X (il_up c m (c m + 1)) (il_up (il_opn (c m - w) (8 * m + w) g) (8 * m + w) none) (il_up (il_opn (c m - w) (8 * m + w) v) (8 * m + w) x) (il_fil (il_qi w) 10 (10 * m) d))) : wpX_insert post (il_X c g v d) (nI m) (nI w) x := by
  unfold wpX_insert wpX_wordSlot
  dsimp only
  refine ix_isM hm (br_f (by decide) (ix_he I.1 hm hw (br_f (by decide) (ix_nf hm h8 (br_t rfl (ix_og hm hw h8 ?_))))))
  refine ix_md (il_qi w) I hm rfl (by omega) rfl (fun k _ hk => il_qi1 hk) (fun k _ hk => ?_) ?_
  · rw [il_qi2 hk]; exact nI_1 k
  · exact ix_sw (s := 8 * m + w) (o := none) (il_s8 m w) (by omega) (ix_inc hm h)
theorem ix_inF {post : Int32 → SX → Prop} {m w : Nat} {x : Int32} (I : il_ok c g d) (hm : m < 6) (hw : w ≤ c m) (h8 : c m = 8) (h : post (-2) (il_X c g v d)) : wpX_insert post (il_X c g v d) (nI m) (nI w) x := by
  unfold wpX_insert
  dsimp only
  exact ix_isM hm (br_f (by decide) (ix_he I.1 hm hw (br_f (by decide) (ix_fu hm h8 (br_f (by decide) h)))))
theorem ix_inN {post : Int32 → SX → Prop} {m : Nat} {y x : Int32} (hm : m < 6) (hw : il_bad (c m + 1) y) (h : post (-4) (il_X c g v d)) : wpX_insert post (il_X c g v d) (nI m) y x := by
  unfold wpX_insert
  dsimp only
  exact ix_isM hm (br_f (by decide) (ix_hex hm hw (br_t rfl h)))
theorem ix_inB {post : Int32 → SX → Prop} {z y x : Int32} (hm : il_bad 6 z) (h : post (-1) (il_X c g v d)) : wpX_insert post (il_X c g v d) z y x := by
  unfold wpX_insert
  dsimp only
  exact ix_isMx hm (br_t rfl h)
theorem ix_de {post : Int32 → SX → Prop} {m w : Nat} (I : il_ok c g d) (hm : m < 6) (hw : w < c m) (h : post (nI (c m - 1)) (il_X (il_up c m (c m - 1)) (il_cls (c m - 1 - w) (8 * m + w) g) (il_cls (c m - 1 - w) (8 * m + w) v) (il_fil (il_qd w) 10 (10 * m) d))) : wpX_delete post (il_X c g v d) (nI m) (nI w) := by
  have h8 := I.1 m
  unfold wpX_delete
  dsimp only
  refine ix_isM hm (br_f (by decide) (ix_hw I.1 hm hw (br_f (by decide) (ix_cg hm hw h8 ?_))))
  refine ix_md (il_qd w) I hm (nI_1 w) (by omega) rfl (fun k _ hk => il_qd1 (by omega)) (fun k _ hk => ?_) ?_
  · rw [il_qd2 (by omega)]; exact il_m1 (by omega)
  · exact ix_dec hm (by omega) h
theorem ix_deN {post : Int32 → SX → Prop} {m : Nat} {y : Int32} (hm : m < 6) (hw : il_bad (c m) y) (h : post (-4) (il_X c g v d)) : wpX_delete post (il_X c g v d) (nI m) y := by
  unfold wpX_delete
  dsimp only
  exact ix_isM hm (br_f (by decide) (ix_hwx hm hw (br_t rfl h)))
theorem ix_deB {post : Int32 → SX → Prop} {z y : Int32} (hm : il_bad 6 z) (h : post (-1) (il_X c g v d)) : wpX_delete post (il_X c g v d) z y := by
  unfold wpX_delete
  dsimp only
  exact ix_isMx hm (br_t rfl h)
theorem ix_ul0 {post : Int32 → SX → Prop} {m : Nat} {y : Int32} (hm : m < 6) : ∀ e i (d : Nat → Option Nat), i + e = 10 → post y (il_X c g v (il_fil (fun _ => none) e (10 * m + i) d)) → wX_unload_25 post (nI m) y (e + 1) (nI i) (fun i => nI (c i)) (fun i => il_xo (g i)) v (fun i => il_xo (d i))
  | 0, i, d, hi, h => by
    have e : i = 10 := by omega
    subst e
    exact br_t (nI_le (a := 10) (Nat.le_refl _) (by decide)) h
  | e + 1, i, d, hi, h => by
    have ih := ix_ul0 hm e (i + 1) (il_up d (10 * m + i) none) (by omega) h
    refine br_f (nI_ge (b := 10) (by omega) (by decide)) ?_
    unfold wpX_definitionSlot
    dsimp only
    rw [il_s10 m i, nI_clamp (by omega)]
    exact ⟨vp_in_nI (by omega) (by omega), nm_r (il_uP il_xo d (10 * m + i) none) (nm_r (nI_1 i) ih)⟩
theorem ix_ul {post : Int32 → SX → Prop} {m : Nat} (hm : m < 6) (h : post (nI (c m)) (il_X (il_up c m 0) g v (il_fil (fun _ => none) 10 (10 * m) d))) : wpX_unload post (il_X c g v d) (nI m) := by
  have hv : vp_in (nI m) 6 := vp_in_nI hm (by omega)
  unfold wpX_unload
  dsimp only
  rw [nI_clamp (by omega)]
  exact ix_isM hm (br_f (by decide) ⟨hv, nm_e ⟨hv, nm_r (il_uP nI c m 0) ⟨11, ix_ul0 hm 10 0 d rfl h⟩⟩⟩)
theorem ix_ulB {post : Int32 → SX → Prop} {z : Int32} (hm : il_bad 6 z) (h : post (-1) (il_X c g v d)) : wpX_unload post (il_X c g v d) z := by
  unfold wpX_unload
  dsimp only
  exact ix_isMx hm (br_t rfl h)
theorem ix_df {post : Int32 → SX → Prop} {m n w : Nat} (I : il_ok c g d) (hm : m < 6) (hn : n < 10) (hw : w ≤ c m) (h : post (il_fl (d (10 * m + n))) (il_X c g v (il_up d (10 * m + n) (some w)))) : wpX_define post (il_X c g v d) (nI m) (nI n) (nI w) := by
  have h8 := I.1 m
  have hv : vp_in (nI (10 * m + n)) 60 := vp_in_nI (by omega) (by omega)
  unfold wpX_define wpX_definitionSlot wX_define_51
  dsimp only
  refine ix_isM hm (br_f (by decide) (ix_isN hn (br_f (by decide) (ix_he I.1 hm hw (br_f (by decide) ?_)))))
  rw [il_s10 m n, nI_clamp (by omega)]
  refine ⟨hv, il_bx (il_db I hm hn) (fun z => ?_) (fun k z => ?_)⟩
  · rw [z] at h
    exact ⟨hv, nm_r (il_uP il_xo d (10 * m + n) (some w)) h⟩
  · rw [z] at h
    exact ⟨hv, nm_r (il_uP il_xo d (10 * m + n) (some w)) h⟩
theorem ix_dfN {post : Int32 → SX → Prop} {m n : Nat} {y : Int32} (hm : m < 6) (hn : n < 10) (hw : il_bad (c m + 1) y) (h : post (-4) (il_X c g v d)) : wpX_define post (il_X c g v d) (nI m) (nI n) y := by
  unfold wpX_define
  dsimp only
  exact ix_isM hm (br_f (by decide) (ix_isN hn (br_f (by decide) (ix_hex hm hw (br_t rfl h)))))
theorem ix_dfM {post : Int32 → SX → Prop} {m : Nat} {x y : Int32} (hm : m < 6) (hn : il_bad 10 x) (h : post (-1) (il_X c g v d)) : wpX_define post (il_X c g v d) (nI m) x y := by
  unfold wpX_define
  dsimp only
  exact ix_isM hm (br_f (by decide) (ix_isNx hn (br_t rfl h)))
theorem ix_dfB {post : Int32 → SX → Prop} {z x y : Int32} (hm : il_bad 6 z) (h : post (-1) (il_X c g v d)) : wpX_define post (il_X c g v d) z x y := by
  unfold wpX_define
  dsimp only
  exact ix_isMx hm (br_t rfl h)
theorem ix_ud {post : Int32 → SX → Prop} {m n : Nat} (I : il_ok c g d) (hm : m < 6) (hn : n < 10) (h : post (il_yo (d (10 * m + n))) (il_X c g v (il_up d (10 * m + n) none))) : wpX_undefine post (il_X c g v d) (nI m) (nI n) := by
  have hv : vp_in (nI (10 * m + n)) 60 := vp_in_nI (by omega) (by omega)
  unfold wpX_undefine wpX_definitionSlot
  dsimp only
  rw [il_s10 m n, nI_clamp (by omega)]
  refine ix_isM hm (br_f (by decide) (ix_isN hn (br_f (by decide) ⟨hv, nm_e (il_bx (il_db I hm hn) (fun z => ?_) (fun k z => ?_))⟩)))
  · have e : il_up d (10 * m + n) none = d := by rw [← z]; exact il_ui d _
    rw [e, z] at h
    exact h
  · rw [z] at h ⊢
    exact ⟨hv, nm_r (il_uP il_xo d (10 * m + n) none) h⟩
theorem ix_udM {post : Int32 → SX → Prop} {m : Nat} {x : Int32} (hm : m < 6) (hn : il_bad 10 x) (h : post (-1) (il_X c g v d)) : wpX_undefine post (il_X c g v d) (nI m) x := by
  unfold wpX_undefine
  dsimp only
  exact ix_isM hm (br_f (by decide) (ix_isNx hn (br_t rfl h)))
theorem ix_udB {post : Int32 → SX → Prop} {z x : Int32} (hm : il_bad 6 z) (h : post (-1) (il_X c g v d)) : wpX_undefine post (il_X c g v d) z x := by
  unfold wpX_undefine
  dsimp only
  exact ix_isMx hm (br_t rfl h)
theorem ix_si {post : Int32 → Prop} (h : post (nI (il_S 6 c))) : wpX_size post (il_X c g v d) := by
  unfold wpX_size
  dsimp only
  exact ix_wb (m := 6) (by omega) h
theorem ix_va {post : Int32 → Prop} {p : Nat} (I : il_ok c g d) (hp : p < 2 ^ 31) (h : post (il_val c g v d p)) : wpX_value post (il_X c g v d) (nI p) := by
  unfold wpX_value
  dsimp only
  refine ix_ma I.1 hp (il_bx (fun k z => by have := (il_mo_some z).1; omega) (fun y => ?_) (fun m y => ?_))
  · unfold il_val at h
    rw [y] at h
    exact h
  · obtain ⟨hm, h1, h2⟩ := il_mo_some y
    have h3 : p < il_S m c + c m := h2
    have h8 := I.1 m
    rw [y]
    refine ix_wb (m := m) (by omega) (nm_r (pk_sub h1) (ix_wv I hm (by omega) ?_))
    unfold il_val at h
    rw [y] at h
    exact h
theorem ix_van {post : Int32 → Prop} {x : Int32} (hx : x < 0) (h : post 0) : wpX_value post (il_X c g v d) x := by
  unfold wpX_value
  dsimp only
  exact ix_man hx (br_t rfl h)
theorem ix_ad {post : Int32 → Prop} {m : Nat} (hm : m < 6) (h : post (nI (il_S m c))) : wpX_address post (il_X c g v d) (nI m) := by
  unfold wpX_address
  dsimp only
  exact ix_isM hm (br_f (by decide) (ix_wb (by omega) h))
theorem ix_adB {post : Int32 → Prop} {z : Int32} (hm : il_bad 6 z) (h : post (-1)) : wpX_address post (il_X c g v d) z := by
  unfold wpX_address
  dsimp only
  exact ix_isMx hm (br_t rfl h)
theorem ix_wh {post : Int32 → Prop} {n : Nat} (I : il_ok c g d) (hn : n < 10) (h : post (il_yo (il_wh c d n))) : wpX_where post (il_X c g v d) (nI n) := by
  unfold wpX_where
  dsimp only
  refine ix_isN hn (br_f (by decide) (ix_cm I hn (il_bx il_mb (fun y => ?_) (fun m y => ?_))))
  · unfold il_wh at h
    simp only [y] at h
    exact h
  · obtain ⟨hm, k, hk⟩ := il_mf_some y
    rw [y]
    unfold il_wh il_dd at h
    simp only [y, hk] at h
    exact ix_na hm hn hk h
theorem ix_whB {post : Int32 → Prop} {z : Int32} (hm : il_bad 10 z) (h : post (-4)) : wpX_where post (il_X c g v d) z := by
  unfold wpX_where
  dsimp only
  exact ix_isNx hm (br_t rfl h)
theorem ix_ut {post : Int32 → Prop} {n : Nat} (I : il_ok c g d) (hn : n < 10) (h : post (nI (il_rt c g n))) : wpX_uses post (il_X c g v d) (nI n) := by
  unfold wpX_uses
  dsimp only
  exact ix_isN hn (br_f (by decide) (ix_rt I hn h))
theorem ix_utB {post : Int32 → Prop} {z : Int32} (hm : il_bad 10 z) (h : post (-1)) : wpX_uses post (il_X c g v d) z := by
  unfold wpX_uses
  dsimp only
  exact ix_isNx hm (br_t rfl h)
theorem ix_usB {post : Int32 → Prop} {z : Int32} (hm : il_bad 6 z) (h : post (-1)) : wpX_users post (il_X c g v d) z := by
  unfold wpX_users
  dsimp only
  exact ix_isMx hm (br_t rfl h)
theorem ix_mo {post : Int32 → Prop} {p : Nat} (I : il_ok c g d) (hp : p < 2 ^ 31) (h : post (il_yo (il_mo c p))) : wpX_moduleOf post (il_X c g v d) (nI p) := by
  unfold wpX_moduleOf
  dsimp only
  refine ix_ma I.1 hp (il_bx (fun k z => by have := (il_mo_some z).1; omega) (fun y => ?_) (fun m y => ?_))
  · rw [y] at h
    exact h
  · rw [y] at h ⊢
    exact h
theorem ix_mon {post : Int32 → Prop} {x : Int32} (hx : x < 0) (h : post (-4)) : wpX_moduleOf post (il_X c g v d) x := by
  unfold wpX_moduleOf
  dsimp only
  exact ix_man hx (br_t rfl h)
end XP
