/-! ===== the reference's writers and the rest of its public methods ===== -/
section YP
variable {c : Nat → Nat} {g : Nat → Option Nat} {v : Nat → Int32} {d : Nat → Option Nat}
theorem iy_isMx {post : Int32 → Prop} {x : Int32} (hx : il_bad 6 x) (h : post 0) : wpY_isModule post (il_Y c g v d) x := by
  rcases hx with hx | ⟨j, h1, h2, rfl⟩
  · exact iy_isMn hx h
  · exact iy_isMb h1 h2 h
theorem iy_isNx {post : Int32 → Prop} {x : Int32} (hx : il_bad 10 x) (h : post 0) : wpY_isName post (il_Y c g v d) x := by
  rcases hx with hx | ⟨j, h1, h2, rfl⟩
  · exact iy_isNn hx h
  · exact iy_isNb h1 h2 h
theorem iy_iw {post : Int32 → Prop} {m w : Nat} (hc : ∀ m, c m ≤ 8) (hm : m < 6) (hw : w < c m) (h : post 1) : wpY_isWord post (il_Y c g v d) (nI m) (nI w) := by
  have h8 := hc m
  refine br_f (nI_pos (by omega)) ⟨vp_in_nI hm (by omega), ?_⟩
  rw [nI_clamp (by omega)]
  exact br_f (nI_ge hw (by omega)) h
theorem iy_iwx {post : Int32 → Prop} {m : Nat} {x : Int32} (hm : m < 6) (hx : il_bad (c m) x) (h : post 0) : wpY_isWord post (il_Y c g v d) (nI m) x := by
  rcases hx with hx | ⟨j, h1, h2, rfl⟩
  · exact br_t hx h
  · refine br_f (nI_pos h2) ⟨vp_in_nI hm (by omega), ?_⟩
    rw [nI_clamp (by omega)]
    exact br_t (nI_le h1 h2) h
theorem iy_inc {post : Int32 → SY → Prop} {m : Nat} (hm : m < 6) (h : post (nI (c m + 1)) (il_Y (il_up c m (c m + 1)) g v d)) : vp_in (nI m) 6 ∧ (vp_in (nI m) 6 ∧ ∀ a : Nat → Int32, a = upd (fun i => nI (c i)) (nI m).toNatClampNeg (nI (c (nI m).toNatClampNeg) + 1) → (vp_in (nI m) 6 ∧ post (a (nI m).toNatClampNeg) ((fun i => il_yo (g i)), v, a, (fun i => il_yo (d i))))) := by
  have hv : vp_in (nI m) 6 := vp_in_nI hm (by omega)
  rw [nI_clamp (by omega)]
  refine ⟨hv, hv, nm_r (e' := fun i => nI (il_up c m (c m + 1) i)) (by rw [nI_1]; exact il_uP nI c m _) ⟨hv, ?_⟩⟩
  show post (nI (il_up c m (c m + 1) m)) _
  rw [il_us c m (c m + 1)]
  exact h
theorem iy_ap {post : Int32 → SY → Prop} {m : Nat} {o : Option Nat} {x : Int32} (hm : m < 6) (h8 : c m < 8) (h : post (nI (c m + 1)) (il_Y (il_up c m (c m + 1)) (il_up g (8 * m + c m) o) (il_up v (8 * m + c m) x) d)) : wpY_append post (il_Y c g v d) (nI m) (il_yo o) x := by
  have hv : vp_in (nI m) 6 := vp_in_nI hm (by omega)
  have hs : vp_in (nI (8 * m + c m)) 48 := vp_in_nI (by omega) (by omega)
  have hc1 : (nI m).toNatClampNeg = m := nI_clamp (by omega)
  have hc2 : (nI (8 * m + c m)).toNatClampNeg = 8 * m + c m := nI_clamp (by omega)
  have hi := iy_inc (post := post) hm h
  rw [hc1] at hi
  unfold wpY_append
  dsimp only
  rw [hc1, il_s8' m (c m), hc2]
  exact ⟨hv, br_f (il_n8 h8) ⟨hv, hs, nm_r (il_uP il_yo g (8 * m + c m) o) ⟨hv, hs, nm_r (il_uV v (8 * m + c m) x) hi⟩⟩⟩
theorem iy_apF {post : Int32 → SY → Prop} {m : Nat} {x y : Int32} (hm : m < 6) (h8 : c m = 8) (h : post (-2) (il_Y c g v d)) : wpY_append post (il_Y c g v d) (nI m) x y := by
  unfold wpY_append
  dsimp only
  rw [nI_clamp (by omega), h8]
  exact ⟨vp_in_nI hm (by omega), br_t rfl h⟩
theorem iy_co {post : Int32 → SY → Prop} {m : Nat} {x : Int32} (hm : m < 6) (h8 : c m < 8) (h : post (nI (c m + 1)) (il_Y (il_up c m (c m + 1)) (il_up g (8 * m + c m) none) (il_up v (8 * m + c m) x) d)) : wpY_constant post (il_Y c g v d) (nI m) x := by
  unfold wpY_constant
  dsimp only
  exact iy_isM hm (br_f (by decide) (iy_ap (o := none) hm h8 h))
theorem iy_coF {post : Int32 → SY → Prop} {m : Nat} {x : Int32} (hm : m < 6) (h8 : c m = 8) (h : post (-2) (il_Y c g v d)) : wpY_constant post (il_Y c g v d) (nI m) x := by
  unfold wpY_constant
  dsimp only
  exact iy_isM hm (br_f (by decide) (iy_apF hm h8 h))
theorem iy_coB {post : Int32 → SY → Prop} {x y : Int32} (hx : il_bad 6 x) (h : post (-1) (il_Y c g v d)) : wpY_constant post (il_Y c g v d) x y := by
  unfold wpY_constant
  dsimp only
  exact iy_isMx hx (br_t rfl h)
theorem iy_re {post : Int32 → SY → Prop} {m n : Nat} {x : Int32} (hm : m < 6) (hn : n < 10) (a1 : ¬ x < -100) (a2 : ¬ 100 < x) (h8 : c m < 8) (h : post (nI (c m + 1)) (il_Y (il_up c m (c m + 1)) (il_up g (8 * m + c m) (some n)) (il_up v (8 * m + c m) x) d)) : wpY_reference post (il_Y c g v d) (nI m) (nI n) x := by
  unfold wpY_reference
  dsimp only
  exact iy_isM hm (br_f (by decide) (iy_isN hn (br_f (by decide) (br_f a1 (br_f a2 (br_f (by decide) (iy_ap (o := some n) hm h8 h)))))))
theorem iy_reF {post : Int32 → SY → Prop} {m n : Nat} {x : Int32} (hm : m < 6) (hn : n < 10) (a1 : ¬ x < -100) (a2 : ¬ 100 < x) (h8 : c m = 8) (h : post (-2) (il_Y c g v d)) : wpY_reference post (il_Y c g v d) (nI m) (nI n) x := by
  unfold wpY_reference
  dsimp only
  exact iy_isM hm (br_f (by decide) (iy_isN hn (br_f (by decide) (br_f a1 (br_f a2 (br_f (by decide) (iy_apF hm h8 h)))))))
theorem iy_reA {post : Int32 → SY → Prop} {m n : Nat} {x : Int32} (hm : m < 6) (hn : n < 10) (a : x < -100 ∨ 100 < x) (h : post (-1) (il_Y c g v d)) : wpY_reference post (il_Y c g v d) (nI m) (nI n) x := by
  unfold wpY_reference
  dsimp only
  refine iy_isM hm (br_f (by decide) (iy_isN hn (br_f (by decide) ?_)))
  by_cases a1 : x < -100
  · exact br_t a1 (br_t rfl h)
  · exact br_f a1 (br_t (a.resolve_left a1) (br_t rfl h))
theorem iy_reN {post : Int32 → SY → Prop} {m : Nat} {y x : Int32} (hm : m < 6) (hn : il_bad 10 y) (h : post (-1) (il_Y c g v d)) : wpY_reference post (il_Y c g v d) (nI m) y x := by
  unfold wpY_reference
  dsimp only
  exact iy_isM hm (br_f (by decide) (iy_isNx hn (br_t rfl (br_t rfl h))))
theorem iy_reB {post : Int32 → SY → Prop} {z y x : Int32} (hm : il_bad 6 z) (h : post (-1) (il_Y c g v d)) : wpY_reference post (il_Y c g v d) z y x := by
  unfold wpY_reference
  dsimp only
  exact iy_isMx hm (br_t rfl (br_t rfl h))
theorem iy_p43 {post : Int32 → SY → Prop} {m w : Nat} {x z : Int32} (hs : 8 * m + w < 48) (h : post z (il_Y c (il_up g (8 * m + w) none) (il_up v (8 * m + w) x) d)) : wY_patch_43 post (nI m) (nI w) x z (fun i => il_yo (g i)) v (fun i => nI (c i)) (fun i => il_yo (d i)) := by
  have hv : vp_in (nI (8 * m + w)) 48 := vp_in_nI hs (by omega)
  unfold wY_patch_43
  rw [il_s8' m w, nI_clamp (by omega)]
  exact ⟨hv, nm_r (il_uP il_yo g (8 * m + w) none) ⟨hv, nm_r (il_uV v (8 * m + w) x) h⟩⟩
theorem iy_pa {post : Int32 → SY → Prop} {m w : Nat} {x : Int32} (I : il_ok c g d) (hm : m < 6) (hw : w < c m) (h : post (il_fl (g (8 * m + w))) (il_Y c (il_up g (8 * m + w) none) (il_up v (8 * m + w) x) d)) : wpY_patch post (il_Y c g v d) (nI m) (nI w) x := by
  have h8 := I.1 m
  unfold wpY_patch
  dsimp only
  refine iy_isM hm (br_f (by decide) (iy_iw I.1 hm hw (br_f (by decide) ?_)))
  rw [il_s8' m w, nI_clamp (by omega)]
  refine ⟨vp_in_nI (by omega) (by omega), il_by (il_gb I _) (fun z => ?_) (fun k z => ?_)⟩
  · rw [z] at h
    exact iy_p43 (by omega) h
  · rw [z] at h
    exact iy_p43 (by omega) h
theorem iy_paN {post : Int32 → SY → Prop} {m : Nat} {y x : Int32} (hm : m < 6) (hw : il_bad (c m) y) (h : post (-4) (il_Y c g v d)) : wpY_patch post (il_Y c g v d) (nI m) y x := by
  unfold wpY_patch
  dsimp only
  exact iy_isM hm (br_f (by decide) (iy_iwx hm hw (br_t rfl h)))
theorem iy_paB {post : Int32 → SY → Prop} {z y x : Int32} (hm : il_bad 6 z) (h : post (-1) (il_Y c g v d)) : wpY_patch post (il_Y c g v d) z y x := by
  unfold wpY_patch
  dsimp only
  exact iy_isMx hm (br_t rfl h)
theorem iy_i134 {post : Int32 → SY → Prop} {m w : Nat} (hm : m < 6) (hw : w ≤ 8) : ∀ e i (d : Nat → Option Nat), i + e = 10 → (∀ n, i ≤ n → n < 10 → ∀ k, d (10 * m + n) = some k → k ≤ 8) → post (nI (c m + 1)) (il_Y (il_up c m (c m + 1)) g v (il_fil (il_qi w) e (10 * m + i) d)) → wY_insert_134 post (nI m) (nI w) (e + 1) (nI (10 * m + i)) (fun i => il_yo (g i)) v (fun i => nI (c i)) (fun i => il_yo (d i))
  | 0, i, d, hi, hd, h => by
    have e : i = 10 := by omega
    subst e
    refine br_t ?_ (iy_inc hm h)
    rw [il_m10, il_a10]
    exact nI_le (Nat.le_refl _) (by omega)
  | e + 1, i, d, hi, hd, h => by
    have hb := hd i (Nat.le_refl i) (by omega)
    have hv : vp_in (nI (10 * m + i)) 60 := vp_in_nI (by omega) (by omega)
    have hn : ∀ (x : Option Nat) n, i + 1 ≤ n → n < 10 → ∀ k, il_up d (10 * m + i) x (10 * m + n) = some k → k ≤ 8 := by
      intro x n h1 h2 k hk
      rw [il_un d x (by omega)] at hk
      exact hd n (by omega) h2 k hk
    have ih := iy_i134 hm hw e (i + 1) (il_up d (10 * m + i) (il_qi w (d (10 * m + i)))) (by omega) (hn _) h
    refine br_f ?_ ⟨hv, ?_⟩
    · rw [il_m10, il_a10]
      exact nI_ge (by omega) (by omega)
    · rw [nI_clamp (by omega)]
      refine il_yge w (by omega) (fun k z => by have := hb k z; omega) (fun z => ⟨hv, hv, ?_⟩) (fun k z y => ⟨hv, hv, ?_⟩)
      · have hq : il_qi w (d (10 * m + i)) = d (10 * m + i) := by
          cases hz : d (10 * m + i) with
          | none => rfl
          | some k => exact il_qi1 (z k hz)
        rw [hq] at ih
        exact nm_r (il_uP il_yo d (10 * m + i) (d (10 * m + i))) (nm_r (nI_1 _) ih)
      · rw [z, il_qi2 y] at ih
        dsimp only
        rw [z]
        refine nm_r ?_ (nm_r (nI_1 _) ih)
        rw [← il_uP]
        exact congrArg _ (nI_1 k)
theorem iy_i54 {post : Int32 → SY → Prop} {m w : Nat} {x : Int32} (I : ∀ n k, n < 10 → d (10 * m + n) = some k → k ≤ 8) (hm : m < 6) : ∀ e (g : Nat → Option Nat) (v : Nat → Int32), w + e < 8 → post (nI (c m + 1)) (il_Y (il_up c m (c m + 1)) (il_up (il_opn e (8 * m + w) g) (8 * m + w) none) (il_up (il_opn e (8 * m + w) v) (8 * m + w) x) (il_fil (il_qi w) 10 (10 * m) d)) → wY_insert_54 post (nI m) (nI w) x (e + 1) (nI (8 * m + w + e)) (fun i => il_yo (g i)) v (fun i => nI (c i)) (fun i => il_yo (d i))
  | 0, g, v, hw, h => by
    have hv : vp_in (nI (8 * m + w)) 48 := vp_in_nI (by omega) (by omega)
    have hl : nI (8 * m + w + 0) ≤ 8 * nI m + nI w := by
      rw [il_s8' m w]; exact nI_le (by omega) (by omega)
    refine br_t hl ?_
    rw [il_s8' m w, nI_clamp (by omega)]
    exact ⟨hv, nm_r (il_uP il_yo g (8 * m + w) none) ⟨hv, nm_r (il_uV v (8 * m + w) x) (nm_r (il_m10 m) ⟨11, iy_i134 hm (by omega) 10 0 d rfl (fun n _ hn k hk => I n k hn hk) h⟩)⟩⟩
  | e + 1, g, v, hw, h => by
    have hl : ¬ nI (8 * m + w + (e + 1)) ≤ 8 * nI m + nI w := by
      rw [il_s8' m w]; exact nI_ge (by omega) (by omega)
    have hv : vp_in (nI (8 * m + w + e + 1)) 48 := vp_in_nI (by omega) (by omega)
    have hv' : vp_in (nI (8 * m + w + e)) 48 := vp_in_nI (by omega) (by omega)
    have ih := iy_i54 I hm e (il_up g (8 * m + w + e + 1) (g (8 * m + w + e))) (il_up v (8 * m + w + e + 1) (v (8 * m + w + e))) (by omega) h
    refine br_f hl ?_
    rw [show 8 * m + w + (e + 1) = 8 * m + w + e + 1 from by omega, nI_pred, nI_clamp (n := 8 * m + w + e) (by omega), nI_clamp (n := 8 * m + w + e + 1) (by omega)]
    exact ⟨hv', hv, nm_r (il_uP il_yo g (8 * m + w + e + 1) (g (8 * m + w + e))) ⟨hv', hv, nm_r (il_uV v (8 * m + w + e + 1) (v (8 * m + w + e))) (nm_r (pk_m1 _) ih)⟩⟩
theorem iy_in {post : Int32 → SY → Prop} {m w : Nat} {x : Int32} (I : il_ok c g d) (hm : m < 6) (hw : w ≤ c m) (h8 : c m < 8) (h : post (nI (c m + 1)) (il_Y (il_up c m (c m + 1)) (il_up (il_opn (c m - w) (8 * m + w) g) (8 * m + w) none) (il_up (il_opn (c m - w) (8 * m + w) v) (8 * m + w) x) (il_fil (il_qi w) 10 (10 * m) d))) : wpY_insert post (il_Y c g v d) (nI m) (nI w) x := by
  have hv : vp_in (nI m) 6 := vp_in_nI hm (by omega)
  have t := iy_i54 (c := c) (d := d) (post := post) (x := x) (fun n k hn hk => by have h1 := I.2.2 m n k hm hn hk; omega) hm (c m - w) g v (by omega) h
  rw [show 8 * m + w + (c m - w) = 8 * m + c m from by omega] at t
  unfold wpY_insert
  dsimp only
  rw [nI_clamp (n := m) (by omega)]
  exact iy_isM hm (br_f (by decide) (br_f (nI_pos (by omega)) ⟨hv, br_t (nI_le hw (by omega)) ⟨hv, br_f (il_n8 h8) ⟨hv, nm_r (il_s8' m (c m)) ⟨_, t⟩⟩⟩⟩))
theorem iy_inF {post : Int32 → SY → Prop} {m w : Nat} {x : Int32} (hm : m < 6) (hw : w ≤ c m) (h8 : c m = 8) (h : post (-2) (il_Y c g v d)) : wpY_insert post (il_Y c g v d) (nI m) (nI w) x := by
  have hv : vp_in (nI m) 6 := vp_in_nI hm (by omega)
  unfold wpY_insert
  dsimp only
  rw [nI_clamp (n := m) (by omega)]
  refine iy_isM hm (br_f (by decide) (br_f (nI_pos (by omega)) ⟨hv, br_t (nI_le hw (by omega)) ⟨hv, br_t ?_ h⟩⟩))
  rw [h8]; rfl
theorem iy_inN {post : Int32 → SY → Prop} {m : Nat} {y x : Int32} (hm : m < 6) (hw : il_bad (c m + 1) y) (h : post (-4) (il_Y c g v d)) : wpY_insert post (il_Y c g v d) (nI m) y x := by
  have hv : vp_in (nI m) 6 := vp_in_nI hm (by omega)
  unfold wpY_insert
  dsimp only
  rw [nI_clamp (n := m) (by omega)]
  refine iy_isM hm (br_f (by decide) ?_)
  rcases hw with hw | ⟨j, h1, h2, rfl⟩
  · exact br_t hw h
  · exact br_f (nI_pos h2) ⟨hv, br_f (nI_ge (by omega) h2) h⟩
theorem iy_inB {post : Int32 → SY → Prop} {z y x : Int32} (hm : il_bad 6 z) (h : post (-1) (il_Y c g v d)) : wpY_insert post (il_Y c g v d) z y x := by
  unfold wpY_insert
  dsimp only
  exact iy_isMx hm (br_t rfl h)
theorem iy_d93 {post : Int32 → SY → Prop} {m w : Nat} (hm : m < 6) (hw : w ≤ 8) : ∀ e i (d : Nat → Option Nat), i + e = 10 → (∀ n, i ≤ n → n < 10 → ∀ k, d (10 * m + n) = some k → k ≤ 8) → post (nI (c m)) (il_Y c g v (il_fil (il_qd w) e (10 * m + i) d)) → wY_delete_93 post (nI m) (nI w) (e + 1) (nI (10 * m + i)) (fun i => il_yo (g i)) v (fun i => nI (c i)) (fun i => il_yo (d i))
  | 0, i, d, hi, hd, h => by
    have e : i = 10 := by omega
    subst e
    refine br_t ?_ ⟨vp_in_nI hm (by omega), ?_⟩
    · rw [il_m10, il_a10]
      exact nI_le (Nat.le_refl _) (by omega)
    · rw [nI_clamp (by omega)]
      exact h
  | e + 1, i, d, hi, hd, h => by
    have hb := hd i (Nat.le_refl i) (by omega)
    have hv : vp_in (nI (10 * m + i)) 60 := vp_in_nI (by omega) (by omega)
    have hn : ∀ (x : Option Nat) n, i + 1 ≤ n → n < 10 → ∀ k, il_up d (10 * m + i) x (10 * m + n) = some k → k ≤ 8 := by
      intro x n h1 h2 k hk
      rw [il_un d x (by omega)] at hk
      exact hd n (by omega) h2 k hk
    have ih := iy_d93 hm hw e (i + 1) (il_up d (10 * m + i) (il_qd w (d (10 * m + i)))) (by omega) (hn _) h
    refine br_f ?_ ⟨hv, ?_⟩
    · rw [il_m10, il_a10]
      exact nI_ge (by omega) (by omega)
    · rw [nI_clamp (by omega)]
      refine il_yle w (by omega) (fun k z => by have := hb k z; omega) (fun z => ⟨hv, hv, ?_⟩) (fun k z y => ⟨hv, hv, ?_⟩)
      · have hq : il_qd w (d (10 * m + i)) = d (10 * m + i) := by
          cases hz : d (10 * m + i) with
          | none => rfl
          | some k => exact il_qd1 (z k hz)
        rw [hq] at ih
        exact nm_r (il_uP il_yo d (10 * m + i) (d (10 * m + i))) (nm_r (nI_1 _) ih)
      · rw [z, il_qd2 y] at ih
        dsimp only
        rw [z]
        refine nm_r ?_ (nm_r (nI_1 _) ih)
        rw [← il_uP]
        exact congrArg _ (il_mi1 (by omega))
theorem iy_d39 {post : Int32 → SY → Prop} {m w : Nat} (I : ∀ n k, n < 10 → d (10 * m + n) = some k → k ≤ 8) (hm : m < 6) (hw : w ≤ 8) (h8 : c m ≤ 7) : ∀ e i (g : Nat → Option Nat) (v : Nat → Int32), i + e = c m → post (nI (c m)) (il_Y c (il_cls e (8 * m + i) g) (il_cls e (8 * m + i) v) (il_fil (il_qd w) 10 (10 * m) d)) → wY_delete_39 post (nI m) (nI w) (e + 1) (nI (8 * m + i)) (fun i => il_yo (g i)) v (fun i => nI (c i)) (fun i => il_yo (d i))
  | 0, i, g, v, hi, h => by
    refine ⟨vp_in_nI hm (by omega), br_t ?_ (nm_r (il_m10 m) ⟨11, iy_d93 hm hw 10 0 d rfl (fun n _ hn k hk => I n k hn hk) h⟩)⟩
    rw [nI_clamp (by omega), il_s8' m (c m)]
    exact nI_le (by omega) (by omega)
  | e + 1, i, g, v, hi, h => by
    have hv : vp_in (nI (8 * m + i)) 48 := vp_in_nI (by omega) (by omega)
    have hv' : vp_in (nI (8 * m + i + 1)) 48 := vp_in_nI (by omega) (by omega)
    have ih := iy_d39 I hm hw h8 e (i + 1) (il_up g (8 * m + i) (g (8 * m + i + 1))) (il_up v (8 * m + i) (v (8 * m + i + 1))) (by omega) h
    refine ⟨vp_in_nI hm (by omega), br_f ?_ ?_⟩
    · rw [nI_clamp (by omega), il_s8' m (c m)]
      exact nI_ge (by omega) (by omega)
    · rw [nI_1 (8 * m + i), nI_clamp (n := 8 * m + i) (by omega), nI_clamp (n := 8 * m + i + 1) (by omega)]
      exact ⟨hv', hv, nm_r (il_uP il_yo g (8 * m + i) (g (8 * m + i + 1))) ⟨hv', hv, nm_r (il_uV v (8 * m + i) (v (8 * m + i + 1))) (nm_e ih)⟩⟩
theorem iy_de {post : Int32 → SY → Prop} {m w : Nat} (I : il_ok c g d) (hm : m < 6) (hw : w < c m) (h : post (nI (c m - 1)) (il_Y (il_up c m (c m - 1)) (il_cls (c m - 1 - w) (8 * m + w) g) (il_cls (c m - 1 - w) (8 * m + w) v) (il_fil (il_qd w) 10 (10 * m) d))) : wpY_delete post (il_Y c g v d) (nI m) (nI w) := by
  have h8 := I.1 m
  have hv : vp_in (nI m) 6 := vp_in_nI hm (by omega)
  have hu : il_up c m (c m - 1) m = c m - 1 := il_us c m (c m - 1)
  have h' : post (nI (il_up c m (c m - 1) m)) (il_Y (il_up c m (c m - 1)) (il_cls (c m - 1 - w) (8 * m + w) g) (il_cls (c m - 1 - w) (8 * m + w) v) (il_fil (il_qd w) 10 (10 * m) d)) := by rw [hu]; exact h
  have t := iy_d39 (c := il_up c m (c m - 1)) (d := d) (post := post) (w := w) (fun n k hn hk => by have h1 := I.2.2 m n k hm hn hk; omega) hm (by omega) (by rw [hu]; omega) (c m - 1 - w) w g v (by rw [hu]; omega) h'
  unfold wpY_delete
  dsimp only
  rw [nI_clamp (n := m) (by omega)]
  refine iy_isM hm (br_f (by decide) (iy_iw I.1 hm hw (br_f (by decide) ⟨hv, hv, nm_r (e' := fun i => nI (il_up c m (c m - 1) i)) ?_ (nm_r (il_s8' m w) ⟨_, t⟩)⟩)))
  rw [il_mi1 (by omega)]
  exact il_uP nI c m _
theorem iy_deN {post : Int32 → SY → Prop} {m : Nat} {y : Int32} (hm : m < 6) (hw : il_bad (c m) y) (h : post (-4) (il_Y c g v d)) : wpY_delete post (il_Y c g v d) (nI m) y := by
  unfold wpY_delete
  dsimp only
  exact iy_isM hm (br_f (by decide) (iy_iwx hm hw (br_t rfl h)))
theorem iy_deB {post : Int32 → SY → Prop} {z y : Int32} (hm : il_bad 6 z) (h : post (-1) (il_Y c g v d)) : wpY_delete post (il_Y c g v d) z y := by
  unfold wpY_delete
  dsimp only
  exact iy_isMx hm (br_t rfl h)
theorem iy_ul0 {post : Int32 → SY → Prop} {m : Nat} {y : Int32} (hm : m < 6) : ∀ e i (d : Nat → Option Nat), i + e = 10 → post y (il_Y c g v (il_fil (fun _ => none) e (10 * m + i) d)) → wY_unload_29 post (nI m) y (e + 1) (nI (10 * m + i)) (fun i => il_yo (g i)) v (fun i => nI (c i)) (fun i => il_yo (d i))
  | 0, i, d, hi, h => by
    have e : i = 10 := by omega
    subst e
    refine br_t ?_ h
    rw [il_m10, il_a10]
    exact nI_le (Nat.le_refl _) (by omega)
  | e + 1, i, d, hi, h => by
    have ih := iy_ul0 hm e (i + 1) (il_up d (10 * m + i) none) (by omega) h
    refine br_f ?_ ⟨vp_in_nI (by omega) (by omega), ?_⟩
    · rw [il_m10, il_a10]
      exact nI_ge (by omega) (by omega)
    · rw [nI_clamp (by omega)]
      exact nm_r (il_uP il_yo d (10 * m + i) none) (nm_r (nI_1 _) ih)
theorem iy_ul {post : Int32 → SY → Prop} {m : Nat} (hm : m < 6) (h : post (nI (c m)) (il_Y (il_up c m 0) g v (il_fil (fun _ => none) 10 (10 * m) d))) : wpY_unload post (il_Y c g v d) (nI m) := by
  have hv : vp_in (nI m) 6 := vp_in_nI hm (by omega)
  unfold wpY_unload
  dsimp only
  rw [nI_clamp (by omega)]
  exact iy_isM hm (br_f (by decide) ⟨hv, nm_e ⟨hv, nm_r (il_uP nI c m 0) (nm_r (il_m10 m) ⟨11, iy_ul0 hm 10 0 d rfl h⟩)⟩⟩)
theorem iy_ulB {post : Int32 → SY → Prop} {z : Int32} (hm : il_bad 6 z) (h : post (-1) (il_Y c g v d)) : wpY_unload post (il_Y c g v d) z := by
  unfold wpY_unload
  dsimp only
  exact iy_isMx hm (br_t rfl h)
theorem iy_df {post : Int32 → SY → Prop} {m n w : Nat} (I : il_ok c g d) (hm : m < 6) (hn : n < 10) (hw : w ≤ c m) (h : post (il_fl (d (10 * m + n))) (il_Y c g v (il_up d (10 * m + n) (some w)))) : wpY_define post (il_Y c g v d) (nI m) (nI n) (nI w) := by
  have h8 := I.1 m
  have hv : vp_in (nI (10 * m + n)) 60 := vp_in_nI (by omega) (by omega)
  have hv6 : vp_in (nI m) 6 := vp_in_nI hm (by omega)
  unfold wpY_define wY_define_56
  dsimp only
  rw [nI_clamp (n := m) (by omega), il_s10' m n, nI_clamp (n := 10 * m + n) (by omega)]
  refine iy_isM hm (br_f (by decide) (iy_isN hn (br_f (by decide) (br_f (nI_pos (by omega)) ⟨hv6, br_t (nI_le hw (by omega)) ⟨hv, il_by (il_db I hm hn) (fun z => ?_) (fun k z => ?_)⟩⟩))))
  · rw [z] at h
    exact ⟨hv, nm_r (il_uP il_yo d (10 * m + n) (some w)) h⟩
  · rw [z] at h
    exact ⟨hv, nm_r (il_uP il_yo d (10 * m + n) (some w)) h⟩
theorem iy_dfN {post : Int32 → SY → Prop} {m n : Nat} {y : Int32} (hm : m < 6) (hn : n < 10) (hw : il_bad (c m + 1) y) (h : post (-4) (il_Y c g v d)) : wpY_define post (il_Y c g v d) (nI m) (nI n) y := by
  have hv : vp_in (nI m) 6 := vp_in_nI hm (by omega)
  unfold wpY_define
  dsimp only
  rw [nI_clamp (n := m) (by omega)]
  refine iy_isM hm (br_f (by decide) (iy_isN hn (br_f (by decide) ?_)))
  rcases hw with hw | ⟨j, h1, h2, rfl⟩
  · exact br_t hw h
  · exact br_f (nI_pos h2) ⟨hv, br_f (nI_ge (by omega) h2) h⟩
theorem iy_dfM {post : Int32 → SY → Prop} {m : Nat} {x y : Int32} (hm : m < 6) (hn : il_bad 10 x) (h : post (-1) (il_Y c g v d)) : wpY_define post (il_Y c g v d) (nI m) x y := by
  unfold wpY_define
  dsimp only
  exact iy_isM hm (br_f (by decide) (iy_isNx hn (br_t rfl h)))
theorem iy_dfB {post : Int32 → SY → Prop} {z x y : Int32} (hm : il_bad 6 z) (h : post (-1) (il_Y c g v d)) : wpY_define post (il_Y c g v d) z x y := by
  unfold wpY_define
  dsimp only
  exact iy_isMx hm (br_t rfl h)
theorem iy_ud {post : Int32 → SY → Prop} {m n : Nat} (hm : m < 6) (hn : n < 10) (h : post (il_yo (d (10 * m + n))) (il_Y c g v (il_up d (10 * m + n) none))) : wpY_undefine post (il_Y c g v d) (nI m) (nI n) := by
  have hv : vp_in (nI (10 * m + n)) 60 := vp_in_nI (by omega) (by omega)
  unfold wpY_undefine
  dsimp only
  rw [il_s10' m n, nI_clamp (by omega)]
  exact iy_isM hm (br_f (by decide) (iy_isN hn (br_f (by decide) ⟨hv, nm_e ⟨hv, nm_r (il_uP il_yo d (10 * m + n) none) h⟩⟩)))
theorem iy_udM {post : Int32 → SY → Prop} {m : Nat} {x : Int32} (hm : m < 6) (hn : il_bad 10 x) (h : post (-1) (il_Y c g v d)) : wpY_undefine post (il_Y c g v d) (nI m) x := by
  unfold wpY_undefine
  dsimp only
  exact iy_isM hm (br_f (by decide) (iy_isNx hn (br_t rfl h)))
theorem iy_udB {post : Int32 → SY → Prop} {z x : Int32} (hm : il_bad 6 z) (h : post (-1) (il_Y c g v d)) : wpY_undefine post (il_Y c g v d) z x := by
  unfold wpY_undefine
  dsimp only
  exact iy_isMx hm (br_t rfl h)
theorem iy_si {post : Int32 → Prop} (h : post (nI (il_S 6 c))) : wpY_size post (il_Y c g v d) := by
  unfold wpY_size
  dsimp only
  exact iy_bg (m := 6) (by omega) h
theorem iy_ad {post : Int32 → Prop} {m : Nat} (hm : m < 6) (h : post (nI (il_S m c))) : wpY_address post (il_Y c g v d) (nI m) := by
  unfold wpY_address
  dsimp only
  exact iy_isM hm (br_f (by decide) (iy_bg (by omega) h))
theorem iy_adB {post : Int32 → Prop} {z : Int32} (hm : il_bad 6 z) (h : post (-1)) : wpY_address post (il_Y c g v d) z := by
  unfold wpY_address
  dsimp only
  exact iy_isMx hm (br_t rfl h)
theorem iy_whB {post : Int32 → Prop} {z : Int32} (hm : il_bad 10 z) (h : post (-4)) : wpY_where post (il_Y c g v d) z := by
  unfold wpY_where
  dsimp only
  exact iy_isNx hm (br_t rfl h)
theorem iy_utB {post : Int32 → Prop} {z : Int32} (hm : il_bad 10 z) (h : post (-1)) : wpY_uses post (il_Y c g v d) z := by
  unfold wpY_uses
  dsimp only
  exact iy_isNx hm (br_t rfl h)
theorem iy_usB {post : Int32 → Prop} {z : Int32} (hm : il_bad 6 z) (h : post (-1)) : wpY_users post (il_Y c g v d) z := by
  unfold wpY_users
  dsimp only
  exact iy_isMx hm (br_t rfl h)
end YP
