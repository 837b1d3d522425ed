/-! ===== the component's writers ===== -/
section XM
variable {c : Nat → Nat} {g : Nat → Option Nat} {v : Nat → Int32} {d : Nat → Option Nat}
theorem ix_hw {post : Int32 → Prop} {m w : Nat} (hc : ∀ m, c m ≤ 8) (hm : m < 6) (hw : w < c m) (h : post 1) : wpX_hasWord post (il_X c g v d) (nI m) (nI w) := by
  have h8 := hc m
  refine br_f (nI_pos (by omega)) ⟨vp_in_nI hm (by omega), ?_⟩
  rw [nI_clamp (by omega)]
  exact br_f (nI_ge hw (by omega)) h
theorem ix_hwn {post : Int32 → Prop} {m : Nat} {x : Int32} (hx : x < 0) (h : post 0) : wpX_hasWord post (il_X c g v d) (nI m) x := br_t hx h
theorem ix_hwb {post : Int32 → Prop} {m w : Nat} (hm : m < 6) (hw : c m ≤ w) (h2 : w < 2 ^ 31) (h : post 0) : wpX_hasWord post (il_X c g v d) (nI m) (nI w) := by
  refine br_f (nI_pos h2) ⟨vp_in_nI hm (by omega), ?_⟩
  rw [nI_clamp (by omega)]
  exact br_t (nI_le hw h2) h
theorem ix_he {post : Int32 → Prop} {m w : Nat} (hc : ∀ m, c m ≤ 8) (hm : m < 6) (hw : w ≤ c m) (h : post 1) : wpX_hasWordOrEnd post (il_X c g v d) (nI m) (nI w) := by
  have h8 := hc m
  refine br_f (nI_pos (by omega)) ⟨vp_in_nI hm (by omega), ?_⟩
  rw [nI_clamp (by omega)]
  exact br_f (nI_nlt hw (by omega)) h
theorem ix_hen {post : Int32 → Prop} {m : Nat} {x : Int32} (hx : x < 0) (h : post 0) : wpX_hasWordOrEnd post (il_X c g v d) (nI m) x := br_t hx h
theorem ix_heb {post : Int32 → Prop} {m w : Nat} (hm : m < 6) (hw : c m < w) (h2 : w < 2 ^ 31) (h : post 0) : wpX_hasWordOrEnd post (il_X c g v d) (nI m) (nI w) := by
  refine br_f (nI_pos h2) ⟨vp_in_nI hm (by omega), ?_⟩
  rw [nI_clamp (by omega)]
  exact br_t (nI_lt hw h2) h
theorem ix_fu {post : Int32 → Prop} {m : Nat} (hm : m < 6) (hw : c m = 8) (h : post 1) : wpX_isFull post (il_X c g v d) (nI m) := by
  refine ⟨vp_in_nI hm (by omega), ?_⟩
  rw [nI_clamp (by omega)]
  dsimp only
  rw [hw]
  exact br_f (nI_nlt (a := 8) (b := 8) (by omega) (by decide)) h
theorem ix_nf {post : Int32 → Prop} {m : Nat} (hm : m < 6) (hw : c m < 8) (h : post 0) : wpX_isFull post (il_X c g v d) (nI m) := by
  refine ⟨vp_in_nI hm (by omega), ?_⟩
  rw [nI_clamp (by omega)]
  exact br_t (nI_lt (b := 8) hw (by decide)) h
theorem ix_sw {post : SX → Prop} {s : Nat} {y : Int32} {o : Option Nat} {x : Int32} (hy : y = nI s) (hs : s < 48) (h : post (il_X c (il_up g s o) (il_up v s x) d)) : wpX_setWord post (il_X c g v d) y (il_xo o) x := by
  subst hy
  have hcl : (nI s).toNatClampNeg = s := nI_clamp (by omega)
  refine ⟨vp_in_nI hs (by omega), nm_r (e' := fun i => il_xo (il_up g s o i)) ?_ ⟨vp_in_nI hs (by omega), nm_r (e' := il_up v s x) ?_ h⟩⟩
  · rw [hcl]; exact il_uP il_xo g s o
  · rw [hcl]; rfl
theorem ix_og0 {post : SX → Prop} {m w : Nat} (hm : m < 6) : ∀ e (g : Nat → Option Nat) (v : Nat → Int32), w + e < 8 → post (il_X c (il_opn e (8 * m + w) g) (il_opn e (8 * m + w) v) d) → wX_openGap_7 post (nI m) (nI w) (e + 1) (nI (w + e)) (fun i => nI (c i)) (fun i => il_xo (g i)) v (fun i => il_xo (d i))
  | 0, g, v, hw, h => br_t (nI_le (by omega) (by omega)) h
  | e + 1, g, v, hw, h => by
    refine br_f (nI_ge (by omega) (by omega)) ?_
    unfold wpX_wordSlot
    dsimp only
    rw [il_s8 m (w + (e + 1)), show 8 * m + (w + (e + 1)) = (8 * m + w + e) + 1 from by omega, nI_pred, nI_clamp (by omega)]
    refine ⟨vp_in_nI (by omega) (by omega), vp_in_nI (by omega) (by omega), ix_sw rfl (by omega) (nm_r (pk_m1 (w + e)) (ix_og0 hm e _ _ (by omega) h))⟩
theorem ix_og {post : SX → Prop} {m w : Nat} (hm : m < 6) (hw : w ≤ c m) (h8 : c m < 8) (h : post (il_X c (il_opn (c m - w) (8 * m + w) g) (il_opn (c m - w) (8 * m + w) v) d)) : wpX_openGap post (il_X c g v d) (nI m) (nI w) := by
  refine ⟨vp_in_nI hm (by omega), nm_r (e' := nI (c m)) (by rw [nI_clamp (by omega)]) ⟨c m - w + 1, ?_⟩⟩
  have := ix_og0 (c := c) (d := d) (post := post) hm (c m - w) g v (by omega) h
  rw [show w + (c m - w) = c m from by omega] at this
  exact this
theorem ix_cg0 {post : SX → Prop} {m : Nat} (hm : m < 6) (h8 : c m ≤ 8) : ∀ e i (g : Nat → Option Nat) (v : Nat → Int32), i + 1 + e = c m → post (il_X c (il_cls e (8 * m + i) g) (il_cls e (8 * m + i) v) d) → wX_closeGap_4 post (nI m) (e + 1) (nI (i + 1)) (fun i => nI (c i)) (fun i => il_xo (g i)) v (fun i => il_xo (d i))
  | 0, i, g, v, hi, h => by
    refine ⟨vp_in_nI hm (by omega), br_t ?_ h⟩
    rw [nI_clamp (by omega)]
    exact nI_le (by omega) (by omega)
  | e + 1, i, g, v, hi, h => by
    refine ⟨vp_in_nI hm (by omega), br_f ?_ ?_⟩
    · rw [nI_clamp (by omega)]
      exact nI_ge (by omega) (by omega)
    · unfold wpX_wordSlot
      dsimp only
      rw [il_s8 m (i + 1), show 8 * m + (i + 1) = (8 * m + i) + 1 from by omega, nI_pred, nI_clamp (by omega)]
      refine ⟨vp_in_nI (by omega) (by omega), vp_in_nI (by omega) (by omega), ix_sw rfl (by omega) (nm_r (nI_1 (i + 1)) (ix_cg0 hm h8 e (i + 1) _ _ (by omega) ?_))⟩
      exact h
theorem ix_cg {post : SX → Prop} {m w : Nat} (hm : m < 6) (hw : w < c m) (h8 : c m ≤ 8) (h : post (il_X c (il_cls (c m - 1 - w) (8 * m + w) g) (il_cls (c m - 1 - w) (8 * m + w) v) d)) : wpX_closeGap post (il_X c g v d) (nI m) (nI w) :=
  nm_r (nI_1 w) ⟨c m - 1 - w + 1, ix_cg0 hm h8 (c m - 1 - w) w g v (by omega) h⟩
theorem ix_md0 {post : SX → Prop} {m f : Nat} {t : Int32} (q : Option Nat → Option Nat) (hm : m < 6) (hf : f < 2 ^ 31) (q0 : q none = none) (q1 : ∀ k, k ≤ 8 → k < f → q (some k) = some k) (q2 : ∀ k, k ≤ 8 → f ≤ k → nI k + t = il_xo (q (some k))) : ∀ e i (d : Nat → Option Nat), i + e = 10 → (∀ n, i ≤ n → n < 10 → ∀ k, d (10 * m + n) = some k → k ≤ 8) → post (il_X c g v (il_fil q e (10 * m + i) d)) → wX_moveDefinitions_3 post (nI m) (nI f) t (e + 1) (nI i) (fun i => nI (c i)) (fun i => il_xo (g i)) v (fun i => il_xo (d i))
  | 0, i, d, hi, hd, h => by
    have e : i = 10 := by omega
    subst e
    exact br_t (nI_le (a := 10) (Nat.le_refl _) (by decide)) h
  | e + 1, i, d, hi, hd, h => by
    have hb := hd i (Nat.le_refl i) (by omega)
    refine br_f (nI_ge (b := 10) (by omega) (by decide)) ?_
    unfold wpX_definitionSlot
    dsimp only
    rw [il_s10 m i, nI_clamp (by omega)]
    refine ⟨vp_in_nI (by omega) (by omega), ?_⟩
    have hn : ∀ (x : Option Nat) n, i + 1 ≤ n → n < 10 → ∀ k, il_up d (10 * m + i) x (10 * m + n) = some k → k ≤ 8 := by
      intro x n h1 h2 k hk
      rw [il_un d x (by omega)] at hk
      exact hd n (by omega) h2 k hk
    have ih := ix_md0 q hm hf q0 q1 q2 e (i + 1) (il_up d (10 * m + i) (q (d (10 * m + i)))) (by omega) (hn _) h
    refine il_xge f hf (fun k z => by have := hb k z; omega) (fun z => ?_) (fun k z y => ?_)
    · have hq : q (d (10 * m + i)) = d (10 * m + i) := by
        cases hz : d (10 * m + i) with
        | none => exact q0
        | some k => exact q1 k (hb k hz) (z k hz)
      rw [hq, il_ui] at ih
      exact nm_r (nI_1 i) ih
    · refine ⟨vp_in_nI (by omega) (by omega), vp_in_nI (by omega) (by omega), nm_r (e' := fun j => il_xo (il_up d (10 * m + i) (q (d (10 * m + i))) j)) ?_ (nm_r (nI_1 i) ih)⟩
      rw [← il_uP, z]
      exact congrArg _ (q2 k (hb k z) y)
theorem ix_md {post : SX → Prop} {m f : Nat} {y t : Int32} (q : Option Nat → Option Nat) (I : il_ok c g d) (hm : m < 6) (hy : y = nI f) (hf : f < 2 ^ 31) (q0 : q none = none) (q1 : ∀ k, k ≤ 8 → k < f → q (some k) = some k) (q2 : ∀ k, k ≤ 8 → f ≤ k → nI k + t = il_xo (q (some k))) {G : Nat → Option Nat} {V : Nat → Int32} (h : post (il_X c G V (il_fil q 10 (10 * m) d))) : wpX_moveDefinitions post (il_X c G V d) (nI m) y t := by
  subst hy
  refine ⟨11, ix_md0 q hm hf q0 q1 q2 10 0 d rfl (fun n _ hn k hk => ?_) h⟩
  have h1 := I.2.2 m n k hm hn hk
  have h2 := I.1 m
  omega
theorem ix_inc {post : Int32 → SX → Prop} {m : Nat} (hm : m < 6) (h : post (nI (c m + 1)) (il_X (il_up c m (c m + 1)) g v d)) : vp_in (nI m) 6 ∧ (vp_in (nI m) 6 ∧ ∀ a : Nat → Int32, a = upd (fun i => nI (c i)) (nI m).toNatClampNeg (nI (c (nI m).toNatClampNeg) + 1) → (vp_in (nI m) 6 ∧ post (a (nI m).toNatClampNeg) (a, (fun i => il_xo (g i)), v, (fun i => il_xo (d i))))) := by
  have hv : vp_in (nI m) 6 := vp_in_nI hm (by omega)
  rw [nI_clamp (by omega)]
  refine ⟨hv, hv, nm_r (e' := fun i => nI (il_up c m (c m + 1) i)) (by rw [nI_1]; exact il_uP nI c m _) ⟨hv, ?_⟩⟩
  show post (nI (il_up c m (c m + 1) m)) _
  rw [il_us c m (c m + 1)]
  exact h
theorem ix_dec {post : Int32 → SX → Prop} {m : Nat} (hm : m < 6) (h0 : 0 < c m) (h : post (nI (c m - 1)) (il_X (il_up c m (c m - 1)) g v d)) : vp_in (nI m) 6 ∧ (vp_in (nI m) 6 ∧ ∀ a : Nat → Int32, a = upd (fun i => nI (c i)) (nI m).toNatClampNeg (nI (c (nI m).toNatClampNeg) - 1) → (vp_in (nI m) 6 ∧ post (a (nI m).toNatClampNeg) (a, (fun i => il_xo (g i)), v, (fun i => il_xo (d i))))) := by
  have hv : vp_in (nI m) 6 := vp_in_nI hm (by omega)
  rw [nI_clamp (by omega)]
  refine ⟨hv, hv, nm_r (e' := fun i => nI (il_up c m (c m - 1) i)) (by rw [il_mi1 h0]; exact il_uP nI c m _) ⟨hv, ?_⟩⟩
  show post (nI (il_up c m (c m - 1) m)) _
  rw [il_us c m (c m - 1)]
  exact h
theorem ix_ap {post : Int32 → SX → Prop} {m : Nat} {o : Option Nat} {x : Int32} (hm : m < 6) (h8 : c m < 8) (h : post (nI (c m + 1)) (il_X (il_up c m (c m + 1)) (il_up g (8 * m + c m) o) (il_up v (8 * m + c m) x) d)) : wpX_append post (il_X c g v d) (nI m) (il_xo o) x := by
  unfold wpX_append wpX_wordSlot
  dsimp only
  refine ix_nf hm h8 (br_t rfl ⟨vp_in_nI hm (by omega), ix_sw (s := 8 * m + c m) ?_ (by omega) ?_⟩)
  · rw [nI_clamp (by omega)]; exact il_s8 m (c m)
  · exact ix_inc hm h
theorem ix_apF {post : Int32 → SX → Prop} {m : Nat} {x y : Int32} (hm : m < 6) (h8 : c m = 8) (h : post (-2) (il_X c g v d)) : wpX_append post (il_X c g v d) (nI m) x y := by
  unfold wpX_append
  dsimp only
  exact ix_fu hm h8 (br_f (by decide) h)
end XM
