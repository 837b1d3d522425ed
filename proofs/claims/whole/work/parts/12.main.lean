/-! ===== what is owed ===== -/
def i_Rel (_ : Nat) (u : SX) (v : SY) : Prop := ∃ (c : Nat → Nat) (g : Nat → Option Nat) (t : Nat → Int32) (d : Nat → Option Nat), il_ok c g d ∧ u = il_X c g t d ∧ v = il_Y c g t d
theorem i_up {k : Nat} {u : SX} {v : SY} (h : i_Rel k u v) : i_Rel (k + 4) u v := h
theorem ip_x0 {post : SX → Prop} {c : Nat → Nat} {g : Nat → Option Nat} {v : Nat → Int32} : ∀ e i (d : Nat → Option Nat), i + e = 60 → post (il_X c g v (il_fil (fun _ => none) e i d)) → wX_init_38 post (e + 1) (nI i) (fun i => nI (c i)) (fun i => il_xo (g i)) v (fun i => il_xo (d i))
  | 0, i, d, hi, h => by
    have e : i = 60 := by omega
    subst e
    exact br_t (nI_le (a := 60) (Nat.le_refl _) (by decide)) h
  | e + 1, i, d, hi, h => by
    have ih := ip_x0 e (i + 1) (il_up d i none) (by omega) h
    refine br_f (nI_ge (b := 60) (by omega) (by decide)) ⟨vp_in_nI (by omega) (by omega), ?_⟩
    rw [nI_clamp (by omega)]
    exact nm_r (il_uP il_xo d i none) (nm_r (nI_1 i) ih)
theorem ip_y0 {post : SY → Prop} {c : Nat → Nat} {g : Nat → Option Nat} {v : Nat → Int32} : ∀ e i (d : Nat → Option Nat), i + e = 60 → post (il_Y c g v (il_fil (fun _ => none) e i d)) → wY_init_38 post (e + 1) (nI i) (fun i => il_yo (g i)) v (fun i => nI (c i)) (fun i => il_yo (d i))
  | 0, i, d, hi, h => by
    have e : i = 60 := by omega
    subst e
    exact br_t (nI_le (a := 60) (Nat.le_refl _) (by decide)) h
  | e + 1, i, d, hi, h => by
    have ih := ip_y0 e (i + 1) (il_up d i none) (by omega) h
    refine br_f (nI_ge (b := 60) (by omega) (by decide)) ⟨vp_in_nI (by omega) (by omega), ?_⟩
    rw [nI_clamp (by omega)]
    exact nm_r (il_uP il_yo d i none) (nm_r (nI_1 i) ih)
theorem ip_ok0 : il_ok (fun _ => 0) (fun _ => some 0) (il_fil (fun _ => none) 60 0 (fun _ => some 0)) := by
  refine ⟨fun _ => Nat.zero_le 8, fun i k h => ?_, fun m n k hm hn h => ?_⟩
  · have h' : (some 0 : Option Nat) = some k := h
    cases h'
    decide
  · rw [il_fil_eq, if_pos (by omega)] at h
    have h' : (none : Option Nat) = some k := h
    cases h'
theorem i_vc0 : wpX_init (fun u => wpY_init (fun v => i_Rel 0 u v)) :=
  ⟨61, ip_x0 (c := fun _ => 0) (g := fun _ => some 0) (v := fun _ => 0) 60 0 (fun _ => some 0) rfl ⟨61, ip_y0 (c := fun _ => 0) (g := fun _ => some 0) (v := fun _ => 0) 60 0 (fun _ => some 0) rfl ⟨_, _, _, _, ip_ok0, rfl, rfl⟩⟩⟩
theorem i_vc_constant {k : Nat} {u : SX} {v : SY} (I : i_Rel k u v) (hk : k + 4 ≤ 2048) (v1 : Int32) (v2 : Int32) : wpX_constant (fun r u' => wpY_constant (fun r' v' => r' = r ∧ i_Rel (k + 4) u' v') v v1 v2) u v1 v2 := by
  obtain ⟨c, g, t, d, I, rfl, rfl⟩ := I
  rcases il_ix v1 6 with hb | ⟨m, hm, _, rfl⟩
  · exact ix_coB hb (iy_coB hb ⟨rfl, _, _, _, _, I, rfl, rfl⟩)
  · by_cases h8 : c m = 8
    · exact ix_coF hm h8 (iy_coF hm h8 ⟨rfl, _, _, _, _, I, rfl, rfl⟩)
    · have h8' : c m < 8 := by have := I.1 m; omega
      exact ix_co hm h8' (iy_co hm h8' ⟨rfl, _, _, _, _, il_ok_add I h8' (fun _ z => by cases z), rfl, rfl⟩)
theorem i_vc_reference {k : Nat} {u : SX} {v : SY} (I : i_Rel k u v) (hk : k + 4 ≤ 2048) (v1 : Int32) (v2 : Int32) (v3 : Int32) : wpX_reference (fun r u' => wpY_reference (fun r' v' => r' = r ∧ i_Rel (k + 4) u' v') v v1 v2 v3) u v1 v2 v3 := by
  obtain ⟨c, g, t, d, I, rfl, rfl⟩ := I
  rcases il_ix v1 6 with hb | ⟨m, hm, _, rfl⟩
  · exact ix_reB hb (iy_reB hb ⟨rfl, _, _, _, _, I, rfl, rfl⟩)
  · rcases il_ix v2 10 with hb | ⟨n, hn, _, rfl⟩
    · exact ix_reN hm hb (iy_reN hm hb ⟨rfl, _, _, _, _, I, rfl, rfl⟩)
    · by_cases a1 : v3 < -100
      · exact ix_reA hm hn (Or.inl a1) (iy_reA hm hn (Or.inl a1) ⟨rfl, _, _, _, _, I, rfl, rfl⟩)
      · by_cases a2 : 100 < v3
        · exact ix_reA hm hn (Or.inr a2) (iy_reA hm hn (Or.inr a2) ⟨rfl, _, _, _, _, I, rfl, rfl⟩)
        · by_cases h8 : c m = 8
          · exact ix_reF hm hn a1 a2 h8 (iy_reF hm hn a1 a2 h8 ⟨rfl, _, _, _, _, I, rfl, rfl⟩)
          · have h8' : c m < 8 := by have := I.1 m; omega
            exact ix_re hm hn a1 a2 h8' (iy_re hm hn a1 a2 h8' ⟨rfl, _, _, _, _, il_ok_add I h8' (fun _ z => by cases z; exact hn), rfl, rfl⟩)
theorem i_vc_patch {k : Nat} {u : SX} {v : SY} (I : i_Rel k u v) (hk : k + 4 ≤ 2048) (v1 : Int32) (v2 : Int32) (v3 : Int32) : wpX_patch (fun r u' => wpY_patch (fun r' v' => r' = r ∧ i_Rel (k + 4) u' v') v v1 v2 v3) u v1 v2 v3 := by
  obtain ⟨c, g, t, d, I, rfl, rfl⟩ := I
  rcases il_ix v1 6 with hb | ⟨m, hm, _, rfl⟩
  · exact ix_paB hb (iy_paB hb ⟨rfl, _, _, _, _, I, rfl, rfl⟩)
  · rcases il_ix v2 (c m) with hb | ⟨w, hw, _, rfl⟩
    · exact ix_paN hm hb (iy_paN hm hb ⟨rfl, _, _, _, _, I, rfl, rfl⟩)
    · exact ix_pa I hm hw (iy_pa I hm hw ⟨rfl, _, _, _, _, il_ok_name I (fun _ z => by cases z), rfl, rfl⟩)
theorem i_vc_insert {k : Nat} {u : SX} {v : SY} (I : i_Rel k u v) (hk : k + 4 ≤ 2048) (v1 : Int32) (v2 : Int32) (v3 : Int32) : wpX_insert (fun r u' => wpY_insert (fun r' v' => r' = r ∧ i_Rel (k + 4) u' v') v v1 v2 v3) u v1 v2 v3 := by
  obtain ⟨c, g, t, d, I, rfl, rfl⟩ := I
  rcases il_ix v1 6 with hb | ⟨m, hm, _, rfl⟩
  · exact ix_inB hb (iy_inB hb ⟨rfl, _, _, _, _, I, rfl, rfl⟩)
  · rcases il_ix v2 (c m + 1) with hb | ⟨w, hw, _, rfl⟩
    · exact ix_inN hm hb (iy_inN hm hb ⟨rfl, _, _, _, _, I, rfl, rfl⟩)
    · have hw' : w ≤ c m := by omega
      by_cases h8 : c m = 8
      · exact ix_inF I hm hw' h8 (iy_inF hm hw' h8 ⟨rfl, _, _, _, _, I, rfl, rfl⟩)
      · have h8' : c m < 8 := by have := I.1 m; omega
        have hg : ∀ i k, il_up (il_opn (c m - w) (8 * m + w) g) (8 * m + w) none i = some k → k < 10 :=
          il_up_all (P := fun o => ∀ k, o = some k → k < 10) (8 * m + w) (il_opn_all (P := fun o => ∀ k, o = some k → k < 10) _ _ g I.2.1) (fun _ z => by cases z)
        exact ix_in I hm hw' h8' (iy_in I hm hw' h8' ⟨rfl, _, _, _, _, il_ok_fil (il_qi w) I (by omega) rfl hg (fun o a ho z => il_qi_ok o a ho z), rfl, rfl⟩)
theorem i_vc_delete {k : Nat} {u : SX} {v : SY} (I : i_Rel k u v) (hk : k + 4 ≤ 2048) (v1 : Int32) (v2 : Int32) : wpX_delete (fun r u' => wpY_delete (fun r' v' => r' = r ∧ i_Rel (k + 4) u' v') v v1 v2) u v1 v2 := by
  obtain ⟨c, g, t, d, I, rfl, rfl⟩ := I
  rcases il_ix v1 6 with hb | ⟨m, hm, _, rfl⟩
  · exact ix_deB hb (iy_deB hb ⟨rfl, _, _, _, _, I, rfl, rfl⟩)
  · rcases il_ix v2 (c m) with hb | ⟨w, hw, _, rfl⟩
    · exact ix_deN hm hb (iy_deN hm hb ⟨rfl, _, _, _, _, I, rfl, rfl⟩)
    · have h8 := I.1 m
      have hg : ∀ i k, il_cls (c m - 1 - w) (8 * m + w) g i = some k → k < 10 :=
        il_cls_all (P := fun o => ∀ k, o = some k → k < 10) _ _ g I.2.1
      exact ix_de I hm hw (iy_de I hm hw ⟨rfl, _, _, _, _, il_ok_fil (il_qd w) I (by omega) rfl hg (fun o a ho z => il_qd_ok hw o a ho z), rfl, rfl⟩)
theorem i_vc_unload {k : Nat} {u : SX} {v : SY} (I : i_Rel k u v) (hk : k + 4 ≤ 2048) (v1 : Int32) : wpX_unload (fun r u' => wpY_unload (fun r' v' => r' = r ∧ i_Rel (k + 4) u' v') v v1) u v1 := by
  obtain ⟨c, g, t, d, I, rfl, rfl⟩ := I
  rcases il_ix v1 6 with hb | ⟨m, hm, _, rfl⟩
  · exact ix_ulB hb (iy_ulB hb ⟨rfl, _, _, _, _, I, rfl, rfl⟩)
  · exact ix_ul hm (iy_ul hm ⟨rfl, _, _, _, _, il_ok_fil (fun _ => none) I (Nat.zero_le 8) rfl I.2.1 (fun o a _ z => by cases z), rfl, rfl⟩)
theorem i_vc_define {k : Nat} {u : SX} {v : SY} (I : i_Rel k u v) (hk : k + 4 ≤ 2048) (v1 : Int32) (v2 : Int32) (v3 : Int32) : wpX_define (fun r u' => wpY_define (fun r' v' => r' = r ∧ i_Rel (k + 4) u' v') v v1 v2 v3) u v1 v2 v3 := by
  obtain ⟨c, g, t, d, I, rfl, rfl⟩ := I
  rcases il_ix v1 6 with hb | ⟨m, hm, _, rfl⟩
  · exact ix_dfB hb (iy_dfB hb ⟨rfl, _, _, _, _, I, rfl, rfl⟩)
  · rcases il_ix v2 10 with hb | ⟨n, hn, _, rfl⟩
    · exact ix_dfM hm hb (iy_dfM hm hb ⟨rfl, _, _, _, _, I, rfl, rfl⟩)
    · rcases il_ix v3 (c m + 1) with hb | ⟨w, hw, _, rfl⟩
      · exact ix_dfN hm hn hb (iy_dfN hm hn hb ⟨rfl, _, _, _, _, I, rfl, rfl⟩)
      · have hw' : w ≤ c m := by omega
        exact ix_df I hm hn hw' (iy_df I hm hn hw' ⟨rfl, _, _, _, _, il_ok_def I hm hn (fun _ z => by cases z; exact hw'), rfl, rfl⟩)
theorem i_vc_undefine {k : Nat} {u : SX} {v : SY} (I : i_Rel k u v) (hk : k + 4 ≤ 2048) (v1 : Int32) (v2 : Int32) : wpX_undefine (fun r u' => wpY_undefine (fun r' v' => r' = r ∧ i_Rel (k + 4) u' v') v v1 v2) u v1 v2 := by
  obtain ⟨c, g, t, d, I, rfl, rfl⟩ := I
  rcases il_ix v1 6 with hb | ⟨m, hm, _, rfl⟩
  · exact ix_udB hb (iy_udB hb ⟨rfl, _, _, _, _, I, rfl, rfl⟩)
  · rcases il_ix v2 10 with hb | ⟨n, hn, _, rfl⟩
    · exact ix_udM hm hb (iy_udM hm hb ⟨rfl, _, _, _, _, I, rfl, rfl⟩)
    · exact ix_ud I hm hn (iy_ud hm hn ⟨rfl, _, _, _, _, il_ok_def I hm hn (fun _ z => by cases z), rfl, rfl⟩)
theorem i_vc_size {k : Nat} {u : SX} {v : SY} (I : i_Rel k u v) (hk : k + 4 ≤ 2048) : wpX_size (fun r => wpY_size (fun r' => r' = r ∧ i_Rel (k + 4) u v) v) u := by
  obtain ⟨c, g, t, d, I, rfl, rfl⟩ := I
  exact ix_si (iy_si ⟨rfl, _, _, _, _, I, rfl, rfl⟩)
theorem i_vc_value {k : Nat} {u : SX} {v : SY} (I : i_Rel k u v) (hk : k + 4 ≤ 2048) (v1 : Int32) : wpX_value (fun r => wpY_value (fun r' => r' = r ∧ i_Rel (k + 4) u v) v v1) u v1 := by
  obtain ⟨c, g, t, d, I, rfl, rfl⟩ := I
  by_cases h0 : v1 < 0
  · exact ix_van h0 (iy_van I h0 ⟨rfl, _, _, _, _, I, rfl, rfl⟩)
  · obtain ⟨p, hp, rfl⟩ := nI_of h0
    exact ix_va I hp (iy_va I hp ⟨rfl, _, _, _, _, I, rfl, rfl⟩)
theorem i_vc_address {k : Nat} {u : SX} {v : SY} (I : i_Rel k u v) (hk : k + 4 ≤ 2048) (v1 : Int32) : wpX_address (fun r => wpY_address (fun r' => r' = r ∧ i_Rel (k + 4) u v) v v1) u v1 := by
  obtain ⟨c, g, t, d, I, rfl, rfl⟩ := I
  rcases il_ix v1 6 with hb | ⟨m, hm, _, rfl⟩
  · exact ix_adB hb (iy_adB hb ⟨rfl, _, _, _, _, I, rfl, rfl⟩)
  · exact ix_ad hm (iy_ad hm ⟨rfl, _, _, _, _, I, rfl, rfl⟩)
theorem i_vc_where {k : Nat} {u : SX} {v : SY} (I : i_Rel k u v) (hk : k + 4 ≤ 2048) (v1 : Int32) : wpX_where (fun r => wpY_where (fun r' => r' = r ∧ i_Rel (k + 4) u v) v v1) u v1 := by
  obtain ⟨c, g, t, d, I, rfl, rfl⟩ := I
  rcases il_ix v1 10 with hb | ⟨n, hn, _, rfl⟩
  · exact ix_whB hb (iy_whB hb ⟨rfl, _, _, _, _, I, rfl, rfl⟩)
  · exact ix_wh I hn (iy_wh I hn ⟨rfl, _, _, _, _, I, rfl, rfl⟩)
theorem i_vc_undefined {k : Nat} {u : SX} {v : SY} (I : i_Rel k u v) (hk : k + 4 ≤ 2048) : wpX_undefined (fun r => wpY_undefined (fun r' => r' = r ∧ i_Rel (k + 4) u v) v) u := by
  obtain ⟨c, g, t, d, I, rfl, rfl⟩ := I
  exact ix_un I (iy_un I ⟨congrArg nI (il_undef c g d I.1 I.2.1), _, _, _, _, I, rfl, rfl⟩)
theorem i_vc_idle {k : Nat} {u : SX} {v : SY} (I : i_Rel k u v) (hk : k + 4 ≤ 2048) : wpX_idle (fun r => wpY_idle (fun r' => r' = r ∧ i_Rel (k + 4) u v) v) u := by
  obtain ⟨c, g, t, d, I, rfl, rfl⟩ := I
  exact ix_id I (iy_id I ⟨congrArg nI (il_idle d), _, _, _, _, I, rfl, rfl⟩)
theorem i_vc_uses {k : Nat} {u : SX} {v : SY} (I : i_Rel k u v) (hk : k + 4 ≤ 2048) (v1 : Int32) : wpX_uses (fun r => wpY_uses (fun r' => r' = r ∧ i_Rel (k + 4) u v) v v1) u v1 := by
  obtain ⟨c, g, t, d, I, rfl, rfl⟩ := I
  rcases il_ix v1 10 with hb | ⟨n, hn, _, rfl⟩
  · exact ix_utB hb (iy_utB hb ⟨rfl, _, _, _, _, I, rfl, rfl⟩)
  · exact ix_ut I hn (iy_ut I hn ⟨congrArg nI (il_uses c g n I.1), _, _, _, _, I, rfl, rfl⟩)
theorem i_vc_users {k : Nat} {u : SX} {v : SY} (I : i_Rel k u v) (hk : k + 4 ≤ 2048) (v1 : Int32) : wpX_users (fun r => wpY_users (fun r' => r' = r ∧ i_Rel (k + 4) u v) v v1) u v1 := by
  obtain ⟨c, g, t, d, I, rfl, rfl⟩ := I
  rcases il_ix v1 6 with hb | ⟨m, hm, _, rfl⟩
  · exact ix_usB hb (iy_usB hb ⟨rfl, _, _, _, _, I, rfl, rfl⟩)
  · exact ix_us I hm (iy_us I hm ⟨il_users c g d m I.1 I.2.1, _, _, _, _, I, rfl, rfl⟩)
theorem i_vc_moduleOf {k : Nat} {u : SX} {v : SY} (I : i_Rel k u v) (hk : k + 4 ≤ 2048) (v1 : Int32) : wpX_moduleOf (fun r => wpY_moduleOf (fun r' => r' = r ∧ i_Rel (k + 4) u v) v v1) u v1 := by
  obtain ⟨c, g, t, d, I, rfl, rfl⟩ := I
  by_cases h0 : v1 < 0
  · exact ix_mon h0 (iy_mon I.1 h0 ⟨rfl, _, _, _, _, I, rfl, rfl⟩)
  · obtain ⟨p, hp, rfl⟩ := nI_of h0
    exact ix_mo I hp (iy_mo I.1 hp ⟨rfl, _, _, _, _, I, rfl, rfl⟩)
theorem i_vc_digest {k : Nat} {u : SX} {v : SY} (I : i_Rel k u v) (hk : k + 4 ≤ 2048) : wpX_digest (fun r => wpY_digest (fun r' => r' = r ∧ i_Rel (k + 4) u v) v) u := by
  obtain ⟨c, g, t, d, I, rfl, rfl⟩ := I
  exact ix_di I (iy_di I ⟨il_dig c g t d I.1, _, _, _, _, I, rfl, rfl⟩)
