/-! the calls that ask -/
theorem i_vc_size {k : Nat} {u : SX} {v : SY} (I : i_Rel k u v) (hk : k + 4 ≤ 2048) (v1 : Int32) : wpX_size (fun r => wpY_size (fun r' => r' = r ∧ i_Rel (k + 4) u v) v v1) u v1 := by
  obtain ⟨xe, xs, xl, xc, xn⟩ := u
  obtain ⟨fn, fo, ft, fk, fi, yt, yf, yz, ym, yr, yk⟩ := v
  have hI : jo_RR xe xs xl yt yf := I
  have hJ := hI
  obtain ⟨E, S, K, L, ⟨g1, g2, g3, g4⟩, hXe, hXs, hXl, hL, hYT, hYF⟩ := hJ
  unfold wpX_size
  by_cases hS : jo_isS v1
  · obtain ⟨s, h1, hs, rfl⟩ := jx_isS hS
    refine jx_set (fun q => absurd hS q) (fun _ => jx_sizeOf g1 g2 hXe hXs hs ?_)
    unfold wpY_size
    exact jy_set (fun q => absurd hS q) (fun _ => jy_sizeOf g1 g2 hYT hYF hs ⟨rfl, hI⟩)
  · refine jx_set (fun _ => ?_) (fun q => absurd q hS)
    unfold wpY_size
    exact jy_set (fun _ => ⟨rfl, hI⟩) (fun q => absurd q hS)
theorem i_vc_connected {k : Nat} {u : SX} {v : SY} (I : i_Rel k u v) (hk : k + 4 ≤ 2048) (v1 : Int32) : wpX_connected (fun r => wpY_connected (fun r' => r' = r ∧ i_Rel (k + 4) u v) v v1) u v1 := by
  obtain ⟨xe, xs, xl, xc, xn⟩ := u
  obtain ⟨fn, fo, ft, fk, fi, yt, yf, yz, ym, yr, yk⟩ := v
  have hI : jo_RR xe xs xl yt yf := I
  have hJ := hI
  obtain ⟨E, S, K, L, ⟨g1, g2, g3, g4⟩, hXe, hXs, hXl, hL, hYT, hYF⟩ := hJ
  unfold wpX_connected
  by_cases hS : jo_isS v1
  · obtain ⟨s, h1, hs, rfl⟩ := jx_isS hS
    obtain ⟨i0, h0, hb, e0⟩ := jb_low s hs h1
    have hc := js_conn g3 hL hs h0 hb
    refine jx_set (fun q => absurd hS q) (fun _ => nm_r e0 (jx_conn hXl hL hs h0 (fun e => ?_) (fun e => ?_)))
    · unfold wpY_connected
      exact jy_set (fun q => absurd hS q) (fun _ => jy_conn g2 hYF h1 hs (fun _ => ⟨rfl, hI⟩) (fun q => absurd (hc.mp e) q))
    · unfold wpY_connected
      exact jy_set (fun q => absurd hS q) (fun _ => jy_conn g2 hYF h1 hs (fun q => absurd (hc.mpr q) e) (fun _ => ⟨rfl, hI⟩))
  · refine jx_set (fun _ => ?_) (fun q => absurd q hS)
    unfold wpY_connected
    exact jy_set (fun _ => ⟨rfl, hI⟩) (fun q => absurd q hS)
theorem i_vc_cost {k : Nat} {u : SX} {v : SY} (I : i_Rel k u v) (hk : k + 4 ≤ 2048) (v1 : Int32) : wpX_cost (fun r u' => wpY_cost (fun r' v' => r' = r ∧ i_Rel (k + 4) u' v') v v1) u v1 := by
  obtain ⟨xe, xs, xl, xc, xn⟩ := u
  obtain ⟨fn, fo, ft, fk, fi, yt, yf, yz, ym, yr, yk⟩ := v
  have hI : jo_RR xe xs xl yt yf := I
  have hJ := hI
  obtain ⟨E, S, K, L, ⟨g1, g2, g3, g4⟩, hXe, hXs, hXl, hL, hYT, hYF⟩ := hJ
  unfold wpX_cost
  by_cases hS : jo_isS v1
  · obtain ⟨s, h1, hs, rfl⟩ := jx_isS hS
    refine jx_set (fun q => absurd hS q) (fun _ => jx_fill g1 g2 hXe hXs hs (fun xc' hc => ⟨vp_in_nI (by omega) (by omega), ?_⟩))
    rw [nI_clamp (by omega), hc s h1 (by omega)]
    unfold wpY_cost
    exact jy_set (fun q => absurd hS q) (fun _ => jr_extmin g1 g2 hYT hYF h1 hs (kd := fun _ => true) (Or.inl ⟨rfl, fun _ => rfl⟩) (fun best fn fo ft fk fi yz ym yr yk hM => ⟨jr_mn_lv h1 hs (fun _ => rfl) hM, hI⟩))
  · refine jx_set (fun _ => ?_) (fun q => absurd q hS)
    unfold wpY_cost
    exact jy_set (fun _ => ⟨rfl, hI⟩) (fun q => absurd q hS)
theorem i_vc_linearCost {k : Nat} {u : SX} {v : SY} (I : i_Rel k u v) (hk : k + 4 ≤ 2048) (v1 : Int32) : wpX_linearCost (fun r u' => wpY_linearCost (fun r' v' => r' = r ∧ i_Rel (k + 4) u' v') v v1) u v1 := by
  obtain ⟨xe, xs, xl, xc, xn⟩ := u
  obtain ⟨fn, fo, ft, fk, fi, yt, yf, yz, ym, yr, yk⟩ := v
  have hI : jo_RR xe xs xl yt yf := I
  have hJ := hI
  obtain ⟨E, S, K, L, ⟨g1, g2, g3, g4⟩, hXe, hXs, hXl, hL, hYT, hYF⟩ := hJ
  unfold wpX_linearCost
  by_cases hS : jo_isS v1
  · obtain ⟨s, h1, hs, rfl⟩ := jx_isS hS
    refine jx_set (fun q => absurd hS q) (fun _ => jx_flc g1 g2 hXe hXs h1 hs (fun xc' hc => ?_))
    dsimp only
    rw [hc 0 (by omega) (jl_zero s hs)]
    unfold wpY_linearCost
    exact jy_set (fun q => absurd hS q) (fun _ => jr_extmin g1 g2 hYT hYF h1 hs (kd := jo_lin) (Or.inr (Or.inl ⟨rfl, fun _ => rfl⟩)) (fun best fn fo ft fk fi yz ym yr yk hM => ⟨jr_mn_ll h1 hs (fun _ => rfl) hM, hI⟩))
  · refine jx_set (fun _ => ?_) (fun q => absurd q hS)
    unfold wpY_linearCost
    exact jy_set (fun _ => ⟨rfl, hI⟩) (fun q => absurd q hS)
theorem i_vc_linkedCost {k : Nat} {u : SX} {v : SY} (I : i_Rel k u v) (hk : k + 4 ≤ 2048) (v1 : Int32) : wpX_linkedCost (fun r u' => wpY_linkedCost (fun r' v' => r' = r ∧ i_Rel (k + 4) u' v') v v1) u v1 := by
  obtain ⟨xe, xs, xl, xc, xn⟩ := u
  obtain ⟨fn, fo, ft, fk, fi, yt, yf, yz, ym, yr, yk⟩ := v
  have hI : jo_RR xe xs xl yt yf := I
  have hJ := hI
  obtain ⟨E, S, K, L, ⟨g1, g2, g3, g4⟩, hXe, hXs, hXl, hL, hYT, hYF⟩ := hJ
  unfold wpX_linkedCost
  by_cases hS : jo_isS v1
  · obtain ⟨s, h1, hs, rfl⟩ := jx_isS hS
    refine jx_set (fun q => absurd hS q) (fun _ => jx_linkedCost g1 g2 hXe hXs hXl hL h1 hs (fun xc' => ?_))
    unfold wpY_linkedCost
    exact jy_set (fun q => absurd hS q) (fun _ => jr_extmin g1 g2 hYT hYF h1 hs (kd := jo_lkd (jo_lk K)) (Or.inr (Or.inr ⟨rfl, fun _ => rfl⟩)) (fun best fn fo ft fk fi yz ym yr yk hM => ⟨jr_mn_kv h1 hs (fun _ => rfl) hM, hI⟩))
  · refine jx_set (fun _ => ?_) (fun q => absurd q hS)
    unfold wpY_linkedCost
    exact jy_set (fun _ => ⟨rfl, hI⟩) (fun q => absurd q hS)
theorem i_vc_worst {k : Nat} {u : SX} {v : SY} (I : i_Rel k u v) (hk : k + 4 ≤ 2048) (v1 : Int32) : wpX_worst (fun r u' => wpY_worst (fun r' v' => r' = r ∧ i_Rel (k + 4) u' v') v v1) u v1 := by
  obtain ⟨xe, xs, xl, xc, xn⟩ := u
  obtain ⟨fn, fo, ft, fk, fi, yt, yf, yz, ym, yr, yk⟩ := v
  have hI : jo_RR xe xs xl yt yf := I
  have hJ := hI
  obtain ⟨E, S, K, L, ⟨g1, g2, g3, g4⟩, hXe, hXs, hXl, hL, hYT, hYF⟩ := hJ
  unfold wpX_worst
  by_cases hS : jo_isS v1
  · obtain ⟨s, h1, hs, rfl⟩ := jx_isS hS
    refine jx_set (fun q => absurd hS q) (fun _ => jx_worst g1 g2 hXe hXs h1 hs (fun xc' => ?_))
    unfold wpY_worst
    exact jy_set (fun q => absurd hS q) (fun _ => jr_extmax g1 g2 hYT hYF h1 hs (kd := fun _ => true) (Or.inl ⟨rfl, fun _ => rfl⟩) (fun best fn fo ft fk fi yz ym yr yk hM => ⟨jr_mx_gv h1 hs (fun _ => rfl) hM, hI⟩))
  · refine jx_set (fun _ => ?_) (fun q => absurd q hS)
    unfold wpY_worst
    exact jy_set (fun _ => ⟨rfl, hI⟩) (fun q => absurd q hS)
theorem i_vc_left {k : Nat} {u : SX} {v : SY} (I : i_Rel k u v) (hk : k + 4 ≤ 2048) (v1 : Int32) : wpX_left (fun r u' => wpY_left (fun r' v' => r' = r ∧ i_Rel (k + 4) u' v') v v1) u v1 := by
  obtain ⟨xe, xs, xl, xc, xn⟩ := u
  obtain ⟨fn, fo, ft, fk, fi, yt, yf, yz, ym, yr, yk⟩ := v
  have hI : jo_RR xe xs xl yt yf := I
  have hJ := hI
  obtain ⟨E, S, K, L, ⟨g1, g2, g3, g4⟩, hXe, hXs, hXl, hL, hYT, hYF⟩ := hJ
  unfold wpX_left
  have hz : ∀ s, s < 32 → jo_sz E S s ≤ 64 ^ (jo_m s) := fun s _ => js_sz g1 g2 s
  by_cases hS : jo_isS v1
  · obtain ⟨s, h1, hs, rfl⟩ := jx_isS hS
    refine jx_set (fun q => absurd hS q) (fun _ => jx_one hs (fun ho => jx_fill g1 g2 hXe hXs hs (fun xc' hc => jx_left g1 g2 h1 hs ho hc (fun a ha => ?_))) (fun ho => ?_))
    · unfold wpY_left
      refine jy_set (fun q => absurd hS q) (fun _ => jr_extmin g1 g2 hYT hYF h1 hs (kd := fun _ => true) (Or.inl ⟨rfl, fun _ => rfl⟩) (fun best fn fo ft fk fi yz ym yr yk hM => ?_))
      have eb := jr_mn_lv h1 hs (fun _ => rfl) hM
      subst eb
      exact jp_prepare g1 g2 hYT hYF h1 hs (fun yz' ym' hz' hm => jy_count hs (jr_left1 g2 hYF hz hz' h1 hs ho hm (fun a' fo ft fk fi yr yk ha' => ⟨by rw [jx_LFu ha ha'], hI⟩)))
    · unfold wpY_left
      refine jy_set (fun q => absurd hS q) (fun _ => jr_extmin g1 g2 hYT hYF h1 hs (kd := fun _ => true) (Or.inl ⟨rfl, fun _ => rfl⟩) (fun best fn fo ft fk fi yz ym yr yk hM => ?_))
      exact jp_prepare g1 g2 hYT hYF h1 hs (fun yz' ym' hz' hm => jy_count hs (jr_left0 g2 hYF hz' h1 hs ho hm (fun fo ft fk fi yr yk => ⟨rfl, hI⟩)))
  · refine jx_set (fun _ => ?_) (fun q => absurd q hS)
    unfold wpY_left
    exact jy_set (fun _ => ⟨rfl, hI⟩) (fun q => absurd q hS)
theorem i_vc_linearTable {k : Nat} {u : SX} {v : SY} (I : i_Rel k u v) (hk : k + 4 ≤ 2048) (v1 : Int32) (v2 : Int32) : wpX_linearTable (fun r u' => wpY_linearTable (fun r' v' => r' = r ∧ i_Rel (k + 4) u' v') v v1 v2) u v1 v2 := by
  obtain ⟨xe, xs, xl, xc, xn⟩ := u
  obtain ⟨fn, fo, ft, fk, fi, yt, yf, yz, ym, yr, yk⟩ := v
  have hI : jo_RR xe xs xl yt yf := I
  have hJ := hI
  obtain ⟨E, S, K, L, ⟨g1, g2, g3, g4⟩, hXe, hXs, hXl, hL, hYT, hYF⟩ := hJ
  unfold wpX_linearTable
  have hz : ∀ s, s < 32 → jo_sz E S s ≤ 64 ^ (jo_m s) := fun s _ => js_sz g1 g2 s
  by_cases hS : jo_isS v1
  · obtain ⟨s, h1, hs, rfl⟩ := jx_isS hS
    obtain ⟨l, hl⟩ := jl_fst (z := jo_sz E S) hs (by omega : 0 < 32) (jl_zero s hs)
    have h5 := jq_len hs hl
    have hY : ∀ r xc' xn', r = jo_at l v2 → wpY_linearTable (fun r' v' => r' = r ∧ i_Rel (k + 4) (xe, xs, xl, xc', xn') v') (fn, fo, ft, fk, fi, yt, yf, yz, ym, yr, yk) (nI s) v2 := by
      intro r xc' xn' er
      unfold wpY_linearTable
      refine jy_set (fun q => absurd hS q) (fun _ => jr_extmin g1 g2 hYT hYF h1 hs (kd := jo_lin) (Or.inr (Or.inl ⟨rfl, fun _ => rfl⟩)) (fun best fn fo ft fk fi yz ym yr yk hM => ?_))
      have eb := jr_mn_ll h1 hs (fun _ => rfl) hM
      subst eb
      exact jp_prepare g1 g2 hYT hYF h1 hs (fun yz' ym' hz' hm => jy_count hs (jr_linTab g2 hYF hz hz' h1 hs hm hl (fun fo ft fk fi yr yk => ⟨er.symm, hI⟩)))
    refine jx_set (fun q => absurd hS q) (fun _ => ⟨fun hneg => hY _ _ _ ?_, fun hneg => ?_⟩)
    · rw [jo_at, if_pos hneg]
    · obtain ⟨q, hq, rfl⟩ := nI_of hneg
      refine pk_lt q 5 (fun hlt => jx_flc g1 g2 hXe hXs h1 hs (fun xc' hc => jx_linTab g1 g2 hs hlt hc hl (hY _ _ _ ?_))) (fun hge => hY _ _ _ ?_) rfl rfl hq (by omega)
      · rw [jo_at, if_neg hneg, nI_clamp hq]
      · rw [jo_at, if_neg hneg, nI_clamp hq, jr_nth_big (by omega)]
  · refine jx_set (fun _ => ?_) (fun q => absurd q hS)
    unfold wpY_linearTable
    exact jy_set (fun _ => ⟨rfl, hI⟩) (fun q => absurd q hS)
theorem i_vc_plans {k : Nat} {u : SX} {v : SY} (I : i_Rel k u v) (hk : k + 4 ≤ 2048) (v1 : Int32) : wpX_plans (fun r u' => wpY_plans (fun r' v' => r' = r ∧ i_Rel (k + 4) u' v') v v1) u v1 := by
  obtain ⟨xe, xs, xl, xc, xn⟩ := u
  obtain ⟨fn, fo, ft, fk, fi, yt, yf, yz, ym, yr, yk⟩ := v
  have hI : jo_RR xe xs xl yt yf := I
  have hJ := hI
  obtain ⟨E, S, K, L, ⟨g1, g2, g3, g4⟩, hXe, hXs, hXl, hL, hYT, hYF⟩ := hJ
  unfold wpX_plans
  by_cases hS : jo_isS v1
  · obtain ⟨s, h1, hs, rfl⟩ := jx_isS hS
    refine jx_set (fun q => absurd hS q) (fun _ => jx_countPlans hXl hL (x2 := 0) (e := fun _ _ => true) (Or.inl ⟨rfl, fun _ _ => rfl⟩) (g := fun t => (jo_P t).countP (fun _ => true)) (fun t ho => by rw [jm_P_one ho]; rfl) (fun t t1 ht ho => (jm_cnt_all t1 ht ho).trans (by simp)) h1 hs (fun xn' => ?_))
    unfold wpY_plans
    exact jy_set (fun q => absurd hS q) (fun _ => jr_countPlans g1 g2 hYT hYF h1 hs (kd := fun _ => true) (fb := fun _ => true) (Or.inl ⟨rfl, fun _ => rfl⟩) (Or.inl ⟨rfl, fun _ => rfl⟩) (fun fn fo ft fk fi yz ym yr yk => ⟨rfl, hI⟩))
  · refine jx_set (fun _ => ?_) (fun q => absurd q hS)
    unfold wpY_plans
    exact jy_set (fun _ => ⟨rfl, hI⟩) (fun q => absurd q hS)
theorem i_vc_linkedPlans {k : Nat} {u : SX} {v : SY} (I : i_Rel k u v) (hk : k + 4 ≤ 2048) (v1 : Int32) : wpX_linkedPlans (fun r u' => wpY_linkedPlans (fun r' v' => r' = r ∧ i_Rel (k + 4) u' v') v v1) u v1 := by
  obtain ⟨xe, xs, xl, xc, xn⟩ := u
  obtain ⟨fn, fo, ft, fk, fi, yt, yf, yz, ym, yr, yk⟩ := v
  have hI : jo_RR xe xs xl yt yf := I
  have hJ := hI
  obtain ⟨E, S, K, L, ⟨g1, g2, g3, g4⟩, hXe, hXs, hXl, hL, hYT, hYF⟩ := hJ
  unfold wpX_linkedPlans
  by_cases hS : jo_isS v1
  · obtain ⟨s, h1, hs, rfl⟩ := jx_isS hS
    refine jx_set (fun q => absurd hS q) (fun _ => jx_countPlans hXl hL (x2 := 1) (e := jo_lk K) (Or.inr ⟨rfl, rfl⟩) (g := fun t => (jo_P t).countP (jo_lkd (jo_lk K))) (fun t ho => by rw [jm_P_one ho]; rfl) (fun t t1 ht ho => jm_cnt_lk t1 ht ho) h1 hs (fun xn' => ?_))
    unfold wpY_linkedPlans
    exact jy_set (fun q => absurd hS q) (fun _ => jr_countPlans g1 g2 hYT hYF h1 hs (kd := jo_lkd (jo_lk K)) (fb := jo_lkd (jo_lk K)) (Or.inr (Or.inr ⟨rfl, fun _ => rfl⟩)) (Or.inl ⟨rfl, fun _ => rfl⟩) (fun fn fo ft fk fi yz ym yr yk => ⟨rfl, hI⟩))
  · refine jx_set (fun _ => ?_) (fun q => absurd q hS)
    unfold wpY_linkedPlans
    exact jy_set (fun _ => ⟨rfl, hI⟩) (fun q => absurd q hS)
theorem i_vc_cheapest {k : Nat} {u : SX} {v : SY} (I : i_Rel k u v) (hk : k + 4 ≤ 2048) (v1 : Int32) : wpX_cheapest (fun r u' => wpY_cheapest (fun r' v' => r' = r ∧ i_Rel (k + 4) u' v') v v1) u v1 := by
  obtain ⟨xe, xs, xl, xc, xn⟩ := u
  obtain ⟨fn, fo, ft, fk, fi, yt, yf, yz, ym, yr, yk⟩ := v
  have hI : jo_RR xe xs xl yt yf := I
  have hJ := hI
  obtain ⟨E, S, K, L, ⟨g1, g2, g3, g4⟩, hXe, hXs, hXl, hL, hYT, hYF⟩ := hJ
  unfold wpX_cheapest
  have hz : ∀ s, s < 32 → jo_sz E S s ≤ 64 ^ (jo_m s) := fun s _ => js_sz g1 g2 s
  by_cases hS : jo_isS v1
  · obtain ⟨s, h1, hs, rfl⟩ := jx_isS hS
    have hlv := jm_Lst_le hz h1 hs (jv_l (z := jo_sz E S) h1 hs)
    refine jx_set (fun q => absurd hS q) (fun _ => jx_fill g1 g2 hXe hXs hs (fun xc' hc => jx_cheapest g1 g2 h1 hs hc (fun xn' => ?_)))
    unfold wpY_cheapest
    refine jy_set (fun q => absurd hS q) (fun _ => jr_extmin g1 g2 hYT hYF h1 hs (kd := fun _ => true) (Or.inl ⟨rfl, fun _ => rfl⟩) (fun best fn fo ft fk fi yz ym yr yk hM => ?_))
    have eb := jr_mn_lv h1 hs (fun _ => rfl) hM
    subst eb
    exact jr_countPlans g1 g2 hYT hYF h1 hs (kd := fun _ => true) (fb := fun p => jo_c (jo_sz E S) p == jo_lv (jo_sz E S) s) (Or.inl ⟨rfl, fun _ => rfl⟩) (Or.inr ⟨_, rfl, by omega, fun _ => rfl⟩) (fun fn fo ft fk fi yz ym yr yk => ⟨rfl, hI⟩)
  · refine jx_set (fun _ => ?_) (fun q => absurd q hS)
    unfold wpY_cheapest
    exact jy_set (fun _ => ⟨rfl, hI⟩) (fun q => absurd q hS)
theorem jw_back {f : Nat → Int32} {a b : Nat} {x v : Int32} (hv : v = f a) (hb : f b = f a) (p : Nat) : upd (upd (upd (upd f a x) b x) a v) b v p = f p := by
  by_cases e2 : p = b
  · subst e2; rw [pk_us, hv, hb]
  · rw [pk_un e2]
    by_cases e1 : p = a
    · subst e1; rw [pk_us, hv]
    · rw [pk_un e1, pk_un e2, pk_un e1]
theorem i_vc_gain {k : Nat} {u : SX} {v : SY} (I : i_Rel k u v) (hk : k + 4 ≤ 2048) (v1 : Int32) (v2 : Int32) : wpX_gain (fun r u' => wpY_gain (fun r' v' => r' = r ∧ i_Rel (k + 4) u' v') v v1 v2) u v1 v2 := by
  obtain ⟨xe, xs, xl, xc, xn⟩ := u
  obtain ⟨fn, fo, ft, fk, fi, yt, yf, yz, ym, yr, yk⟩ := v
  have hI : jo_RR xe xs xl yt yf := I
  have hJ := hI
  obtain ⟨E, S, K, L, ⟨g1, g2, g3, g4⟩, hXe, hXs, hXl, hL, hYT, hYF⟩ := hJ
  unfold wpX_gain
  by_cases hP : jo_isP v1 v2
  · obtain ⟨i, j, hi, hj, hn, rfl, rfl⟩ := jw_P hP
    have eK := g3 i j hi hj
    have eS := g4 i j hi hj
    rw [show 5 * i + j = i * 5 + j from by omega, show 5 * j + i = j * 5 + i from by omega] at eK eS
    have ea : i * 5 + j < 25 := by omega
    have eb : j * 5 + i < 25 := by omega
    obtain ⟨g1', g2', g3', g4'⟩ := jq_Gh ⟨g1, g2, g3, g4⟩ hi hj (Nat.le_refl 6) true
    have vy : vp_in ((5 : Int32) * nI i + nI j) 25 := by rw [jy_ix]; exact vp_in_nI (by omega) (by omega)
    have ey : yf ((5 : Int32) * nI i + nI j).toNatClampNeg = yf (i * 5 + j) := by rw [jy_ix, nI_clamp (by omega)]
    have vx : vp_in (nI i * 5 + nI j) 25 := by rw [jx_ix]; exact vp_in_nI (by omega) (by omega)
    have ex : xs (nI i * 5 + nI j).toNatClampNeg = xs (i * 5 + j) := by rw [jx_ix, nI_clamp (by omega)]
    have bx : xs (j * 5 + i) = xs (i * 5 + j) := by rw [hXs _ eb, hXs _ ea, eS]
    have bY : yf (j * 5 + i) = yf (i * 5 + j) := by
      cases hk : K (i * 5 + j) with
      | true => rw [(hYF _ ea).1 hk, (hYF _ eb).1 (by rw [← eK]; exact hk), eS]
      | false => rw [((hYF _ ea).2 hk).1, ((hYF _ eb).2 (by rw [← eK]; exact hk)).1]
    refine jq_xPt hP (jx_r1 (jx_fill (s := 31) g1 g2 hXe hXs (by omega) (fun xc1 hc1 => nm_r (hc1 31 (by omega) (by omega)) ⟨vx, nm_r ex (jq_put hi hj (jx_fill (s := 31) g1' g2' hXe (jq_XS hXs _ _ 6) (by omega) (fun xc2 hc2 => jq_put hi hj ?_)))⟩)))
    dsimp only
    rw [hc2 31 (by omega) (by omega)]
    unfold wpY_gain
    refine jq_yPt hP (jx_r1 (jr_extmin (s := 31) g1 g2 hYT hYF (by omega) (by omega) (kd := fun _ => true) (Or.inl ⟨rfl, fun _ => rfl⟩) (fun best fn fo ft fk fi yz ym yr yk hM => ⟨vy, nm_r ey (jq_setF hi hj (jr_extmin (s := 31) g1' g2' hYT (jq_YF1 hYF _ _ 6) (by omega) (by omega) (kd := fun _ => true) (Or.inl ⟨rfl, fun _ => rfl⟩) (fun best' fn fo ft fk fi yz ym yr yk hM' => jq_setF hi hj ⟨?_, ?_⟩)))⟩)))
    · rw [jr_mn_lv (by omega) (by omega) (fun _ => rfl) hM, jr_mn_lv (by omega) (by omega) (fun _ => rfl) hM']
    · refine ⟨E, S, K, L, ⟨g1, g2, g3, g4⟩, hXe, fun p hp => ?_, hXl, hL, hYT, fun p hp => ?_⟩
      · exact (jw_back rfl bx p).trans (hXs p hp)
      · have := jw_back (x := nI 6) (v := yf (i * 5 + j)) rfl bY p
        dsimp only
        rw [this]
        exact hYF p hp
  · refine jq_xPf hP (jx_r0 ?_)
    unfold wpY_gain
    exact jq_yPf hP (jx_r0 ⟨rfl, hI⟩)
