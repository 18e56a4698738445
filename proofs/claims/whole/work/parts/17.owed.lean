/-! the relation, the constructors, the three changes -/
def jo_RR (xe xs xl yt yf : Nat → Int32) : Prop := ∃ (E S : Nat → Nat) (K : Nat → Bool) (L : Nat → Nat), jo_Gh E S K ∧ (∀ i, i < 5 → xe i = nI (E i)) ∧ (∀ p, p < 25 → xs p = nI (S p)) ∧ (∀ i, i < 5 → xl i = nI (L i)) ∧ jo_Lk K L ∧ jo_YT E yt ∧ jo_YF S K yf
/-- the same tables, strengths and links on both sides -/
def i_Rel (_ : Nat) (u : SX) (v : SY) : Prop := jo_RR u.1 u.2.1 u.2.2.1 v.2.2.2.2.2.1 v.2.2.2.2.2.2.1
theorem i_up {k : Nat} {u : SX} {v : SY} (h : i_Rel k u v) : i_Rel (k + 4) u v := h
theorem jw_x0 {post : SX → Prop} (hp : ∀ xe, (∀ i, i < 5 → xe i = nI 3) → post (xe, fun _ => 0, fun _ => 0, fun _ => 0, fun _ => 0)) : wpX_init post := by
  have key : ∀ d i xe, i + d = 5 → (∀ j, j < i → xe j = nI 3) → wX_init_44 post (d + 1) (nI i) xe (fun _ => 0) (fun _ => 0) (fun _ => 0) (fun _ => 0) := by
    intro d
    induction d with
    | zero =>
      intro i xe hi h
      obtain rfl : i = 5 := by omega
      exact br_t (nI_le (a := 5) (Nat.le_refl _) (by omega)) (hp xe h)
    | succ d ih =>
      intro i xe hi h
      refine br_f (nI_ge (b := 5) (by omega) (by omega)) ⟨vp_in_nI (by omega) (by omega), nm_r (e' := upd xe i (nI 3)) ?_ (nm_r (nI_1 i) (ih (i + 1) _ (by omega) (fun j hj => ?_)))⟩
      · rw [nI_clamp (by omega)]; rfl
      · by_cases e : j = i
        · subst e; exact pk_us
        · rw [pk_un e]; exact h j (by omega)
  exact ⟨_, key 5 0 (fun _ => 0) (by omega) (fun j hj => by omega)⟩
theorem jw_y0 {post : SY → Prop} (hp : ∀ yt yf, (∀ i, i < 5 → yt i = nI 3) → (∀ p, p < 25 → yf p = -1) → post (0, 0, 0, 0, 0, yt, yf, fun _ => 0, fun _ => 0, fun _ => 0, fun _ => 0)) : wpY_init post := by
  have key : ∀ d i yt yf, i + d = 25 → (∀ j, j < 5 → j < i → yt j = nI 3) → (∀ p, p < i → yf p = -1) → wY_init_51 post 0 0 0 0 0 (d + 1) (nI i) yt yf (fun _ => 0) (fun _ => 0) (fun _ => 0) (fun _ => 0) := by
    intro d
    induction d with
    | zero =>
      intro i yt yf hi h1 h2
      obtain rfl : i = 25 := by omega
      exact br_t (nI_le (a := 25) (Nat.le_refl _) (by omega)) (hp yt yf (fun j hj => h1 j hj (by omega)) h2)
    | succ d ih =>
      intro i yt yf hi h1 h2
      refine br_f (nI_ge (b := 25) (by omega) (by omega)) ⟨vp_in_nI (by omega) (by omega), nm_r (e' := upd yf i (-1)) ?_ ⟨by decide, ?_, nm_r (e' := upd yt (i % 5) (nI 3)) ?_ (nm_r (nI_1 i) (ih (i + 1) _ _ (by omega) (fun j hj hj' => ?_) (fun p hp => ?_)))⟩⟩
      · rw [nI_clamp (by omega)]
      · rw [jy_rem (by omega)]; exact vp_in_nI (by omega) (by omega)
      · rw [jy_rem (by omega), nI_clamp (by omega)]; rfl
      · by_cases e : j = i % 5
        · rw [e]; exact pk_us
        · rw [pk_un e]; exact h1 j hj (by omega)
      · by_cases e : p = i
        · subst e; exact pk_us
        · rw [pk_un e]; exact h2 p (by omega)
  exact ⟨_, key 25 0 (fun _ => 0) (fun _ => 0) (by omega) (fun j _ hj => by omega) (fun j hj => by omega)⟩
theorem i_vc0 : wpX_init (fun u => wpY_init (fun v => i_Rel 0 u v)) := by
  refine jw_x0 (fun xe hxe => jw_y0 (fun yt yf hyt hyf => ?_))
  refine ⟨fun _ => 3, fun _ => 0, fun _ => false, fun _ => 0, ⟨fun _ _ => (by decide : (3 : Nat) ≤ 6), fun _ _ => (by decide : (0 : Nat) ≤ 6), fun _ _ _ _ => rfl, fun _ _ _ _ => rfl⟩, hxe, fun _ _ => rfl, fun _ _ => rfl, fun i _ => ⟨(by decide : (0 : Nat) < 32), fun j hj => js_h0 j hj⟩, hyt, fun p hp => ⟨fun q => (nomatch q), fun _ => ⟨hyf p hp, rfl⟩⟩⟩
theorem jw_UT {f : Nat → Int32} {E : Nat → Nat} (h : ∀ j, j < 5 → f j = nI (E j)) (i x : Nat) : ∀ j, j < 5 → upd f i (nI x) j = nI ((fun j => if j = i then x else E j) j) := by
  intro j hj
  dsimp only
  by_cases e : j = i
  · subst e; rw [pk_us, if_pos rfl]
  · rw [pk_un e, if_neg e]; exact h j hj
theorem i_vc_table {k : Nat} {u : SX} {v : SY} (I : i_Rel k u v) (hk : k + 4 ≤ 2048) (v1 : Int32) (v2 : Int32) : wpX_table (fun r u' => wpY_table (fun r' v' => r' = r ∧ i_Rel (k + 4) u' v') v v1 v2) u v1 v2 := by
  obtain ⟨xe, xs, xl, xc, xn⟩ := u
  obtain ⟨fn, fo, ft, fk, fi, yt, yf, yz, ym, yr, yk⟩ := v
  have hI : jo_RR xe xs xl yt yf := I
  have hJ := hI
  obtain ⟨E, S, K, L, ⟨g1, g2, g3, g4⟩, hXe, hXs, hXl, hL, hYT, hYF⟩ := hJ
  unfold wpX_table
  by_cases hT : jo_isT v1
  · refine jq_xTt hT (jx_r1 ?_)
    by_cases hE : jo_isE v2
    · refine jq_xEt hE (jx_r1 ?_)
      obtain ⟨i, hi, rfl⟩ := jq_T hT
      obtain ⟨x, hx, rfl⟩ := jq_E hE
      have vi : vp_in (nI i) 5 := vp_in_nI hi (by omega)
      refine ⟨vi, nm_r (e' := nI (E i)) (by rw [nI_clamp (by omega)]; exact hXe i hi) ⟨vi, nm_r (e' := upd xe i (nI x)) (by rw [nI_clamp (by omega)]) ?_⟩⟩
      unfold wpY_table
      refine jq_yTt hT (jx_r1 (jq_yE (fun q => absurd hE q) (fun _ => ⟨vi, nm_r (e' := nI (E i)) (by rw [nI_clamp (by omega)]; exact hYT i hi) ⟨vi, nm_r (e' := upd yt i (nI x)) (by rw [nI_clamp (by omega)]) ⟨rfl, ?_⟩⟩⟩)))
      refine ⟨fun j => if j = i then x else E j, S, K, L, ⟨fun j hj => ?_, g2, g3, g4⟩, jw_UT hXe i x, hXs, hXl, hL, jw_UT hYT i x, hYF⟩
      dsimp only
      split
      · exact hx
      · exact g1 j hj
    · refine jq_xEf hE (jx_r0 ?_)
      unfold wpY_table
      exact jq_yTt hT (jx_r1 (jq_yE (fun _ => ⟨rfl, hI⟩) (fun q => absurd q hE)))
  · refine jq_xTf hT (jx_r0 ?_)
    unfold wpY_table
    exact jq_yTf hT (jx_r0 ⟨rfl, hI⟩)
section
variable {xe xs xl xc xn : Nat → Int32} {L : Nat → Nat}
theorem jw_f35 (hXl : ∀ i, i < 5 → xl i = nI (L i)) {i j x : Nat} (hi : i < 5) (hj : j < 5) (hn : i ≠ j) {z0 : Int32} {post : Int32 → SX → Prop}
    (hp : post z0 (xe, upd (upd xs (i * 5 + j) (nI x)) (j * 5 + i) (nI x), upd (upd xl i (nI (L i ||| 2 ^ j))) j (nI (L j ||| 2 ^ i)), xc, xn)) : wX_filter_35 post (nI i) (nI j) (nI x) z0 xe xs xl xc xn := by
  have vi : vp_in (nI i) 5 := vp_in_nI hi (by omega)
  have vj : vp_in (nI j) 5 := vp_in_nI hj (by omega)
  refine ⟨vi, vi, nm_r (e' := upd xl i (nI (L i ||| 2 ^ j))) ?_ ⟨vj, vj, nm_r (e' := upd (upd xl i (nI (L i ||| 2 ^ j))) j (nI (L j ||| 2 ^ i))) ?_ (jq_put hi hj hp)⟩⟩
  · rw [nI_clamp (by omega), hXl i hi, jb_shl j (by omega), nx_or]
  · rw [nI_clamp (by omega), pk_un (fun q => hn q.symm), hXl j hj, jb_shl i (by omega), nx_or]
end
theorem jw_P {v1 v2 : Int32} (h : jo_isP v1 v2) : ∃ i j, i < 5 ∧ j < 5 ∧ i ≠ j ∧ v1 = nI i ∧ v2 = nI j := by
  obtain ⟨i, hi, rfl⟩ := jq_T h.1
  obtain ⟨j, hj, rfl⟩ := jq_T h.2.1
  exact ⟨i, j, hi, hj, fun q => h.2.2 (by rw [q]), rfl, rfl⟩
theorem i_vc_filter {k : Nat} {u : SX} {v : SY} (I : i_Rel k u v) (hk : k + 4 ≤ 2048) (v1 : Int32) (v2 : Int32) (v3 : Int32) : wpX_filter (fun r u' => wpY_filter (fun r' v' => r' = r ∧ i_Rel (k + 4) u' v') v v1 v2 v3) u v1 v2 v3 := by
  obtain ⟨xe, xs, xl, xc, xn⟩ := u
  obtain ⟨fn, fo, ft, fk, fi, yt, yf, yz, ym, yr, yk⟩ := v
  have hI : jo_RR xe xs xl yt yf := I
  have hJ := hI
  obtain ⟨E, S, K, L, ⟨g1, g2, g3, g4⟩, hXe, hXs, hXl, hL, hYT, hYF⟩ := hJ
  unfold wpX_filter
  by_cases hP : jo_isP v1 v2
  · refine jq_xPt hP (jx_r1 ?_)
    by_cases hE : jo_isE v3
    · refine jq_xEt hE (jx_r1 ?_)
      obtain ⟨i, j, hi, hj, hn, rfl, rfl⟩ := jw_P hP
      obtain ⟨x, hx, rfl⟩ := jq_E hE
      have e1 : xl (nI i).toNatClampNeg = nI (L i) := by rw [nI_clamp (by omega)]; exact hXl i hi
      have eK := (hL i hi).2 j hj
      rw [show 5 * i + j = i * 5 + j from by omega] at eK
      have vy : vp_in ((5 : Int32) * nI i + nI j) 25 := by rw [jy_ix]; exact vp_in_nI (by omega) (by omega)
      have ey : yf ((5 : Int32) * nI i + nI j).toNatClampNeg = yf (i * 5 + j) := by rw [jy_ix, nI_clamp (by omega)]
      have hend : jo_RR xe (upd (upd xs (i * 5 + j) (nI x)) (j * 5 + i) (nI x)) (upd (upd xl i (nI (L i ||| 2 ^ j))) j (nI (L j ||| 2 ^ i))) yt (upd (upd yf (i * 5 + j) (nI x)) (j * 5 + i) (nI x)) :=
        ⟨E, _, _, _, jq_Gh ⟨g1, g2, g3, g4⟩ hi hj hx true, hXe, jq_XS hXs _ _ x, jq_XL hXl, jq_L1 hL hi hj hn, hYT, jq_YF1 hYF _ _ x⟩
      refine ⟨vp_in_nI hi (by omega), ?_⟩
      rw [e1]
      refine jx_has (hL i hi).1 hj (fun hb => ?_) (fun hb => ?_)
      · rw [hb] at eK
        refine jw_f35 hXl hi hj hn ?_
        unfold wpY_filter
        refine jq_yPt hP (jx_r1 (jq_yE (fun q => absurd hE q) (fun _ => ⟨vy, ?_⟩)))
        rw [ey, ((hYF _ (by omega)).2 eK.symm).1]
        exact br_f (by decide) (jq_setF hi hj ⟨rfl, hend⟩)
      · rw [hb] at eK
        refine jw_f35 hXl hi hj hn ?_
        unfold wpY_filter
        refine jq_yPt hP (jx_r1 (jq_yE (fun q => absurd hE q) (fun _ => ⟨vy, ?_⟩)))
        have h6 := g2 (i * 5 + j) (by omega)
        rw [ey, (hYF _ (by omega)).1 eK.symm]
        exact br_t (nI_pos' (by omega)) (jq_setF hi hj ⟨rfl, hend⟩)
    · refine jq_xEf hE (jx_r0 ?_)
      unfold wpY_filter
      exact jq_yPt hP (jx_r1 (jq_yE (fun _ => ⟨rfl, hI⟩) (fun q => absurd q hE)))
  · refine jq_xPf hP (jx_r0 ?_)
    unfold wpY_filter
    exact jq_yPf hP (jx_r0 ⟨rfl, hI⟩)
theorem jw_same {S : Nat → Nat} {K : Nat → Bool} {yf : Nat → Int32} (h : jo_YF S K yf) {a b : Nat} (ha : K a = false) (hb : K b = false) : jo_YF S K (upd (upd yf a (-1)) b (-1)) := by
  intro p hp
  by_cases e2 : p = b
  · rw [e2, pk_us]
    rw [e2] at hp
    exact ⟨fun q => absurd q (by rw [hb]; decide), fun q => ⟨rfl, ((h b hp).2 q).2⟩⟩
  · rw [pk_un e2]
    by_cases e1 : p = a
    · rw [e1, pk_us]
      rw [e1] at hp
      exact ⟨fun q => absurd q (by rw [ha]; decide), fun q => ⟨rfl, ((h a hp).2 q).2⟩⟩
    · rw [pk_un e1]; exact h p hp
theorem i_vc_unfilter {k : Nat} {u : SX} {v : SY} (I : i_Rel k u v) (hk : k + 4 ≤ 2048) (v1 : Int32) (v2 : Int32) : wpX_unfilter (fun r u' => wpY_unfilter (fun r' v' => r' = r ∧ i_Rel (k + 4) u' v') v v1 v2) u v1 v2 := by
  obtain ⟨xe, xs, xl, xc, xn⟩ := u
  obtain ⟨fn, fo, ft, fk, fi, yt, yf, yz, ym, yr, yk⟩ := v
  have hI : jo_RR xe xs xl yt yf := I
  have hJ := hI
  obtain ⟨E, S, K, L, ⟨g1, g2, g3, g4⟩, hXe, hXs, hXl, hL, hYT, hYF⟩ := hJ
  unfold wpX_unfilter
  by_cases hP : jo_isP v1 v2
  · refine jq_xPt hP (jx_r1 ?_)
    obtain ⟨i, j, hi, hj, hn, rfl, rfl⟩ := jw_P hP
    have e1 : xl (nI i).toNatClampNeg = nI (L i) := by rw [nI_clamp (by omega)]; exact hXl i hi
    have eK := (hL i hi).2 j hj
    have eK2 := g3 i j hi hj
    rw [show 5 * i + j = i * 5 + j from by omega] at eK eK2
    rw [show 5 * j + i = j * 5 + i from by omega] at eK2
    have vi : vp_in (nI i) 5 := vp_in_nI hi (by omega)
    have vj : vp_in (nI j) 5 := vp_in_nI hj (by omega)
    have vy : vp_in ((5 : Int32) * nI i + nI j) 25 := by rw [jy_ix]; exact vp_in_nI (by omega) (by omega)
    have ey : yf ((5 : Int32) * nI i + nI j).toNatClampNeg = yf (i * 5 + j) := by rw [jy_ix, nI_clamp (by omega)]
    have vx : vp_in (nI i * 5 + nI j) 25 := by rw [jx_ix]; exact vp_in_nI (by omega) (by omega)
    have ex : xs (nI i * 5 + nI j).toNatClampNeg = nI (S (i * 5 + j)) := by rw [jx_ix, nI_clamp (by omega)]; exact hXs _ (by omega)
    refine ⟨vi, ?_⟩
    rw [e1]
    refine jx_has (hL i hi).1 hj (fun hb => ?_) (fun hb => ?_)
    · rw [hb] at eK
      unfold wpY_unfilter
      refine jq_yPt hP (jx_r1 ⟨vy, nm_r (e' := -1) ?_ (jq_setF hi hj (br_f (by decide) ⟨rfl, ?_⟩))⟩)
      · rw [ey]; exact ((hYF _ (by omega)).2 eK.symm).1
      · exact ⟨E, S, K, L, ⟨g1, g2, g3, g4⟩, hXe, hXs, hXl, hL, hYT, jw_same hYF eK.symm (by rw [← eK2]; exact eK.symm)⟩
    · rw [hb] at eK
      refine ⟨vx, nm_r ex ⟨vi, vi, nm_r (e' := upd xl i (nI (jo_clr (L i) j))) ?_ ⟨vj, vj, nm_r (e' := upd (upd xl i (nI (jo_clr (L i) j))) j (nI (jo_clr (L j) i))) ?_ (jq_put hi hj ?_)⟩⟩⟩
      · rw [nI_clamp (by omega), jb_clr _ (hL i hi).1 j hj]; rfl
      · rw [nI_clamp (by omega), pk_un (fun q => hn q.symm), hXl j hj, jb_clr _ (hL j hj).1 i hi]; rfl
      · unfold wpY_unfilter
        have h6 := g2 (i * 5 + j) (by omega)
        refine jq_yPt hP (jx_r1 ⟨vy, nm_r (e' := nI (S (i * 5 + j))) ?_ (jq_setF hi hj (br_t (nI_pos' (by omega)) ⟨rfl, ?_⟩))⟩)
        · rw [ey]; exact (hYF _ (by omega)).1 eK.symm
        · exact ⟨E, _, _, _, jq_Gh ⟨g1, g2, g3, g4⟩ hi hj (Nat.zero_le _) false, hXe, jq_XS hXs _ _ 0, jq_XL hXl, jq_L0 hL hi hj hn, hYT, jq_YF0 hYF _ _⟩
  · refine jq_xPf hP (jx_r0 ?_)
    unfold wpY_unfilter
    exact jq_yPf hP (jx_r0 ⟨rfl, hI⟩)
