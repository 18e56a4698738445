/-! the reference: counts, left, linearTable; what extreme answers -/
theorem jr_n0 {s : Nat} (h1 : 1 ≤ s) (hs : s < 32) : 0 < jo_n s := by
  obtain ⟨p, hp⟩ := List.exists_mem_of_ne_nil _ (jv_ne s h1 hs)
  obtain ⟨i, hi, _⟩ := jm_pj_ex h1 hs hp
  omega
theorem jr_mn_lv {z : Nat → Nat} {kd : List (Nat × Nat) → Bool} {s : Nat} (h1 : 1 ≤ s) (hs : s < 32) (hk : ∀ p, kd p = true) {best : Int32} (h : jo_Mn z kd s (jo_n s) best) : best = nI (jo_lv z s) := by
  rcases h with ⟨_, h⟩ | ⟨j, j1, _, e, H⟩
  · have := h 0 (jr_n0 h1 hs); rw [hk] at this; exact nomatch this
  · rw [e, jv_lu h1 hs ⟨⟨jo_pj s j, jm_pj_in h1 hs j1, rfl⟩, fun p hp => ?_⟩]
    obtain ⟨q, hq, rfl⟩ := jm_pj_ex h1 hs hp
    exact H q hq (hk _)
theorem jr_mx_gv {z : Nat → Nat} {kd : List (Nat × Nat) → Bool} {s : Nat} (h1 : 1 ≤ s) (hs : s < 32) (hk : ∀ p, kd p = true) {best : Int32} (h : jo_Mx z kd s (jo_n s) best) : best = nI (jo_gv z s) := by
  rcases h with ⟨_, h⟩ | ⟨j, j1, _, e, H⟩
  · have := h 0 (jr_n0 h1 hs); rw [hk] at this; exact nomatch this
  · rw [e, jv_gu h1 hs ⟨⟨jo_pj s j, jm_pj_in h1 hs j1, rfl⟩, fun p hp => ?_⟩]
    obtain ⟨q, hq, rfl⟩ := jm_pj_ex h1 hs hp
    exact H q hq (hk _)
theorem jr_mn_kv {z : Nat → Nat} {lk : Nat → Nat → Bool} {kd : List (Nat × Nat) → Bool} {s : Nat} (h1 : 1 ≤ s) (hs : s < 32) (hk : ∀ p, kd p = jo_lkd lk p) {best : Int32} (h : jo_Mn z kd s (jo_n s) best) : best = jo_ki (jo_kv z lk s) := by
  rcases h with ⟨e, h⟩ | ⟨j, j1, j2, e, H⟩
  · rw [e, jv_ku (o := none) h1 hs ⟨fun _ p hp => ?_, fun v q => nomatch q⟩]
    · rfl
    · obtain ⟨q, hq, rfl⟩ := jm_pj_ex h1 hs hp
      rw [← hk]; exact h q hq
  · rw [e, jv_ku (o := some (jo_c z (jo_pj s j))) h1 hs ⟨fun q => (nomatch q), fun v q => ?_⟩]
    · rfl
    · cases q
      refine ⟨⟨jo_pj s j, jm_pj_in h1 hs j1, by rw [← hk]; exact j2, rfl⟩, fun p hp hl => ?_⟩
      obtain ⟨q, hq, rfl⟩ := jm_pj_ex h1 hs hp
      exact H q hq (by rw [hk]; exact hl)
theorem jr_mn_ll {z : Nat → Nat} {kd : List (Nat × Nat) → Bool} {s : Nat} (h1 : 1 ≤ s) (hs : s < 32) (hk : ∀ p, kd p = jo_lin p) {best : Int32} (h : jo_Mn z kd s (jo_n s) best) : best = nI (jo_ll z s 0) := by
  have hz := jl_zero s hs
  rcases h with ⟨_, h⟩ | ⟨j, j1, j2, e, H⟩
  · obtain ⟨⟨l, hl, _⟩, _⟩ := jv_ll (z := z) hs (by omega) hz
    obtain ⟨i, hi, hi1, _⟩ := jm_lin_b (z := z) h1 hs hl
    have := h i hi; rw [hk, hi1] at this; exact nomatch this
  · rw [hk] at j2
    obtain ⟨l, hl, el⟩ := jm_lin_a (z := z) h1 hs j1 j2
    rw [e, jv_llu hs (by omega) hz ⟨⟨l, hl, el.symm⟩, fun l' hl' => ?_⟩]
    obtain ⟨i, hi, hi1, hi2⟩ := jm_lin_b (z := z) h1 hs hl'
    rw [← hi2]; exact H i hi (by rw [hk]; exact hi1)
section
variable {fn fo ft fk fi : Int32} {yt yf yz ym yr yk : Nat → Int32} {E S : Nat → Nat} {K : Nat → Bool}
theorem jr_extmin (hE : ∀ i, i < 5 → E i ≤ 6) (hS : ∀ p, p < 25 → S p ≤ 6) (hT : jo_YT E yt) (hF : jo_YF S K yf) {s : Nat} (h1 : 1 ≤ s) (hs : s < 32) {x2 : Int32} {kd : List (Nat × Nat) → Bool} (hk : jo_Kd K x2 kd) {post : Int32 → SY → Prop}
    (hp : ∀ best fn fo ft fk fi yz ym yr yk, jo_Mn (jo_sz E S) kd s (jo_n s) best → post best (fn, fo, ft, fk, fi, yt, yf, yz, ym, yr, yk)) : wpY_extreme post (fn, fo, ft, fk, fi, yt, yf, yz, ym, yr, yk) (nI s) x2 0 := by
  have hz : ∀ s, s < 32 → jo_sz E S s ≤ 64 ^ (jo_m s) := fun s _ => js_sz hE hS s
  unfold wpY_extreme
  exact jp_prepare hE hS hT hF h1 hs (fun yz' ym' hz' hm => jy_count hs (jr_min hS hF hz hz' h1 hs hm hk (fun best fo ft fk fi yr yk hM => hp best _ fo ft fk fi _ _ yr yk hM)))
theorem jr_extmax (hE : ∀ i, i < 5 → E i ≤ 6) (hS : ∀ p, p < 25 → S p ≤ 6) (hT : jo_YT E yt) (hF : jo_YF S K yf) {s : Nat} (h1 : 1 ≤ s) (hs : s < 32) {x2 : Int32} {kd : List (Nat × Nat) → Bool} (hk : jo_Kd K x2 kd) {post : Int32 → SY → Prop}
    (hp : ∀ best fn fo ft fk fi yz ym yr yk, jo_Mx (jo_sz E S) kd s (jo_n s) best → post best (fn, fo, ft, fk, fi, yt, yf, yz, ym, yr, yk)) : wpY_extreme post (fn, fo, ft, fk, fi, yt, yf, yz, ym, yr, yk) (nI s) x2 1 := by
  have hz : ∀ s, s < 32 → jo_sz E S s ≤ 64 ^ (jo_m s) := fun s _ => js_sz hE hS s
  unfold wpY_extreme
  exact jp_prepare hE hS hT hF h1 hs (fun yz' ym' hz' hm => jy_count hs (jr_max hS hF hz hz' h1 hs hm hk (fun best fo ft fk fi yr yk hM => hp best _ fo ft fk fi _ _ yr yk hM)))
theorem jr_cnt_s {s i : Nat} (fb : List (Nat × Nat) → Bool) : ((List.range (i + 1)).map (jo_pj s)).countP fb = ((List.range i).map (jo_pj s)).countP fb + if fb (jo_pj s i) = true then 1 else 0 := by
  rw [List.range_succ, List.map_append, List.countP_append]
  simp [List.countP_cons]
theorem jr_countPlans (hE : ∀ i, i < 5 → E i ≤ 6) (hS : ∀ p, p < 25 → S p ≤ 6) (hT : jo_YT E yt) (hF : jo_YF S K yf) {s : Nat} (h1 : 1 ≤ s) (hs : s < 32) {x2 x3 : Int32} {kd fb : List (Nat × Nat) → Bool} (hk : jo_Kd K x2 kd)
    (hfb : (x3 = -1 ∧ ∀ p, fb p = kd p) ∨ (∃ o, x3 = nI o ∧ o < 2 ^ 31 ∧ ∀ p, fb p = (kd p && (jo_c (jo_sz E S) p == o)))) {post : Int32 → SY → Prop}
    (hp : ∀ fn fo ft fk fi yz ym yr yk, post (nI ((jo_P s).countP fb)) (fn, fo, ft, fk, fi, yt, yf, yz, ym, yr, yk)) : wpY_countPlans post (fn, fo, ft, fk, fi, yt, yf, yz, ym, yr, yk) (nI s) x2 x3 := by
  have hzb : ∀ s, s < 32 → jo_sz E S s ≤ 64 ^ (jo_m s) := fun s _ => js_sz hE hS s
  have hn := jr_n s hs h1
  unfold wpY_countPlans
  refine jp_prepare hE hS hT hF h1 hs (fun yz ym hz hm => jy_count hs ?_)
  have key : ∀ d i fo ft fk fi yr yk, i + d = jo_n s → wY_countPlans_20 post (nI s) x2 x3 (nI (jo_fact (jo_m s))) (nI (jo_m s)) (d + 1) (nI (((List.range i).map (jo_pj s)).countP fb)) (nI i) (nI (jo_fc s)) fo ft fk fi yt yf yz ym yr yk := by
    intro d
    induction d with
    | zero =>
      intro i fo ft fk fi yr yk hi
      obtain rfl : i = jo_n s := by omega
      rw [jm_pj_cnt h1 hs]
      exact br_t (by rw [jr_mul]; exact nI_le (Nat.le_refl _) (by omega)) (hp _ _ _ _ _ _ _ _ _)
    | succ d ih =>
      intro i fo ft fk fi yr yk hi
      have hi' : i < jo_n s := by omega
      obtain ⟨c1, c14, _⟩ := jr_rem hs h1 hi'
      have hcb := jm_cb' hzb h1 hs (jm_pj_in h1 hs hi')
      have no : ∀ {fo ft fk fi yr yk}, fb (jo_pj s i) = false → wY_countPlans_20 post (nI s) x2 x3 (nI (jo_fact (jo_m s))) (nI (jo_m s)) (d + 1) (nI (((List.range i).map (jo_pj s)).countP fb)) (nI (i + 1)) (nI (jo_fc s)) fo ft fk fi yt yf yz ym yr yk := by
        intro fo ft fk fi yr yk e
        have := ih (i + 1) fo ft fk fi yr yk (by omega)
        rw [jr_cnt_s, if_neg (by rw [e]; decide)] at this
        exact this
      have yes : ∀ {fo ft fk fi yr yk}, fb (jo_pj s i) = true → wY_countPlans_20 post (nI s) x2 x3 (nI (jo_fact (jo_m s))) (nI (jo_m s)) (d + 1) (nI (((List.range i).map (jo_pj s)).countP fb + 1)) (nI (i + 1)) (nI (jo_fc s)) fo ft fk fi yt yf yz ym yr yk := by
        intro fo ft fk fi yr yk e
        have := ih (i + 1) fo ft fk fi yr yk (by omega)
        rw [jr_cnt_s, if_pos e] at this
        exact this
      refine br_f (by rw [jr_mul]; exact nI_ge (by omega) (by omega)) ⟨nI_ne0 (by omega) (by omega), jr_step hS hF hz h1 hs hi' hm (fun _ h => h) (fun yr' yk' _ _ => jr_kind hk (fun e => nm_r (nI_1 i) (no ?_)) (fun e => ?_))⟩
      · rcases hfb with ⟨_, h⟩ | ⟨o, _, _, h⟩
        · rw [h, e]
        · rw [h, e]; rfl
      · rcases hfb with ⟨rfl, h⟩ | ⟨o, rfl, ho, h⟩
        · exact br_t (by decide) (nm_r (nI_1 _) (nm_r (nI_1 i) (yes (by rw [h, e]))))
        · refine br_f (nI_pos ho) (pk_eq (jo_c (jo_sz E S) (jo_pj s i)) o (fun q => nm_r (nI_1 _) (nm_r (nI_1 i) (yes ?_))) (fun q => nm_r (nI_1 i) (no ?_)) rfl rfl (by omega) ho)
          · rw [h, e, q]; simp
          · rw [h, e]; simpa using q
  exact ⟨_, key (jo_n s) 0 fo ft fk fi yr yk (by omega)⟩
theorem jr_left0 (hS : ∀ p, p < 25 → S p ≤ 6) (hF : jo_YF S K yf) {z : Nat → Nat} (hz : ∀ t, t < 32 → yz t = nI (z t)) {s : Nat} (h1 : 1 ≤ s) (hs : s < 32) (ho : jo_one s = true) (hm : jo_Fm (jo_FM (jo_m s)) ym) {x2 : Int32} {post : Int32 → SY → Prop}
    (hp : ∀ fo ft fk fi yr yk, post (-4) (nI (jo_fc s), fo, ft, fk, fi, yt, yf, yz, ym, yr, yk)) :
    ∃ n, wY_left_38 post (nI s) x2 (nI (jo_fact (jo_m s))) (nI (jo_m s)) n (-4) 0 (nI (jo_fc s)) fo ft fk fi yt yf yz ym yr yk := by
  have hn := jr_n s hs h1
  have key : ∀ d i fo ft fk fi yr yk, i + d = jo_n s → wY_left_38 post (nI s) x2 (nI (jo_fact (jo_m s))) (nI (jo_m s)) (d + 1) (-4) (nI i) (nI (jo_fc s)) fo ft fk fi yt yf yz ym yr yk := by
    intro d
    induction d with
    | zero =>
      intro i fo ft fk fi yr yk hi
      obtain rfl : i = jo_n s := by omega
      exact br_t (by rw [jr_mul]; exact nI_le (Nat.le_refl _) (by omega)) (hp _ _ _ _ _ _)
    | succ d ih =>
      intro i fo ft fk fi yr yk hi
      have hi' : i < jo_n s := by omega
      obtain ⟨c1, c14, _⟩ := jr_rem hs h1 hi'
      have e0 : jo_pj s i = [] := by
        have := jm_pj_in h1 hs hi'
        rw [jm_P_one ho, List.mem_singleton] at this
        exact this
      refine br_f (by rw [jr_mul]; exact nI_ge (by omega) (by omega)) ⟨nI_ne0 (by omega) (by omega), jr_step hS hF hz h1 hs hi' hm (fun _ h => h) (fun yr' yk' _ _ => ?_)⟩
      rw [e0]
      exact ⟨fun _ => br_t (by decide) (nm_r (nI_1 i) (ih (i + 1) _ _ _ _ _ _ (by omega))), fun _ => nm_r (nI_1 i) (ih (i + 1) _ _ _ _ _ _ (by omega))⟩
  exact ⟨_, key (jo_n s) 0 fo ft fk fi yr yk (by omega)⟩
theorem jr_la {s : Nat} (h1 : 1 ≤ s) (hs : s < 32) (ho : ¬ jo_one s = true) {p : List (Nat × Nat)} (hp : p ∈ jo_P s) : p ≠ [] ∧ jo_la p ∈ jo_ps s s ∧ ∃ p1, p1 ∈ jo_P (jo_la p) ∧ ∃ q, q ∈ jo_P (s ^^^ jo_la p) ∧ p1 ++ (q ++ [(jo_la p, s ^^^ jo_la p)]) = p := by
  obtain ⟨a, ha, p1, hp1, q, hq, rfl⟩ := (jm_mem h1 hs ho).mp hp
  have e : jo_la (p1 ++ (q ++ [(a, s ^^^ a)])) = a := by
    unfold jo_la
    rw [← List.append_assoc, List.getLast?_append]
    rfl
  rw [e]
  exact ⟨by simp, ha, p1, hp1, q, hq, rfl⟩
theorem jr_left1 (hS : ∀ p, p < 25 → S p ≤ 6) (hF : jo_YF S K yf) {z : Nat → Nat} (hzb : ∀ s, s < 32 → z s ≤ 64 ^ (jo_m s)) (hz : ∀ t, t < 32 → yz t = nI (z t)) {s : Nat} (h1 : 1 ≤ s) (hs : s < 32) (ho : ¬ jo_one s = true) (hm : jo_Fm (jo_FM (jo_m s)) ym) {post : Int32 → SY → Prop}
    (hp : ∀ a fo ft fk fi yr yk, jo_LF z s a → post (nI a) (nI (jo_fc s), fo, ft, fk, fi, yt, yf, yz, ym, yr, yk)) :
    ∃ n, wY_left_38 post (nI s) (nI (jo_lv z s)) (nI (jo_fact (jo_m s))) (nI (jo_m s)) n (-4) 0 (nI (jo_fc s)) fo ft fk fi yt yf yz ym yr yk := by
  have hn := jr_n s hs h1
  have hlv := jm_Lst_le hzb h1 hs (jv_l (z := z) h1 hs)
  have key : ∀ d i best fo ft fk fi yr yk, i + d = jo_n s → ((best = -4 ∧ ∀ j, j < i → jo_c z (jo_pj s j) ≠ jo_lv z s) ∨ ∃ j, j < i ∧ jo_c z (jo_pj s j) = jo_lv z s ∧ best = nI (jo_la (jo_pj s j)) ∧ ∀ q, q < i → jo_c z (jo_pj s q) = jo_lv z s → jo_la (jo_pj s j) ≤ jo_la (jo_pj s q)) →
      wY_left_38 post (nI s) (nI (jo_lv z s)) (nI (jo_fact (jo_m s))) (nI (jo_m s)) (d + 1) best (nI i) (nI (jo_fc s)) fo ft fk fi yt yf yz ym yr yk := by
    intro d
    induction d with
    | zero =>
      intro i best fo ft fk fi yr yk hi hM
      obtain rfl : i = jo_n s := by omega
      refine br_t (by rw [jr_mul]; exact nI_le (Nat.le_refl _) (by omega)) ?_
      rcases hM with ⟨_, h⟩ | ⟨j, j1, j2, rfl, j4⟩
      · obtain ⟨⟨p, hp, e⟩, _⟩ := jv_l (z := z) h1 hs
        obtain ⟨q, hq, rfl⟩ := jm_pj_ex h1 hs hp
        exact absurd e (h q hq)
      · refine hp _ _ _ _ _ _ _ ?_
        obtain ⟨_, ha, p1, hp1, q, hq, e⟩ := jr_la h1 hs ho (jm_pj_in h1 hs j1)
        have sum : ∀ b, b ∈ jo_ps s s → jo_lv z s ≤ jo_lv z b + jo_lv z (s ^^^ b) + z s := by
          intro b hb
          obtain ⟨⟨⟨⟨p, hp, e1⟩, _⟩, ⟨⟨q, hq, e2⟩, _⟩⟩, _⟩ := jv_lv2 hzb h1 hs ho hb
          have := (jv_l (z := z) h1 hs).2 _ ((jm_mem h1 hs ho).mpr ⟨b, hb, p, hp, q, hq, rfl⟩)
          rw [jm_c_join, jm_or hs hb] at this
          omega
        refine ⟨ha, ?_, fun b hb hlt e' => ?_⟩
        · have a1 := sum _ ha
          obtain ⟨⟨l1, l2⟩, _⟩ := jv_lv2 hzb h1 hs ho ha
          have a2 := l1.2 p1 hp1
          have a3 := l2.2 q hq
          have a4 : jo_c z (p1 ++ (q ++ [(jo_la (jo_pj s j), s ^^^ jo_la (jo_pj s j))])) = jo_lv z s := by rw [e]; exact j2
          rw [jm_c_join, jm_or hs ha] at a4
          omega
        · obtain ⟨⟨⟨⟨p, hp, e1⟩, _⟩, ⟨⟨q, hq, e2⟩, _⟩⟩, _⟩ := jv_lv2 hzb h1 hs ho hb
          have hin := (jm_mem h1 hs ho).mpr ⟨b, hb, p, hp, q, hq, rfl⟩
          obtain ⟨w, hw, ew⟩ := jm_pj_ex h1 hs hin
          have c1 : jo_c z (jo_pj s w) = jo_lv z s := by rw [ew, jm_c_join, jm_or hs hb, e1, e2, e']
          have c2 := j4 w hw c1
          have c3 : jo_la (jo_pj s w) = b := by
            rw [ew]
            unfold jo_la
            rw [← List.append_assoc, List.getLast?_append]
            rfl
          omega
    | succ d ih =>
      intro i best fo ft fk fi yr yk hi hM
      have hi' : i < jo_n s := by omega
      obtain ⟨c1, c14, _⟩ := jr_rem hs h1 hi'
      have hin := jm_pj_in h1 hs hi'
      have hcb := jm_cb' hzb h1 hs hin
      obtain ⟨hne, hla, _⟩ := jr_la h1 hs ho hin
      have hla5 := ((jm_ps s s _).mp hla).2.1
      refine br_f (by rw [jr_mul]; exact nI_ge (by omega) (by omega)) ⟨nI_ne0 (by omega) (by omega), jr_step hS hF hz h1 hs hi' hm (fun _ h => h) (fun yr' yk' _ _ => ?_)⟩
      rw [jr_lft hne]
      refine pk_eq (jo_c z (jo_pj s i)) (jo_lv z s) (fun e => ?_) (fun e => nm_r (nI_1 i) ?_) rfl rfl (by omega) (by omega)
      · rcases hM with ⟨rfl, h⟩ | ⟨j, j1, j2, rfl, j4⟩
        · refine br_t (by decide) (nm_r (nI_1 i) (ih (i + 1) _ _ _ _ _ _ _ (by omega) (Or.inr ⟨i, by omega, e, rfl, fun q hq eq => ?_⟩)))
          by_cases q' : q = i
          · subst q'; exact Nat.le_refl _
          · exact absurd eq (h q (by omega))
        · have hj5 := ((jm_ps s s _).mp (jr_la h1 hs ho (jm_pj_in h1 hs (by omega : j < jo_n s))).2.1).2.1
          refine br_f (nI_pos (by omega)) (pk_le (jo_la (jo_pj s j)) (jo_la (jo_pj s i)) (fun hle => nm_r (nI_1 i) ?_) (fun hlt => nm_r (nI_1 i) ?_) rfl rfl (by omega) (by omega))
          · refine ih (i + 1) _ _ _ _ _ _ _ (by omega) (Or.inr ⟨j, by omega, j2, rfl, fun q hq eq => ?_⟩)
            by_cases q' : q = i
            · subst q'; exact hle
            · exact j4 q (by omega) eq
          · refine ih (i + 1) _ _ _ _ _ _ _ (by omega) (Or.inr ⟨i, by omega, e, rfl, fun q hq eq => ?_⟩)
            by_cases q' : q = i
            · subst q'; exact Nat.le_refl _
            · have := j4 q (by omega) eq; omega
      · refine ih (i + 1) _ _ _ _ _ _ _ (by omega) ?_
        rcases hM with ⟨rfl, h⟩ | ⟨j, j1, j2, rfl, j4⟩
        · refine Or.inl ⟨rfl, fun j hj => ?_⟩
          by_cases q : j = i
          · subst q; exact e
          · exact h j (by omega)
        · refine Or.inr ⟨j, by omega, j2, rfl, fun q hq eq => ?_⟩
          by_cases q' : q = i
          · subst q'; exact absurd eq e
          · exact j4 q (by omega) eq
  exact ⟨_, key (jo_n s) 0 (-4) fo ft fk fi yr yk (by omega) (Or.inl ⟨rfl, fun j hj => by omega⟩)⟩
def jo_at (l : List Nat) (x : Int32) : Int32 := if x < 0 then -4 else jo_nth l x.toNatClampNeg
theorem jr_nth_big {l : List Nat} {q : Nat} (h : l.length ≤ q) : jo_nth l q = -4 := by
  unfold jo_nth
  rw [List.getElem?_eq_none h]
theorem jr_linTab (hS : ∀ p, p < 25 → S p ≤ 6) (hF : jo_YF S K yf) {z : Nat → Nat} (hzb : ∀ s, s < 32 → z s ≤ 64 ^ (jo_m s)) (hz : ∀ t, t < 32 → yz t = nI (z t)) {s : Nat} (h1 : 1 ≤ s) (hs : s < 32) (hm : jo_Fm (jo_FM (jo_m s)) ym) {x2 : Int32} {l : List Nat} (hl : jo_Fst z s 0 (jo_ll z s 0) l) {post : Int32 → SY → Prop}
    (hp : ∀ fo ft fk fi yr yk, post (jo_at l x2) (nI (jo_fc s), fo, ft, fk, fi, yt, yf, yz, ym, yr, yk)) :
    ∃ n, wY_linearTable_35 post (nI s) x2 (nI (jo_ll z s 0)) (nI (jo_fact (jo_m s))) (nI (jo_m s)) n 0 (nI (jo_fc s)) fo ft fk fi yt yf yz ym yr yk := by
  have hn := jr_n s hs h1
  have m5 := js_m5 s hs
  have hll := jl_llD hzb hs (by omega) (jl_zero s hs)
  have key : ∀ d i fo ft fk fi yr yk, i + d = jo_n s → (∀ j, j < i → ¬ (jo_lin (jo_pj s j) = true ∧ jo_c z (jo_pj s j) = jo_ll z s 0)) →
      wY_linearTable_35 post (nI s) x2 (nI (jo_ll z s 0)) (nI (jo_fact (jo_m s))) (nI (jo_m s)) (d + 1) (nI i) (nI (jo_fc s)) fo ft fk fi yt yf yz ym yr yk := by
    intro d
    induction d with
    | zero =>
      intro i fo ft fk fi yr yk hi hno
      obtain rfl : i = jo_n s := by omega
      obtain ⟨⟨l', hl', e⟩, _⟩ := jv_ll (z := z) hs (by omega) (jl_zero s hs)
      obtain ⟨i, hi, hi1, hi2⟩ := jm_lin_b (z := z) h1 hs hl'
      exact absurd ⟨hi1, hi2.trans e⟩ (hno i hi)
    | succ d ih =>
      intro i fo ft fk fi yr yk hi hno
      have hi' : i < jo_n s := by omega
      obtain ⟨c1, c14, _⟩ := jr_rem hs h1 hi'
      have hcb := jm_cb' hzb h1 hs (jm_pj_in h1 hs hi')
      have next : ∀ {fo ft fk fi yr yk}, ¬ (jo_lin (jo_pj s i) = true ∧ jo_c z (jo_pj s i) = jo_ll z s 0) → wY_linearTable_35 post (nI s) x2 (nI (jo_ll z s 0)) (nI (jo_fact (jo_m s))) (nI (jo_m s)) (d + 1) (nI (i + 1)) (nI (jo_fc s)) fo ft fk fi yt yf yz ym yr yk := by
        intro fo ft fk fi yr yk h
        refine ih (i + 1) _ _ _ _ _ _ (by omega) (fun j hj => ?_)
        by_cases q : j = i
        · subst q; exact h
        · exact hno j (by omega)
      refine br_f (by rw [jr_mul]; exact nI_ge (by omega) (by omega)) ⟨nI_ne0 (by omega) (by omega), jr_step hS hF hz h1 hs hi' hm (fun _ h => h) (fun yr' yk' hrow hlen => jp_bz (fun e => nm_r (nI_1 i) (next (fun q => by rw [q.1] at e; exact nomatch e))) (fun e => ?_))⟩
      refine pk_eq (jo_c z (jo_pj s i)) (jo_ll z s 0) (fun ec => ?_) (fun ec => nm_r (nI_1 i) (next (fun q => ec q.2))) rfl rfl (by omega) (by omega)
      have er := jm_lin_c h1 hs hl hi' e ec hno
      rw [er] at hrow hlen
      refine ⟨fun hneg => ?_, fun hneg => ?_⟩
      · have := hp (nI (jo_c z (jo_pj s i))) (jo_lft (jo_pj s i)) (jo_bI (jo_lkd (jo_lk K) (jo_pj s i))) (jo_bI (jo_lin (jo_pj s i))) yr' yk'
        rw [jo_at, if_pos hneg] at this
        exact this
      · obtain ⟨q, hq, rfl⟩ := nI_of hneg
        have := hp (nI (jo_c z (jo_pj s i))) (jo_lft (jo_pj s i)) (jo_bI (jo_lkd (jo_lk K) (jo_pj s i))) (jo_bI (jo_lin (jo_pj s i))) yr' yk'
        rw [jo_at, if_neg hneg, nI_clamp hq] at this
        refine pk_le (jo_m s) q (fun hle => ?_) (fun hlt => ⟨vp_in_nI (by omega) (by omega), ?_⟩) rfl rfl (by omega) hq
        · rw [jr_nth_big (by omega)] at this
          exact this
        · rw [nI_clamp hq]
          have e1 := jr_Row l 0 q hrow (by omega)
          rw [Nat.zero_add] at e1
          rw [e1]
          exact this
  exact ⟨_, key (jo_n s) 0 fo ft fk fi yr yk (by omega) (fun j hj => by omega)⟩
end
