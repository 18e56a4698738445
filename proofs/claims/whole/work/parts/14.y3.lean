/-! the reference: one run of its loops, and the loops -/
theorem jr_n : ∀ s, s < 32 → 1 ≤ s → jo_n s ≤ 1680 := by decide +kernel
theorem jr_fact : ∀ m, m < 6 → jo_fact m ≤ 120 := by decide +kernel
def jo_la (p : List (Nat × Nat)) : Nat := match p.getLast? with
  | none => 0
  | some x => x.1
theorem jr_lft {p : List (Nat × Nat)} (h : p ≠ []) : jo_lft p = nI (jo_la p) := by
  unfold jo_lft jo_la
  cases e : p.getLast? with
  | none => exact absurd (List.getLast?_eq_none_iff.mp e) h
  | some x => rfl
theorem jr_Row {yr : Nat → Int32} : ∀ (l : List Nat) (i q : Nat), jo_Row yr i l → q < l.length → yr (i + q) = jo_nth l q := by
  intro l
  induction l with
  | nil => intro i q _ h; exact absurd h (Nat.not_lt_zero q)
  | cons t l ih =>
    intro i q h hq
    cases q with
    | zero => rw [jl_nz]; exact h.1
    | succ q =>
      rw [jl_ns, show i + (q + 1) = i + 1 + q from by omega]
      exact ih (i + 1) q h.2 (by rw [List.length_cons] at hq; omega)
section
variable {fn fo ft fk fi : Int32} {yt yf yz ym yr yk : Nat → Int32} {E S : Nat → Nat} {K : Nat → Bool}
theorem jr_order {s num od : Nat} (hs : s < 32) (hn : num < 2 ^ 31) (ho : od < 2 ^ 31) {row : List Nat} (h : jo_ord (jo_m s) num od s = some row) {post : SY → Prop} (hp : ∀ yr', jo_Row yr' 0 row → post (fn, fo, ft, fk, fi, yt, yf, yz, ym, yr', yk)) : wpY_order post (fn, fo, ft, fk, fi, yt, yf, yz, ym, yr, yk) (nI s) (nI num) (nI od) := by
  unfold wpY_order
  refine jy_count hs ⟨_, (jp_ord _ _ _ _ _ hs hn ho h).2.2 (i := 0) (by omega) (js_m5 s hs) (fun yr' _ hr => hp yr' hr)⟩
theorem jr_follow (hS : ∀ p, p < 25 → S p ≤ 6) (hF : jo_YF S K yf) {z : Nat → Nat} (hz : ∀ t, t < 32 → yz t = nI (z t)) {form m : Nat} (hf : form < 512) (m1 : 1 ≤ m) (m5 : m ≤ 5) {row : List Nat} (hr : jo_Row yr 0 row) (hrl : row.length ≤ 5) (hr5 : ∀ t, t ∈ row → t < 5) {js : List (Nat × Nat)} (h : jo_fol form (2 * m - 1) 0 row [] [] = some js) {post : SY → Prop}
    (hp : ∀ yk', post (fn, nI (jo_c z js), jo_lft js, jo_bI (jo_lkd (jo_lk K) js), jo_bI (jo_lin js), yt, yf, yz, ym, yr, yk')) : wpY_follow post (fn, fo, ft, fk, fi, yt, yf, yz, ym, yr, yk) (nI form) (nI m) :=
  ⟨_, jp_fol hS hF hz hf m1 m5 (2 * m - 1) 0 row [] [] js 0 yk h (by omega) hr (by omega) hr5 trivial (Nat.zero_le _) (fun x hx => nomatch hx) hp⟩
theorem jr_rem {s i : Nat} (hs : s < 32) (h1 : 1 ≤ s) (hi : i < jo_n s) : 1 ≤ jo_fc s ∧ jo_fc s ≤ 14 ∧ nI i / nI (jo_fc s) = nI (i / jo_fc s) ∧ nI i - nI i / nI (jo_fc s) * nI (jo_fc s) = nI (i % jo_fc s) ∧ i % jo_fc s < jo_fc s := by
  have a := jr_n s hs h1
  have b := jp_FM0 (jo_m s) (by have := js_m5 s hs; omega) (js_m1 s hs h1)
  have c := jp_FM14 (jo_m s) (by have := js_m5 s hs; omega) (js_m1 s hs h1)
  have b' : 1 ≤ jo_fc s := b
  have c' : jo_fc s ≤ 14 := c
  exact ⟨b', c', pk_div (by omega) (by omega) (by omega), pk_rem (by omega) (by omega) (by omega), Nat.mod_lt _ (by omega)⟩
theorem jr_step (hS : ∀ p, p < 25 → S p ≤ 6) (hF : jo_YF S K yf) {z : Nat → Nat} (hz : ∀ t, t < 32 → yz t = nI (z t)) {s i : Nat} (h1 : 1 ≤ s) (hs : s < 32) (hi : i < jo_n s) (hm : jo_Fm (jo_FM (jo_m s)) ym) {post Q : SY → Prop}
    (hl : ∀ yr', (¬ nI (jo_fc s) = 0 ∧ vp_in (nI i - nI i / nI (jo_fc s) * nI (jo_fc s)) 14 ∧ wpY_follow Q (nI (jo_fc s), fo, ft, fk, fi, yt, yf, yz, ym, yr', yk) (ym (nI i - nI i / nI (jo_fc s) * nI (jo_fc s)).toNatClampNeg) (nI (jo_m s))) → post (nI (jo_fc s), fo, ft, fk, fi, yt, yf, yz, ym, yr', yk))
    (hQ : ∀ yr' yk', jo_Row yr' 0 (jo_rw (jo_R s i)) → (jo_rw (jo_R s i)).length = jo_m s → Q (nI (jo_fc s), nI (jo_c z (jo_pj s i)), jo_lft (jo_pj s i), jo_bI (jo_lkd (jo_lk K) (jo_pj s i)), jo_bI (jo_lin (jo_pj s i)), yt, yf, yz, ym, yr', yk')) :
    wpY_order post (nI (jo_fc s), fo, ft, fk, fi, yt, yf, yz, ym, yr, yk) (nI s) (nI i / nI (jo_fc s)) (nI (jo_fact (jo_m s))) := by
  obtain ⟨row, js, e⟩ := jm_Rs h1 hs hi
  obtain ⟨c1, c14, ed, er, hlt⟩ := jr_rem hs h1 hi
  have m5 := js_m5 s hs
  have m1 := js_m1 s hs h1
  have hn := jr_n s hs h1
  have hfa := jr_fact (jo_m s) (by omega)
  have er1 : jo_rw (jo_R s i) = row := by rw [e]; rfl
  have er2 : jo_pj s i = js := by unfold jo_pj; rw [e]; rfl
  rw [er1, er2] at hQ
  unfold jo_R at e
  obtain ⟨row', e1, e⟩ := Option.bind_eq_some_iff.mp e
  obtain ⟨js', e2, e⟩ := Option.bind_eq_some_iff.mp e
  cases e
  have hnum : i / jo_fc s < 2 ^ 31 := Nat.lt_of_le_of_lt (Nat.div_le_self _ _) (by omega)
  obtain ⟨q1, q2, _⟩ := jp_ord _ _ _ _ _ hs hnum (by omega) e1
  rw [ed]
  refine jr_order hs hnum (by omega) e1 (fun yr' hr => hl yr' ⟨nI_ne0 (by omega) (by omega), ?_, ?_⟩)
  · rw [er]; exact vp_in_nI (by omega) (by omega)
  · rw [er, nI_clamp (by omega), hm _ hlt]
    exact jr_follow hS hF hz (jp_FM512 (jo_m s) (by omega) m1 _ (by omega)) m1 m5 hr (by omega) q2 e2 (fun yk' => hQ yr' yk' hr q1)
/-- which plans a loop of the reference looks at -/
def jo_Kd (K : Nat → Bool) (x : Int32) (kd : List (Nat × Nat) → Bool) : Prop := (x = 0 ∧ ∀ p, kd p = true) ∨ (x = 1 ∧ ∀ p, kd p = jo_lin p) ∨ (x = 2 ∧ ∀ p, kd p = jo_lkd (jo_lk K) p)
theorem jr_kind {x : Int32} {kd : List (Nat × Nat) → Bool} (hk : jo_Kd K x kd) {p : List (Nat × Nat)} {A B : Prop} (f : kd p = false → A) (t : kd p = true → B) :
    wpY_isKind (fun r => (r = 0 → A) ∧ (¬ r = 0 → B)) (fn, fo, ft, jo_bI (jo_lkd (jo_lk K) p), jo_bI (jo_lin p), yt, yf, yz, ym, yr, yk) x := by
  rcases hk with ⟨rfl, h⟩ | ⟨rfl, h⟩ | ⟨rfl, h⟩
  · exact br_t rfl (jx_r1 (t (h p)))
  · exact br_f (by decide) (br_t rfl (jp_bz (fun e => jx_r0 (f (by rw [h, e]))) (fun e => jx_r1 (t (by rw [h, e])))))
  · exact br_f (by decide) (br_f (by decide) (jp_bz (fun e => jx_r0 (f (by rw [h, e]))) (fun e => jx_r1 (t (by rw [h, e])))))
theorem jr_neg {x : Nat} (h : x < 2 ^ 31) : ¬ nI x ≤ -4 := by
  rw [Int32.le_iff_toInt_le, nI_toInt h, show (-4 : Int32).toInt = -4 from by decide]; omega
/-- what the loop of extreme has found among the first i runs -/
def jo_Mn (z : Nat → Nat) (kd : List (Nat × Nat) → Bool) (s i : Nat) (best : Int32) : Prop :=
  (best = -4 ∧ ∀ j, j < i → kd (jo_pj s j) = false) ∨ ∃ j, j < i ∧ kd (jo_pj s j) = true ∧ best = nI (jo_c z (jo_pj s j)) ∧ ∀ q, q < i → kd (jo_pj s q) = true → jo_c z (jo_pj s j) ≤ jo_c z (jo_pj s q)
def jo_Mx (z : Nat → Nat) (kd : List (Nat × Nat) → Bool) (s i : Nat) (best : Int32) : Prop :=
  (best = -4 ∧ ∀ j, j < i → kd (jo_pj s j) = false) ∨ ∃ j, j < i ∧ kd (jo_pj s j) = true ∧ best = nI (jo_c z (jo_pj s j)) ∧ ∀ q, q < i → kd (jo_pj s q) = true → jo_c z (jo_pj s q) ≤ jo_c z (jo_pj s j)
theorem jr_mul {s : Nat} : nI (jo_fact (jo_m s)) * nI (jo_fc s) = nI (jo_n s) := pk_mul _ _
theorem jr_105 {kd : List (Nat × Nat) → Bool} {x2 : Int32} (hk : jo_Kd K x2 kd) {post : Int32 → SY → Prop} {J : Int32 → Int32 → Int32 → Int32 → Int32 → Int32 → Int32 → (Nat → Int32) → (Nat → Int32) → (Nat → Int32) → (Nat → Int32) → (Nat → Int32) → (Nat → Int32) → Prop} {x1 x3 x4 x5 x6 z0 : Int32} {p : List (Nat × Nat)} {i : Nat}
    (f : (kd p = false ∨ z0 = 0) → J x6 (nI (i + 1)) fn fo ft (jo_bI (jo_lkd (jo_lk K) p)) (jo_bI (jo_lin p)) yt yf yz ym yr yk) (t : kd p = true → ¬ z0 = 0 → J fo (nI (i + 1)) fn fo ft (jo_bI (jo_lkd (jo_lk K) p)) (jo_bI (jo_lin p)) yt yf yz ym yr yk) :
    wY_extreme_105 post J x1 x2 x3 x4 x5 x6 (nI i) z0 fn fo ft (jo_bI (jo_lkd (jo_lk K) p)) (jo_bI (jo_lin p)) yt yf yz ym yr yk := by
  unfold wY_extreme_105
  refine jr_kind hk (fun e => nm_r (nI_1 i) (f (Or.inl e))) (fun e => ⟨fun h => nm_r (nI_1 i) (f (Or.inr h)), fun h => nm_r (nI_1 i) (t e h)⟩)
theorem jr_min (hS : ∀ p, p < 25 → S p ≤ 6) (hF : jo_YF S K yf) {z : Nat → Nat} (hzb : ∀ s, s < 32 → z s ≤ 64 ^ (jo_m s)) (hz : ∀ t, t < 32 → yz t = nI (z t)) {s : Nat} (h1 : 1 ≤ s) (hs : s < 32) (hm : jo_Fm (jo_FM (jo_m s)) ym) {x2 : Int32} {kd : List (Nat × Nat) → Bool} (hk : jo_Kd K x2 kd) {post : Int32 → SY → Prop}
    (hp : ∀ best fo ft fk fi yr yk, jo_Mn z kd s (jo_n s) best → post best (nI (jo_fc s), fo, ft, fk, fi, yt, yf, yz, ym, yr, yk)) :
    ∃ n, wY_extreme_21 post (nI s) x2 0 (nI (jo_fact (jo_m s))) (nI (jo_m s)) n (-4) 0 (nI (jo_fc s)) fo ft fk fi yt yf yz ym yr yk := by
  have hn := jr_n s hs h1
  have key : ∀ d i best fo ft fk fi yr yk, i + d = jo_n s → jo_Mn z kd s i best → wY_extreme_21 post (nI s) x2 0 (nI (jo_fact (jo_m s))) (nI (jo_m s)) (d + 1) best (nI i) (nI (jo_fc s)) fo ft fk fi yt yf yz ym yr yk := by
    intro d
    induction d with
    | zero =>
      intro i best fo ft fk fi yr yk hi hM
      obtain rfl : i = jo_n s := by omega
      exact br_t (by rw [jr_mul]; exact nI_le (Nat.le_refl _) (by omega)) (hp _ _ _ _ _ _ _ hM)
    | succ d ih =>
      intro i best fo ft fk fi yr yk hi hM
      have hi' : i < jo_n s := by omega
      obtain ⟨c1, c14, _⟩ := jr_rem hs h1 hi'
      have hcb := jm_cb' hzb h1 hs (jm_pj_in h1 hs hi')
      have keep : ∀ {fo ft fk fi yr yk}, (kd (jo_pj s i) = false ∨ ∃ j, j < i ∧ kd (jo_pj s j) = true ∧ best = nI (jo_c z (jo_pj s j)) ∧ (∀ q, q < i → kd (jo_pj s q) = true → jo_c z (jo_pj s j) ≤ jo_c z (jo_pj s q)) ∧ jo_c z (jo_pj s j) ≤ jo_c z (jo_pj s i)) →
          wY_extreme_21 post (nI s) x2 0 (nI (jo_fact (jo_m s))) (nI (jo_m s)) (d + 1) best (nI (i + 1)) (nI (jo_fc s)) fo ft fk fi yt yf yz ym yr yk := by
        intro fo ft fk fi yr yk h
        refine ih (i + 1) best _ _ _ _ _ _ (by omega) ?_
        rcases h with e | ⟨j, j1, j2, j3, j4, j5⟩
        · rcases hM with ⟨b1, b2⟩ | ⟨j, j1, j2, j3, j4⟩
          · refine Or.inl ⟨b1, fun j hj => ?_⟩
            by_cases q : j = i
            · subst q; exact e
            · exact b2 j (by omega)
          · refine Or.inr ⟨j, by omega, j2, j3, fun q hq hk => ?_⟩
            by_cases q' : q = i
            · subst q'; rw [e] at hk; exact nomatch hk
            · exact j4 q (by omega) hk
        · refine Or.inr ⟨j, by omega, j2, j3, fun q hq hk => ?_⟩
          by_cases q' : q = i
          · subst q'; exact j5
          · exact j4 q (by omega) hk
      have take : ∀ {ft fk fi yr yk}, kd (jo_pj s i) = true → (∀ q, q < i → kd (jo_pj s q) = true → jo_c z (jo_pj s i) ≤ jo_c z (jo_pj s q)) →
          wY_extreme_21 post (nI s) x2 0 (nI (jo_fact (jo_m s))) (nI (jo_m s)) (d + 1) (nI (jo_c z (jo_pj s i))) (nI (i + 1)) (nI (jo_fc s)) (nI (jo_c z (jo_pj s i))) ft fk fi yt yf yz ym yr yk := by
        intro ft fk fi yr yk e h
        refine ih (i + 1) _ _ _ _ _ _ _ (by omega) (Or.inr ⟨i, by omega, e, rfl, fun q hq hk => ?_⟩)
        by_cases q' : q = i
        · subst q'; exact Nat.le_refl _
        · exact h q (by omega) hk
      refine br_f (by rw [jr_mul]; exact nI_ge (by omega) (by omega)) ⟨nI_ne0 (by omega) (by omega), jr_step hS hF hz h1 hs hi' hm (fun _ h => h) (fun yr' yk' _ _ => br_t rfl ?_)⟩
      rcases hM with ⟨rfl, b2⟩ | ⟨j, j1, j2, rfl, j4⟩
      · refine br_t (by decide) (jr_105 hk (fun e => keep ?_) (fun e _ => take e (fun q hq hk => by rw [b2 q hq] at hk; exact nomatch hk)))
        rcases e with e | e
        · exact Or.inl e
        · exact absurd e (by decide)
      · have hcj := jm_cb' hzb h1 hs (jm_pj_in h1 hs (by omega : j < jo_n s))
        refine br_f (nI_pos (by omega)) (pk_le (jo_c z (jo_pj s j)) (jo_c z (jo_pj s i)) (fun hle => ?_) (fun hlt => ?_) rfl rfl (by omega) (by omega))
        · exact jr_105 hk (fun e => keep (Or.inr ⟨j, j1, j2, rfl, j4, hle⟩)) (fun _ e => absurd rfl e)
        · refine jr_105 hk (fun e => keep ?_) (fun e _ => take e (fun q hq hk => by have := j4 q hq hk; omega))
          rcases e with e | e
          · exact Or.inl e
          · exact absurd e (by decide)
  exact ⟨_, key (jo_n s) 0 (-4) fo ft fk fi yr yk (by omega) (Or.inl ⟨rfl, fun j hj => by omega⟩)⟩
theorem jr_max (hS : ∀ p, p < 25 → S p ≤ 6) (hF : jo_YF S K yf) {z : Nat → Nat} (hzb : ∀ s, s < 32 → z s ≤ 64 ^ (jo_m s)) (hz : ∀ t, t < 32 → yz t = nI (z t)) {s : Nat} (h1 : 1 ≤ s) (hs : s < 32) (hm : jo_Fm (jo_FM (jo_m s)) ym) {x2 : Int32} {kd : List (Nat × Nat) → Bool} (hk : jo_Kd K x2 kd) {post : Int32 → SY → Prop}
    (hp : ∀ best fo ft fk fi yr yk, jo_Mx z kd s (jo_n s) best → post best (nI (jo_fc s), fo, ft, fk, fi, yt, yf, yz, ym, yr, yk)) :
    ∃ n, wY_extreme_21 post (nI s) x2 1 (nI (jo_fact (jo_m s))) (nI (jo_m s)) n (-4) 0 (nI (jo_fc s)) fo ft fk fi yt yf yz ym yr yk := by
  have hn := jr_n s hs h1
  have key : ∀ d i best fo ft fk fi yr yk, i + d = jo_n s → jo_Mx z kd s i best → wY_extreme_21 post (nI s) x2 1 (nI (jo_fact (jo_m s))) (nI (jo_m s)) (d + 1) best (nI i) (nI (jo_fc s)) fo ft fk fi yt yf yz ym yr yk := by
    intro d
    induction d with
    | zero =>
      intro i best fo ft fk fi yr yk hi hM
      obtain rfl : i = jo_n s := by omega
      exact br_t (by rw [jr_mul]; exact nI_le (Nat.le_refl _) (by omega)) (hp _ _ _ _ _ _ _ hM)
    | succ d ih =>
      intro i best fo ft fk fi yr yk hi hM
      have hi' : i < jo_n s := by omega
      obtain ⟨c1, c14, _⟩ := jr_rem hs h1 hi'
      have hcb := jm_cb' hzb h1 hs (jm_pj_in h1 hs hi')
      have keep : ∀ {fo ft fk fi yr yk}, (kd (jo_pj s i) = false ∨ ∃ j, j < i ∧ kd (jo_pj s j) = true ∧ best = nI (jo_c z (jo_pj s j)) ∧ (∀ q, q < i → kd (jo_pj s q) = true → jo_c z (jo_pj s q) ≤ jo_c z (jo_pj s j)) ∧ jo_c z (jo_pj s i) ≤ jo_c z (jo_pj s j)) →
          wY_extreme_21 post (nI s) x2 1 (nI (jo_fact (jo_m s))) (nI (jo_m s)) (d + 1) best (nI (i + 1)) (nI (jo_fc s)) fo ft fk fi yt yf yz ym yr yk := by
        intro fo ft fk fi yr yk h
        refine ih (i + 1) best _ _ _ _ _ _ (by omega) ?_
        rcases h with e | ⟨j, j1, j2, j3, j4, j5⟩
        · rcases hM with ⟨b1, b2⟩ | ⟨j, j1, j2, j3, j4⟩
          · refine Or.inl ⟨b1, fun j hj => ?_⟩
            by_cases q : j = i
            · subst q; exact e
            · exact b2 j (by omega)
          · refine Or.inr ⟨j, by omega, j2, j3, fun q hq hk => ?_⟩
            by_cases q' : q = i
            · subst q'; rw [e] at hk; exact nomatch hk
            · exact j4 q (by omega) hk
        · refine Or.inr ⟨j, by omega, j2, j3, fun q hq hk => ?_⟩
          by_cases q' : q = i
          · subst q'; exact j5
          · exact j4 q (by omega) hk
      have take : ∀ {ft fk fi yr yk}, kd (jo_pj s i) = true → (∀ q, q < i → kd (jo_pj s q) = true → jo_c z (jo_pj s q) ≤ jo_c z (jo_pj s i)) →
          wY_extreme_21 post (nI s) x2 1 (nI (jo_fact (jo_m s))) (nI (jo_m s)) (d + 1) (nI (jo_c z (jo_pj s i))) (nI (i + 1)) (nI (jo_fc s)) (nI (jo_c z (jo_pj s i))) ft fk fi yt yf yz ym yr yk := by
        intro ft fk fi yr yk e h
        refine ih (i + 1) _ _ _ _ _ _ _ (by omega) (Or.inr ⟨i, by omega, e, rfl, fun q hq hk => ?_⟩)
        by_cases q' : q = i
        · subst q'; exact Nat.le_refl _
        · exact h q (by omega) hk
      refine br_f (by rw [jr_mul]; exact nI_ge (by omega) (by omega)) ⟨nI_ne0 (by omega) (by omega), jr_step hS hF hz h1 hs hi' hm (fun _ h => h) (fun yr' yk' _ _ => br_f (by decide) ?_)⟩
      rcases hM with ⟨rfl, b2⟩ | ⟨j, j1, j2, rfl, j4⟩
      · refine br_f (jr_neg (by omega)) (jr_105 hk (fun e => keep ?_) (fun e _ => take e (fun q hq hk => by rw [b2 q hq] at hk; exact nomatch hk)))
        rcases e with e | e
        · exact Or.inl e
        · exact absurd e (by decide)
      · have hcj := jm_cb' hzb h1 hs (jm_pj_in h1 hs (by omega : j < jo_n s))
        refine pk_le (jo_c z (jo_pj s i)) (jo_c z (jo_pj s j)) (fun hle => ?_) (fun hlt => ?_) rfl rfl (by omega) (by omega)
        · exact jr_105 hk (fun e => keep (Or.inr ⟨j, j1, j2, rfl, j4, hle⟩)) (fun _ e => absurd rfl e)
        · refine jr_105 hk (fun e => keep ?_) (fun e _ => take e (fun q hq hk => by have := j4 q hq hk; omega))
          rcases e with e | e
          · exact Or.inl e
          · exact absurd e (by decide)
  exact ⟨_, key (jo_n s) 0 (-4) fo ft fk fi yr yk (by omega) (Or.inl ⟨rfl, fun j hj => by omega⟩)⟩
end
