/-! the class: connected, the least and the greatest cost -/
section
variable {xe xs xl xc xn : Nat → Int32} {E S L : Nat → Nat} {K : Nat → Bool}
theorem jx_conn (hX : ∀ i, i < 5 → xl i = nI (L i)) (hL : jo_Lk K L) {s i0 : Nat} (hs : s < 32) (h0 : i0 < 5) {post : Int32 → Prop} (ht : jo_it L s (2 ^ i0) 5 = s → post 1) (hf : jo_it L s (2 ^ i0) 5 ≠ s → post 0) :
    ∃ n, wX_connected_16 post (nI s) xe xs xl xc xn n (nI (2 ^ i0)) 0 := by
  have hlt := js_itlt hL hs h0
  have key : ∀ d k, k + d = 5 → wX_connected_16 post (nI s) xe xs xl xc xn (d + 1) (nI (jo_it L s (2 ^ i0) k)) (nI k) := by
    intro d
    induction d with
    | zero =>
      intro k hk
      obtain rfl : k = 5 := by omega
      have := hlt 5
      refine br_t (nI_le (a := 5) (Nat.le_refl _) (by omega)) (pk_eq _ _ ht hf rfl rfl (by omega) (by omega))
    | succ d ih =>
      intro k hk
      refine br_f (nI_ge (b := 5) (by omega) (by omega)) (jx_lw hX (hlt k) (nm_r (e' := nI (jo_it L s (2 ^ i0) (k + 1))) ?_ (nm_r (nI_1 k) (ih (k + 1) (by omega)))))
      rw [nx_and, nx_or]; rfl
  exact ⟨_, key 5 0 (by omega)⟩
/-- the sums that the class's loops over the parts look at -/
theorem jx_sum {s a : Nat} (hs : s < 32) (ha : a < s) (h1 : 1 ≤ a) (hp : jo_part a s = true) {x y : Nat} (hx : xc a = nI x) (hy : xc (s ^^^ a) = nI y) : xc (nI a).toNatClampNeg + xc (nI s ^^^ nI a).toNatClampNeg = nI (x + y) := by
  have := jb_pt s hs a ha h1 hp
  rw [nx_xor, nI_clamp (by omega), nI_clamp (by omega), hx, hy, nI_add]
theorem jx_vx {s a : Nat} (hs : s < 32) (ha : a < s) (h1 : 1 ≤ a) (hp : jo_part a s = true) : vp_in (nI s ^^^ nI a) 32 := by
  have := jb_pt s hs a ha h1 hp
  rw [nx_xor]; exact vp_in_nI (by omega) (by omega)
theorem jx_lcp {s : Nat} (h1 : 1 ≤ s) (hs : s < 32) {cc : Nat → Nat} (hc : ∀ a, a ∈ jo_ps s s → xc a = nI (cc a) ∧ xc (s ^^^ a) = nI (cc (s ^^^ a)) ∧ cc a + cc (s ^^^ a) < 2147483647) (hn : jo_ps s s ≠ []) {post : Int32 → Prop}
    (hp : ∀ m, (∃ a, a ∈ jo_ps s s ∧ cc a + cc (s ^^^ a) = m) → (∀ a, a ∈ jo_ps s s → m ≤ cc a + cc (s ^^^ a)) → post (nI m)) : wpX_leastCostOfParts post (xe, xs, xl, xc, xn) (nI s) := by
  have key : ∀ d a v, 1 ≤ a → a + d = s → v ≤ 2147483647 → ((v = 2147483647 ∧ jo_ps s a = []) ∨ ∃ b, b ∈ jo_ps s a ∧ cc b + cc (s ^^^ b) = v) → (∀ b, b ∈ jo_ps s a → v ≤ cc b + cc (s ^^^ b)) →
      wX_leastCostOfParts_5 post (nI s) xe xs xl xc xn (d + 1) (nI v) (nI a) := by
    intro d
    induction d with
    | zero =>
      intro a v a1 ad vM he hm
      obtain rfl : a = s := by omega
      refine br_t (nI_le (Nat.le_refl _) (by omega)) (hp v ?_ hm)
      rcases he with ⟨_, e⟩ | h
      · exact absurd e hn
      · exact h
    | succ d ih =>
      intro a v a1 ad vM he hm
      refine br_f (nI_ge (by omega) (by omega)) (jx_part (by omega) hs (fun pf => nm_r (nI_1 a) ?_) (fun pt => ?_))
      · exact ih (a + 1) v (by omega) (by omega) vM (by rw [jm_ps_f a1 pf]; exact he) (by rw [jm_ps_f a1 pf]; exact hm)
      · have hain : a ∈ jo_ps s s := (jm_ps s s a).mpr ⟨a1, by omega, pt⟩
        obtain ⟨c1, c2, c3⟩ := hc a hain
        have hsum := jx_sum hs (by omega) a1 pt c1 c2
        have v1 : vp_in (nI a) 32 := vp_in_nI (by omega) (by omega)
        have v2 := jx_vx hs (by omega) a1 pt
        have hmem : ∀ b, b ∈ jo_ps s (a + 1) ↔ b ∈ jo_ps s a ∨ b = a := by
          intro b; rw [jm_ps_t a1 pt, List.mem_append, List.mem_singleton]
        refine ⟨v1, v2, pk_le v (cc a + cc (s ^^^ a)) (fun hle => nm_r (nI_1 a) ?_) (fun hlt => ⟨v1, v2, nm_r hsum (nm_r (nI_1 a) ?_)⟩) rfl hsum (by omega) (by omega)⟩
        · refine ih (a + 1) v (by omega) (by omega) vM (Or.inr ?_) (fun b hb => ?_)
          · rcases he with ⟨e, _⟩ | ⟨b, hb, e⟩
            · omega
            · exact ⟨b, (hmem b).mpr (Or.inl hb), e⟩
          · rcases (hmem b).mp hb with hb | rfl
            · exact hm b hb
            · exact hle
        · refine ih (a + 1) _ (by omega) (by omega) (by omega) (Or.inr ⟨a, (hmem a).mpr (Or.inr rfl), rfl⟩) (fun b hb => ?_)
          rcases (hmem b).mp hb with hb | rfl
          · have := hm b hb; omega
          · exact Nat.le_refl _
  exact ⟨_, key (s - 1) 1 2147483647 (Nat.le_refl _) (by omega) (Nat.le_refl _) (Or.inl ⟨rfl, rfl⟩) (fun b hb => nomatch hb)⟩
theorem jx_upd {f g : Nat → Int32} {t : Nat} (H : ∀ a, 1 ≤ a → a < t → f a = g a) : ∀ a, 1 ≤ a → a < t + 1 → upd f t (g t) a = g a := by
  intro a a1 a2
  by_cases e : a = t
  · subst e; exact pk_us
  · rw [pk_un e]; exact H a a1 (by omega)
theorem jv_two {z : Nat → Nat} (hz : ∀ s, s < 32 → z s ≤ 64 ^ (jo_m s)) {s a : Nat} (h1 : 1 ≤ s) (h : s < 32) (ho : ¬ jo_one s = true) (ha : a ∈ jo_ps s s) {p q : List (Nat × Nat)} (hp : p ∈ jo_P a) (hq : q ∈ jo_P (s ^^^ a)) : jo_c z p + jo_c z q + z s ≤ 1090785280 := by
  have := jm_cb' hz h1 h ((jm_mem h1 h ho).mpr ⟨a, ha, p, hp, q, hq, rfl⟩)
  rwa [jm_c_join, jm_or h ha] at this
theorem jv_lv2 {z : Nat → Nat} (hz : ∀ s, s < 32 → z s ≤ 64 ^ (jo_m s)) {s a : Nat} (h1 : 1 ≤ s) (h : s < 32) (ho : ¬ jo_one s = true) (ha : a ∈ jo_ps s s) :
    (jo_Lst z a (jo_lv z a) ∧ jo_Lst z (s ^^^ a) (jo_lv z (s ^^^ a))) ∧ jo_lv z a + jo_lv z (s ^^^ a) + z s ≤ 1090785280 ∧ a < s ∧ 1 ≤ a ∧ s ^^^ a < s ∧ 1 ≤ s ^^^ a := by
  obtain ⟨a1, a2, a3⟩ := (jm_ps s s a).mp ha
  obtain ⟨b1, b2, b3, b4, b5⟩ := jb_pt s h a a2 a1 a3
  have l1 := jv_l (z := z) a1 (by omega : a < 32)
  have l2 := jv_l (z := z) b1 (by omega : s ^^^ a < 32)
  refine ⟨⟨l1, l2⟩, ?_, a2, a1, b2, b1⟩
  obtain ⟨⟨p, hp, e1⟩, _⟩ := l1
  obtain ⟨⟨q, hq, e2⟩, _⟩ := l2
  have := jv_two hz h1 h ho ha hp hq
  omega
theorem jx_lcpv (hE : ∀ i, i < 5 → E i ≤ 6) (hS : ∀ p, p < 25 → S p ≤ 6) {t : Nat} (t1 : 1 ≤ t) (ht : t < 32) (ho : ¬ jo_one t = true) (hc : ∀ a, 1 ≤ a → a < t → xc a = nI (jo_lv (jo_sz E S) a)) {post : Int32 → Prop}
    (hp : ∀ m, (∃ a, a ∈ jo_ps t t ∧ jo_lv (jo_sz E S) a + jo_lv (jo_sz E S) (t ^^^ a) = m) → (∀ a, a ∈ jo_ps t t → m ≤ jo_lv (jo_sz E S) a + jo_lv (jo_sz E S) (t ^^^ a)) → m + jo_sz E S t = jo_lv (jo_sz E S) t → post (nI m)) : wpX_leastCostOfParts post (xe, xs, xl, xc, xn) (nI t) := by
  have hz : ∀ s, s < 32 → jo_sz E S s ≤ 64 ^ (jo_m s) := fun s _ => js_sz hE hS s
  refine jx_lcp t1 ht (cc := jo_lv (jo_sz E S)) (fun a ha => ?_) (jv_psne t ht t1 (jx_bf ho)) (fun m he hm => hp m he hm ?_)
  · obtain ⟨_, b, a1, a2, a3, a4⟩ := jv_lv2 hz t1 ht ho ha
    exact ⟨hc a a2 a1, hc _ a4 a3, by omega⟩
  · exact (jv_lu t1 ht (jm_Lst_step t1 ht ho _ (fun a ha => (jv_lv2 hz t1 ht ho ha).1) he hm)).symm
theorem jx_fill (hE : ∀ i, i < 5 → E i ≤ 6) (hS : ∀ p, p < 25 → S p ≤ 6) (hXe : ∀ i, i < 5 → xe i = nI (E i)) (hX : ∀ p, p < 25 → xs p = nI (S p)) {s : Nat} (hs : s < 32) {post : SX → Prop}
    (hp : ∀ xc', (∀ a, 1 ≤ a → a < s + 1 → xc' a = nI (jo_lv (jo_sz E S) a)) → post (xe, xs, xl, xc', xn)) : wpX_fillLeastCosts post (xe, xs, xl, xc, xn) (nI s) := by
  have key : ∀ d t xc, 1 ≤ t → t + d = s + 1 → (∀ a, 1 ≤ a → a < t → xc a = nI (jo_lv (jo_sz E S) a)) → wX_fillLeastCosts_2 post (nI s) (d + 1) (nI t) xe xs xl xc xn := by
    intro d
    induction d with
    | zero =>
      intro t xc t1 td hc
      obtain rfl : t = s + 1 := by omega
      exact br_t (nI_lt (by omega) (by omega)) (hp xc hc)
    | succ d ih =>
      intro t xc t1 td hc
      have v1 : vp_in (nI t) 32 := vp_in_nI (by omega) (by omega)
      refine br_f (nI_nlt (by omega) (by omega)) (jx_one (by omega) (fun ho => ?_) (fun ho => ?_))
      · refine jx_lcpv hE hS t1 (by omega) ho hc (fun m _ _ e => jx_sizeOf hE hS hXe hX (by omega) ⟨v1, nm_r (e' := upd xc t (nI (jo_lv (jo_sz E S) t))) ?_ (nm_r (nI_1 t) (ih (t + 1) _ (by omega) (by omega) (jx_upd hc)))⟩)
        rw [nI_clamp (by omega), nI_add, e]
      · refine ⟨v1, nm_r (e' := upd xc t (nI (jo_lv (jo_sz E S) t))) ?_ (nm_r (nI_1 t) (ih (t + 1) _ (by omega) (by omega) (jx_upd hc)))⟩
        rw [nI_clamp (by omega), jv_lu t1 (by omega) (jm_Lst_one ho)]; rfl
  exact ⟨_, key s 1 xc (Nat.le_refl _) (by omega) (fun a a1 a2 => by omega)⟩
theorem jv_gv2 {z : Nat → Nat} (hz : ∀ s, s < 32 → z s ≤ 64 ^ (jo_m s)) {s a : Nat} (h1 : 1 ≤ s) (h : s < 32) (ho : ¬ jo_one s = true) (ha : a ∈ jo_ps s s) :
    (jo_Grt z a (jo_gv z a) ∧ jo_Grt z (s ^^^ a) (jo_gv z (s ^^^ a))) ∧ jo_gv z a + jo_gv z (s ^^^ a) + z s ≤ 1090785280 ∧ a < s ∧ 1 ≤ a ∧ s ^^^ a < s ∧ 1 ≤ s ^^^ a := by
  obtain ⟨a1, a2, a3⟩ := (jm_ps s s a).mp ha
  obtain ⟨b1, b2, b3, b4, b5⟩ := jb_pt s h a a2 a1 a3
  have l1 := jv_g (z := z) a1 (by omega : a < 32)
  have l2 := jv_g (z := z) b1 (by omega : s ^^^ a < 32)
  refine ⟨⟨l1, l2⟩, ?_, a2, a1, b2, b1⟩
  obtain ⟨⟨p, hp, e1⟩, _⟩ := l1
  obtain ⟨⟨q, hq, e2⟩, _⟩ := l2
  have := jv_two hz h1 h ho ha hp hq
  omega
theorem jx_gcp (hE : ∀ i, i < 5 → E i ≤ 6) (hS : ∀ p, p < 25 → S p ≤ 6) (hXe : ∀ i, i < 5 → xe i = nI (E i)) (hX : ∀ p, p < 25 → xs p = nI (S p)) {s : Nat} (h1 : 1 ≤ s) (hs : s < 32) (ho : ¬ jo_one s = true) (hc : ∀ a, 1 ≤ a → a < s → xc a = nI (jo_gv (jo_sz E S) a)) {post : Int32 → Prop}
    (hp : post (nI (jo_gv (jo_sz E S) s))) : wpX_greatestCost post (xe, xs, xl, xc, xn) (nI s) := by
  have hz : ∀ s, s < 32 → jo_sz E S s ≤ 64 ^ (jo_m s) := fun s _ => js_sz hE hS s
  have hn := jv_psne s hs h1 (jx_bf ho)
  have key : ∀ d a v, 1 ≤ a → a + d = s → v ≤ 1090785280 → ((v = 0 ∧ jo_ps s a = []) ∨ ∃ b, b ∈ jo_ps s a ∧ jo_gv (jo_sz E S) b + jo_gv (jo_sz E S) (s ^^^ b) = v) → (∀ b, b ∈ jo_ps s a → jo_gv (jo_sz E S) b + jo_gv (jo_sz E S) (s ^^^ b) ≤ v) →
      wX_greatestCost_4 post (nI s) xe xs xl xc xn (d + 1) (nI v) (nI a) := by
    intro d
    induction d with
    | zero =>
      intro a v a1 ad vM he hm
      obtain rfl : a = s := by omega
      refine br_t (nI_le (Nat.le_refl _) (by omega)) (jx_sizeOf hE hS hXe hX hs ?_)
      have he' : ∃ b, b ∈ jo_ps a a ∧ jo_gv (jo_sz E S) b + jo_gv (jo_sz E S) (a ^^^ b) = v := by
        rcases he with ⟨_, e⟩ | h
        · exact absurd e hn
        · exact h
      rw [nI_add, ← jv_gu h1 hs (jm_Grt_step h1 hs ho _ (fun a ha => (jv_gv2 hz h1 hs ho ha).1) he' hm)]
      exact hp
    | succ d ih =>
      intro a v a1 ad vM he hm
      refine br_f (nI_ge (by omega) (by omega)) (jx_part (by omega) hs (fun pf => nm_r (nI_1 a) ?_) (fun pt => ?_))
      · exact ih (a + 1) v (by omega) (by omega) vM (by rw [jm_ps_f a1 pf]; exact he) (by rw [jm_ps_f a1 pf]; exact hm)
      · have hain : a ∈ jo_ps s s := (jm_ps s s a).mpr ⟨a1, by omega, pt⟩
        obtain ⟨_, c0, c1, c2, c3, c4⟩ := jv_gv2 hz h1 hs ho hain
        have hsum := jx_sum hs (by omega) a1 pt (hc a c2 c1) (hc _ c4 c3)
        have v1 : vp_in (nI a) 32 := vp_in_nI (by omega) (by omega)
        have v2 := jx_vx hs (by omega) a1 pt
        have hmem : ∀ b, b ∈ jo_ps s (a + 1) ↔ b ∈ jo_ps s a ∨ b = a := by
          intro b; rw [jm_ps_t a1 pt, List.mem_append, List.mem_singleton]
        refine ⟨v1, v2, pk_le (jo_gv (jo_sz E S) a + jo_gv (jo_sz E S) (s ^^^ a)) v (fun hle => nm_r (nI_1 a) ?_) (fun hlt => ⟨v1, v2, nm_r hsum (nm_r (nI_1 a) ?_)⟩) hsum rfl (by omega) (by omega)⟩
        · refine ih (a + 1) v (by omega) (by omega) vM (Or.inr ?_) (fun b hb => ?_)
          · rcases he with ⟨e, _⟩ | ⟨b, hb, e⟩
            · exact ⟨a, (hmem a).mpr (Or.inr rfl), by omega⟩
            · exact ⟨b, (hmem b).mpr (Or.inl hb), e⟩
          · rcases (hmem b).mp hb with hb | rfl
            · exact hm b hb
            · exact hle
        · refine ih (a + 1) _ (by omega) (by omega) (by omega) (Or.inr ⟨a, (hmem a).mpr (Or.inr rfl), rfl⟩) (fun b hb => ?_)
          rcases (hmem b).mp hb with hb | rfl
          · have := hm b hb; omega
          · exact Nat.le_refl _
  exact ⟨_, key (s - 1) 1 0 (Nat.le_refl _) (by omega) (by omega) (Or.inl ⟨rfl, rfl⟩) (fun b hb => nomatch hb)⟩
theorem jx_worst (hE : ∀ i, i < 5 → E i ≤ 6) (hS : ∀ p, p < 25 → S p ≤ 6) (hXe : ∀ i, i < 5 → xe i = nI (E i)) (hX : ∀ p, p < 25 → xs p = nI (S p)) {s : Nat} (h1 : 1 ≤ s) (hs : s < 32) {post : Int32 → SX → Prop}
    (hp : ∀ xc', post (nI (jo_gv (jo_sz E S) s)) (xe, xs, xl, xc', xn)) : ∃ n, wX_worst_11 post (nI s) n 1 xe xs xl xc xn := by
  have key : ∀ d t xc, 1 ≤ t → t + d = s + 1 → (∀ a, 1 ≤ a → a < t → xc a = nI (jo_gv (jo_sz E S) a)) → wX_worst_11 post (nI s) (d + 1) (nI t) xe xs xl xc xn := by
    intro d
    induction d with
    | zero =>
      intro t xc t1 td hc
      obtain rfl : t = s + 1 := by omega
      refine br_t (nI_lt (by omega) (by omega)) ⟨vp_in_nI (by omega) (by omega), ?_⟩
      rw [nI_clamp (by omega), hc s h1 (by omega)]
      exact hp xc
    | succ d ih =>
      intro t xc t1 td hc
      have v1 : vp_in (nI t) 32 := vp_in_nI (by omega) (by omega)
      refine br_f (nI_nlt (by omega) (by omega)) (jx_one (by omega) (fun ho => ?_) (fun ho => ?_))
      · refine jx_gcp hE hS hXe hX t1 (by omega) ho hc ⟨v1, nm_r (e' := upd xc t (nI (jo_gv (jo_sz E S) t))) ?_ (nm_r (nI_1 t) (ih (t + 1) _ (by omega) (by omega) (jx_upd hc)))⟩
        rw [nI_clamp (by omega)]
      · refine ⟨v1, nm_r (e' := upd xc t (nI (jo_gv (jo_sz E S) t))) ?_ (nm_r (nI_1 t) (ih (t + 1) _ (by omega) (by omega) (jx_upd hc)))⟩
        rw [nI_clamp (by omega), jv_gu t1 (by omega) (jm_Grt_one ho)]; rfl
  exact ⟨_, key s 1 xc (Nat.le_refl _) (by omega) (fun a a1 a2 => by omega)⟩
end
