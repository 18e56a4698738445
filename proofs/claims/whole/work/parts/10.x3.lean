/-! the class: the least linked cost, the counts -/
def jo_ki : Option Nat → Int32
  | none => -4
  | some v => nI v
theorem jx_n4 {x : Nat} (h : x < 2 ^ 31) : ¬ nI x = -4 := by
  intro e
  have := congrArg Int32.toInt e
  rw [nI_toInt h, show (-4 : Int32).toInt = -4 from by decide] at this
  omega
section
variable {xe xs xl xc xn : Nat → Int32} {E S L : Nat → Nat} {K : Nat → Bool}
theorem jv_kv2 {z : Nat → Nat} {lk : Nat → Nat → Bool} (hz : ∀ s, s < 32 → z s ≤ 64 ^ (jo_m s)) {s a : Nat} (h1 : 1 ≤ s) (h : s < 32) (ho : ¬ jo_one s = true) (ha : a ∈ jo_ps s s) :
    (jo_LsL z lk a (jo_kv z lk a) ∧ jo_LsL z lk (s ^^^ a) (jo_kv z lk (s ^^^ a))) ∧ (∀ x y, jo_kv z lk a = some x → jo_kv z lk (s ^^^ a) = some y → x + y + z s ≤ 1090785280) ∧ (∀ x, jo_kv z lk a = some x → x ≤ 1090785280) ∧ (∀ y, jo_kv z lk (s ^^^ a) = some y → y ≤ 1090785280) ∧ a < s ∧ 1 ≤ a ∧ s ^^^ a < s ∧ 1 ≤ s ^^^ a := by
  obtain ⟨a1, a2, a3⟩ := (jm_ps s s a).mp ha
  obtain ⟨b1, b2, b3, b4, b5⟩ := jb_pt s h a a2 a1 a3
  have l1 := jv_k (z := z) (lk := lk) a1 (by omega : a < 32)
  have l2 := jv_k (z := z) (lk := lk) b1 (by omega : s ^^^ a < 32)
  refine ⟨⟨l1, l2⟩, fun x y ex ey => ?_, fun x ex => ?_, fun y ey => ?_, a2, a1, b2, b1⟩
  · obtain ⟨⟨p, hp, _, e1⟩, _⟩ := l1.2 x ex
    obtain ⟨⟨q, hq, _, e2⟩, _⟩ := l2.2 y ey
    have := jv_two hz h1 h ho ha hp hq
    omega
  · obtain ⟨⟨p, hp, _, e1⟩, _⟩ := l1.2 x ex
    rw [← e1]; exact jm_cb' hz a1 (by omega) hp
  · obtain ⟨⟨p, hp, _, e1⟩, _⟩ := l2.2 y ey
    rw [← e1]; exact jm_cb' hz b1 (by omega) hp
theorem jx_llc (hE : ∀ i, i < 5 → E i ≤ 6) (hS : ∀ p, p < 25 → S p ≤ 6) (hXe : ∀ i, i < 5 → xe i = nI (E i)) (hX : ∀ p, p < 25 → xs p = nI (S p)) (hXl : ∀ i, i < 5 → xl i = nI (L i)) (hL : jo_Lk K L) {s : Nat} (h1 : 1 ≤ s) (hs : s < 32) (ho : ¬ jo_one s = true)
    (hc : ∀ a, 1 ≤ a → a < s → xc a = jo_ki (jo_kv (jo_sz E S) (jo_lk K) a)) {post : Int32 → Prop} (hp : post (jo_ki (jo_kv (jo_sz E S) (jo_lk K) s))) : wpX_leastLinkedCost post (xe, xs, xl, xc, xn) (nI s) := by
  have hz : ∀ s, s < 32 → jo_sz E S s ≤ 64 ^ (jo_m s) := fun s _ => js_sz hE hS s
  have key : ∀ d a v, 1 ≤ a → a + d = s → v ≤ 2147483647 →
      (v = 2147483647 ∨ ∃ b x y, b ∈ jo_ps s a ∧ jo_kv (jo_sz E S) (jo_lk K) b = some x ∧ jo_kv (jo_sz E S) (jo_lk K) (s ^^^ b) = some y ∧ jo_lk K b (s ^^^ b) = true ∧ x + y = v) →
      (∀ b x y, b ∈ jo_ps s a → jo_kv (jo_sz E S) (jo_lk K) b = some x → jo_kv (jo_sz E S) (jo_lk K) (s ^^^ b) = some y → jo_lk K b (s ^^^ b) = true → v ≤ x + y) →
      wX_leastLinkedCost_5 post (nI s) xe xs xl xc xn (d + 1) (nI v) (nI a) := by
    intro d
    induction d with
    | zero =>
      intro a v a1 ad vM he hm
      obtain rfl : a = s := by omega
      refine br_t (nI_le (Nat.le_refl _) (by omega)) (pk_eq v 2147483647 (fun e => ?_) (fun e => jx_sizeOf hE hS hXe hX hs ?_) rfl rfl (by omega) (by omega))
      · have : jo_kv (jo_sz E S) (jo_lk K) a = none := jv_ku h1 hs (jm_LsL_none h1 hs ho _ (fun b hb => (jv_kv2 hz h1 hs ho hb).1) fun b hb => by
          obtain ⟨_, k1, _⟩ := jv_kv2 (lk := jo_lk K) hz h1 hs ho hb
          cases ex : jo_kv (jo_sz E S) (jo_lk K) b with
          | none => exact Or.inl rfl
          | some x =>
            cases ey : jo_kv (jo_sz E S) (jo_lk K) (a ^^^ b) with
            | none => exact Or.inr (Or.inl rfl)
            | some y =>
              refine Or.inr (Or.inr (jx_bf fun hl => ?_))
              have := hm b x y hb ex ey hl
              have := k1 x y ex ey
              omega)
        rw [this] at hp
        exact hp
      · have : jo_kv (jo_sz E S) (jo_lk K) a = some (v + jo_sz E S a) := jv_ku h1 hs (jm_LsL_some h1 hs ho _ (fun b hb => (jv_kv2 hz h1 hs ho hb).1) (by
          rcases he with q | h
          · exact absurd q e
          · exact h) hm)
        rw [this] at hp
        rw [nI_add]
        exact hp
    | succ d ih =>
      intro a v a1 ad vM he hm
      refine br_f (nI_ge (by omega) (by omega)) (nm_r (nx_xor s a) (jx_part (by omega) hs (fun pf => nm_r (nI_1 a) ?_) (fun pt => ?_)))
      · exact ih (a + 1) v (by omega) (by omega) vM (by rw [jm_ps_f a1 pf]; exact he) (by rw [jm_ps_f a1 pf]; exact hm)
      · have hain : a ∈ jo_ps s s := (jm_ps s s a).mpr ⟨a1, by omega, pt⟩
        obtain ⟨_, k1, k2, k3, c1, c2, c3, c4⟩ := jv_kv2 (lk := jo_lk K) hz h1 hs ho hain
        have v1 : vp_in (nI a) 32 := vp_in_nI (by omega) (by omega)
        have v2 : vp_in (nI (s ^^^ a)) 32 := vp_in_nI (by omega) (by omega)
        have hmem : ∀ b, b ∈ jo_ps s (a + 1) ↔ b ∈ jo_ps s a ∨ b = a := by
          intro b; rw [jm_ps_t a1 pt, List.mem_append, List.mem_singleton]
        have q1 : xc (nI a).toNatClampNeg = jo_ki (jo_kv (jo_sz E S) (jo_lk K) a) := by rw [nI_clamp (by omega)]; exact hc a c2 c1
        have q2 : xc (nI (s ^^^ a)).toNatClampNeg = jo_ki (jo_kv (jo_sz E S) (jo_lk K) (s ^^^ a)) := by rw [nI_clamp (by omega)]; exact hc _ c4 c3
        have keep : (jo_kv (jo_sz E S) (jo_lk K) a = none ∨ jo_kv (jo_sz E S) (jo_lk K) (s ^^^ a) = none ∨ jo_lk K a (s ^^^ a) = false) → wX_leastLinkedCost_5 post (nI s) xe xs xl xc xn (d + 1) (nI v) (nI (a + 1)) := by
          intro hno
          refine ih (a + 1) v (by omega) (by omega) vM ?_ (fun b x y hb ex ey hl => ?_)
          · rcases he with e | ⟨b, x, y, hb, r⟩
            · exact Or.inl e
            · exact Or.inr ⟨b, x, y, (hmem b).mpr (Or.inl hb), r⟩
          · rcases (hmem b).mp hb with hb | rfl
            · exact hm b x y hb ex ey hl
            · rcases hno with e | e | e
              · rw [e] at ex; exact nomatch ex
              · rw [e] at ey; exact nomatch ey
              · rw [e] at hl; exact nomatch hl
        refine ⟨v1, ?_⟩
        rw [q1, q2]
        cases ex : jo_kv (jo_sz E S) (jo_lk K) a with
        | none => exact br_t rfl (nm_r (nI_1 a) (keep (Or.inl ex)))
        | some x =>
          have kx := k2 x ex
          refine br_f (jx_n4 (by omega)) ⟨v2, ?_⟩
          cases ey : jo_kv (jo_sz E S) (jo_lk K) (s ^^^ a) with
          | none => exact br_t rfl (nm_r (nI_1 a) (keep (Or.inr (Or.inl ey))))
          | some y =>
            have ky := k3 y ey
            have kxy := k1 x y ex ey
            refine br_f (jx_n4 (by omega)) (jx_are hXl hL (by omega) (by omega) (fun hl => nm_r (nI_1 a) (keep (Or.inr (Or.inr hl)))) (fun hl => ⟨v1, v2, ?_⟩))
            refine pk_le v (x + y) (fun hle => nm_r (nI_1 a) ?_) (fun hlt => ⟨v1, v2, nm_r (nI_add x y) (nm_r (nI_1 a) ?_)⟩) rfl (nI_add x y) (by omega) (by omega)
            · refine ih (a + 1) v (by omega) (by omega) vM ?_ (fun b x' y' hb ex' ey' hl' => ?_)
              · rcases he with e | ⟨b, x', y', hb, r⟩
                · exact Or.inl e
                · exact Or.inr ⟨b, x', y', (hmem b).mpr (Or.inl hb), r⟩
              · rcases (hmem b).mp hb with hb | rfl
                · exact hm b x' y' hb ex' ey' hl'
                · rw [ex] at ex'; rw [ey] at ey'; cases ex'; cases ey'; exact hle
            · refine ih (a + 1) _ (by omega) (by omega) (by omega) (Or.inr ⟨a, x, y, (hmem a).mpr (Or.inr rfl), ex, ey, hl, rfl⟩) (fun b x' y' hb ex' ey' hl' => ?_)
              rcases (hmem b).mp hb with hb | rfl
              · have := hm b x' y' hb ex' ey' hl'; omega
              · rw [ex] at ex'; rw [ey] at ey'; cases ex'; cases ey'; exact Nat.le_refl _
  exact ⟨_, key (s - 1) 1 2147483647 (Nat.le_refl _) (by omega) (Nat.le_refl _) (Or.inl rfl) (fun b _ _ hb => nomatch hb)⟩
theorem jx_linkedCost (hE : ∀ i, i < 5 → E i ≤ 6) (hS : ∀ p, p < 25 → S p ≤ 6) (hXe : ∀ i, i < 5 → xe i = nI (E i)) (hX : ∀ p, p < 25 → xs p = nI (S p)) (hXl : ∀ i, i < 5 → xl i = nI (L i)) (hL : jo_Lk K L) {s : Nat} (h1 : 1 ≤ s) (hs : s < 32) {post : Int32 → SX → Prop}
    (hp : ∀ xc', post (jo_ki (jo_kv (jo_sz E S) (jo_lk K) s)) (xe, xs, xl, xc', xn)) : ∃ n, wX_linkedCost_11 post (nI s) n 1 xe xs xl xc xn := by
  have key : ∀ d t xc, 1 ≤ t → t + d = s + 1 → (∀ a, 1 ≤ a → a < t → xc a = jo_ki (jo_kv (jo_sz E S) (jo_lk K) a)) → wX_linkedCost_11 post (nI s) (d + 1) (nI t) xe xs xl xc xn := by
    intro d
    induction d with
    | zero =>
      intro t xc t1 td hc
      obtain rfl : t = s + 1 := by omega
      refine br_t (nI_lt (by omega) (by omega)) ⟨vp_in_nI (by omega) (by omega), ?_⟩
      rw [nI_clamp (by omega), hc s h1 (by omega)]
      exact hp xc
    | succ d ih =>
      intro t xc t1 td hc
      have v1 : vp_in (nI t) 32 := vp_in_nI (by omega) (by omega)
      refine br_f (nI_nlt (by omega) (by omega)) (jx_one (by omega) (fun ho => ?_) (fun ho => ?_))
      · refine jx_llc hE hS hXe hX hXl hL t1 (by omega) ho hc ⟨v1, nm_r (e' := upd xc t (jo_ki (jo_kv (jo_sz E S) (jo_lk K) t))) ?_ (nm_r (nI_1 t) (ih (t + 1) _ (by omega) (by omega) (jx_upd hc)))⟩
        rw [nI_clamp (by omega)]
      · refine ⟨v1, nm_r (e' := upd xc t (jo_ki (jo_kv (jo_sz E S) (jo_lk K) t))) ?_ (nm_r (nI_1 t) (ih (t + 1) _ (by omega) (by omega) (jx_upd hc)))⟩
        rw [nI_clamp (by omega), jv_ku t1 (by omega) (jm_LsL_one ho)]; rfl
  exact ⟨_, key s 1 xc (Nat.le_refl _) (by omega) (fun a a1 a2 => by omega)⟩
/-! counts -/
theorem jx_sumt {F : Nat → Nat} {s a : Nat} (a1 : 1 ≤ a) (pt : jo_part a s = true) : ((jo_ps s (a + 1)).map F).sum = ((jo_ps s a).map F).sum + F a := by
  rw [jm_ps_t a1 pt, List.map_append, List.sum_append]; simp
theorem jx_cp (hXl : ∀ i, i < 5 → xl i = nI (L i)) (hL : jo_Lk K L) {x2 : Int32} {e : Nat → Nat → Bool} (hx : (x2 = 0 ∧ ∀ a b, e a b = true) ∨ (x2 = 1 ∧ e = jo_lk K)) {s : Nat} (h1 : 1 ≤ s) (hs : s < 32) {g : Nat → Nat} (hc : ∀ a, 1 ≤ a → a < s → xn a = nI (g a)) {post : Int32 → Prop}
    (hp : post (nI ((jo_ps s s).map fun a => if e a (s ^^^ a) = true then g a * g (s ^^^ a) else 0).sum)) : wpX_countPairs post (xe, xs, xl, xc, xn) (nI s) x2 := by
  have key : ∀ d a, 1 ≤ a → a + d = s → wX_countPairs_5 post (nI s) x2 xe xs xl xc xn (d + 1) (nI ((jo_ps s a).map fun a => if e a (s ^^^ a) = true then g a * g (s ^^^ a) else 0).sum) (nI a) := by
    intro d
    induction d with
    | zero =>
      intro a a1 ad
      obtain rfl : a = s := by omega
      exact br_t (nI_le (Nat.le_refl _) (by omega)) hp
    | succ d ih =>
      intro a a1 ad
      have hi := ih (a + 1) (by omega) (by omega)
      refine br_f (nI_ge (by omega) (by omega)) (nm_r (nx_xor s a) (jx_part (by omega) hs (fun pf => nm_r (nI_1 a) ?_) (fun pt => ?_)))
      · rw [jm_ps_f a1 pf] at hi
        exact hi
      · obtain ⟨b1, b2, b3, b4, b5⟩ := jb_pt s hs a (by omega) a1 pt
        have v1 : vp_in (nI a) 32 := vp_in_nI (by omega) (by omega)
        have v2 : vp_in (nI (s ^^^ a)) 32 := vp_in_nI (by omega) (by omega)
        rw [jx_sumt a1 pt] at hi
        have add : e a (s ^^^ a) = true → wX_countPairs_41 post (wX_countPairs_5 post (nI s) x2 xe xs xl xc xn (d + 1)) (nI s) x2 (nI ((jo_ps s a).map fun a => if e a (s ^^^ a) = true then g a * g (s ^^^ a) else 0).sum) (nI a) (nI (s ^^^ a)) xe xs xl xc xn := by
          intro he
          rw [if_pos he] at hi
          refine ⟨v1, v2, nm_r (e' := nI (((jo_ps s a).map fun a => if e a (s ^^^ a) = true then g a * g (s ^^^ a) else 0).sum + g a * g (s ^^^ a))) ?_ (nm_r (nI_1 a) hi)⟩
          rw [nI_clamp (by omega), nI_clamp (by omega), hc a a1 (by omega), hc _ b1 b2, pk_mul, nI_add]
        rcases hx with ⟨e2, he⟩ | ⟨e2, he⟩
        · exact br_t e2 (add (he _ _))
        · subst e2
          refine br_f (by decide) (jx_are hXl hL (by omega) (by omega) (fun hl => nm_r (nI_1 a) ?_) (fun hl => add (by rw [he]; exact hl)))
          rw [if_neg (by rw [he, hl]; decide)] at hi
          exact hi
  exact ⟨_, key (s - 1) 1 (Nat.le_refl _) (by omega)⟩
theorem jx_countPlans (hXl : ∀ i, i < 5 → xl i = nI (L i)) (hL : jo_Lk K L) {x2 : Int32} {e : Nat → Nat → Bool} (hx : (x2 = 0 ∧ ∀ a b, e a b = true) ∨ (x2 = 1 ∧ e = jo_lk K)) {g : Nat → Nat} (g1 : ∀ t, jo_one t = true → g t = 1)
    (g2 : ∀ t, 1 ≤ t → t < 32 → ¬ jo_one t = true → g t = ((jo_ps t t).map fun a => if e a (t ^^^ a) = true then g a * g (t ^^^ a) else 0).sum) {s : Nat} (h1 : 1 ≤ s) (hs : s < 32) {post : Int32 → SX → Prop}
    (hp : ∀ xn', post (nI (g s)) (xe, xs, xl, xc, xn')) : wpX_countPlans post (xe, xs, xl, xc, xn) (nI s) x2 := by
  have key : ∀ d t xn, 1 ≤ t → t + d = s + 1 → (∀ a, 1 ≤ a → a < t → xn a = nI (g a)) → wX_countPlans_2 post (nI s) x2 (d + 1) (nI t) xe xs xl xc xn := by
    intro d
    induction d with
    | zero =>
      intro t xn t1 td hc
      obtain rfl : t = s + 1 := by omega
      refine br_t (nI_lt (by omega) (by omega)) ⟨vp_in_nI (by omega) (by omega), ?_⟩
      rw [nI_clamp (by omega), hc s h1 (by omega)]
      exact hp xn
    | succ d ih =>
      intro t xn t1 td hc
      have v1 : vp_in (nI t) 32 := vp_in_nI (by omega) (by omega)
      refine br_f (nI_nlt (by omega) (by omega)) (jx_one (by omega) (fun ho => ?_) (fun ho => ?_))
      · refine jx_cp hXl hL hx t1 (by omega) hc ⟨v1, nm_r (e' := upd xn t (nI (g t))) ?_ (nm_r (nI_1 t) (ih (t + 1) _ (by omega) (by omega) (jx_upd hc)))⟩
        rw [nI_clamp (by omega), ← g2 t t1 (by omega) ho]
      · refine ⟨v1, nm_r (e' := upd xn t (nI (g t))) ?_ (nm_r (nI_1 t) (ih (t + 1) _ (by omega) (by omega) (jx_upd hc)))⟩
        rw [nI_clamp (by omega), g1 t ho]; rfl
  exact ⟨_, key s 1 xn (Nat.le_refl _) (by omega) (fun a a1 a2 => by omega)⟩
/-- how many plans have the least cost -/
noncomputable def jo_ch (z : Nat → Nat) (s : Nat) : Nat := (jo_P s).countP (fun p => jo_c z p == jo_lv z s)
theorem jx_ch1 {z : Nat → Nat} {t : Nat} (t1 : 1 ≤ t) (ht : t < 32) (ho : jo_one t = true) : jo_ch z t = 1 := by
  unfold jo_ch
  rw [jm_P_one ho, jv_lu t1 ht (jm_Lst_one ho)]; rfl
theorem jx_cc (hE : ∀ i, i < 5 → E i ≤ 6) (hS : ∀ p, p < 25 → S p ≤ 6) {s : Nat} (h1 : 1 ≤ s) (hs : s < 32) (ho : ¬ jo_one s = true) (hv : ∀ a, 1 ≤ a → a < s → xc a = nI (jo_lv (jo_sz E S) a)) (hc : ∀ a, 1 ≤ a → a < s → xn a = nI (jo_ch (jo_sz E S) a)) {post : Int32 → Prop}
    (hp : post (nI (jo_ch (jo_sz E S) s))) : wpX_countCheapest post (xe, xs, xl, xc, xn) (nI s) := by
  have hz : ∀ s, s < 32 → jo_sz E S s ≤ 64 ^ (jo_m s) := fun s _ => js_sz hE hS s
  unfold wpX_countCheapest
  refine jx_lcpv hE hS h1 hs ho hv (fun m he hm em => ?_)
  have eF : jo_ch (jo_sz E S) s = ((jo_ps s s).map fun a => if jo_lv (jo_sz E S) a + jo_lv (jo_sz E S) (s ^^^ a) = m then jo_ch (jo_sz E S) a * jo_ch (jo_sz E S) (s ^^^ a) else 0).sum := by
    have := jm_cnt_ch h1 hs ho _ (fun a ha => (jv_lv2 hz h1 hs ho ha).1) hm
    rw [em] at this
    exact this
  have mM : m ≤ 1090785280 := by
    obtain ⟨b, hb, e⟩ := he
    obtain ⟨_, q, _⟩ := jv_lv2 hz h1 hs ho hb
    omega
  have key : ∀ d a, 1 ≤ a → a + d = s → wX_countCheapest_11 post (nI s) (nI m) xe xs xl xc xn (d + 1) (nI ((jo_ps s a).map fun a => if jo_lv (jo_sz E S) a + jo_lv (jo_sz E S) (s ^^^ a) = m then jo_ch (jo_sz E S) a * jo_ch (jo_sz E S) (s ^^^ a) else 0).sum) (nI a) := by
    intro d
    induction d with
    | zero =>
      intro a a1 ad
      obtain rfl : a = s := by omega
      refine br_t (nI_le (Nat.le_refl _) (by omega)) ?_
      rw [← eF]; exact hp
    | succ d ih =>
      intro a a1 ad
      have hi := ih (a + 1) (by omega) (by omega)
      refine br_f (nI_ge (by omega) (by omega)) (nm_r (nx_xor s a) (jx_part (by omega) hs (fun pf => nm_r (nI_1 a) ?_) (fun pt => ?_)))
      · rw [jm_ps_f a1 pf] at hi
        exact hi
      · obtain ⟨b1, b2, b3, b4, b5⟩ := jb_pt s hs a (by omega) a1 pt
        have v1 : vp_in (nI a) 32 := vp_in_nI (by omega) (by omega)
        have v2 : vp_in (nI (s ^^^ a)) 32 := vp_in_nI (by omega) (by omega)
        obtain ⟨_, q, _⟩ := jv_lv2 hz h1 hs ho ((jm_ps s s a).mpr ⟨a1, by omega, pt⟩)
        rw [jx_sumt a1 pt] at hi
        have hsum : xc (nI a).toNatClampNeg + xc (nI (s ^^^ a)).toNatClampNeg = nI (jo_lv (jo_sz E S) a + jo_lv (jo_sz E S) (s ^^^ a)) := by
          rw [nI_clamp (by omega), nI_clamp (by omega), hv a a1 (by omega), hv _ b1 b2, nI_add]
        refine ⟨v1, v2, pk_eq (jo_lv (jo_sz E S) a + jo_lv (jo_sz E S) (s ^^^ a)) m (fun hq => ⟨v1, v2, ?_⟩) (fun hq => nm_r (nI_1 a) ?_) hsum rfl (by omega) (by omega)⟩
        · rw [if_pos hq] at hi
          refine nm_r (e' := nI (((jo_ps s a).map fun a => if jo_lv (jo_sz E S) a + jo_lv (jo_sz E S) (s ^^^ a) = m then jo_ch (jo_sz E S) a * jo_ch (jo_sz E S) (s ^^^ a) else 0).sum + jo_ch (jo_sz E S) a * jo_ch (jo_sz E S) (s ^^^ a))) ?_ (nm_r (nI_1 a) hi)
          rw [nI_clamp (by omega), nI_clamp (by omega), hc a a1 (by omega), hc _ b1 b2, pk_mul, nI_add]
        · rw [if_neg hq] at hi
          exact hi
  exact ⟨_, key (s - 1) 1 (Nat.le_refl _) (by omega)⟩
theorem jx_cheapest (hE : ∀ i, i < 5 → E i ≤ 6) (hS : ∀ p, p < 25 → S p ≤ 6) {s : Nat} (h1 : 1 ≤ s) (hs : s < 32) (hv : ∀ a, 1 ≤ a → a < s + 1 → xc a = nI (jo_lv (jo_sz E S) a)) {post : Int32 → SX → Prop}
    (hp : ∀ xn', post (nI (jo_ch (jo_sz E S) s)) (xe, xs, xl, xc, xn')) : ∃ n, wX_cheapest_16 post (nI s) n 1 xe xs xl xc xn := by
  have key : ∀ d t xn, 1 ≤ t → t + d = s + 1 → (∀ a, 1 ≤ a → a < t → xn a = nI (jo_ch (jo_sz E S) a)) → wX_cheapest_16 post (nI s) (d + 1) (nI t) xe xs xl xc xn := by
    intro d
    induction d with
    | zero =>
      intro t xn t1 td hc
      obtain rfl : t = s + 1 := by omega
      refine br_t (nI_lt (by omega) (by omega)) ⟨vp_in_nI (by omega) (by omega), ?_⟩
      rw [nI_clamp (by omega), hc s h1 (by omega)]
      exact hp xn
    | succ d ih =>
      intro t xn t1 td hc
      have v1 : vp_in (nI t) 32 := vp_in_nI (by omega) (by omega)
      refine br_f (nI_nlt (by omega) (by omega)) (jx_one (by omega) (fun ho => ?_) (fun ho => ?_))
      · refine jx_cc hE hS t1 (by omega) ho (fun a a1 a2 => hv a a1 (by omega)) hc ⟨v1, nm_r (e' := upd xn t (nI (jo_ch (jo_sz E S) t))) ?_ (nm_r (nI_1 t) (ih (t + 1) _ (by omega) (by omega) (jx_upd hc)))⟩
        rw [nI_clamp (by omega)]
      · refine ⟨v1, nm_r (e' := upd xn t (nI (jo_ch (jo_sz E S) t))) ?_ (nm_r (nI_1 t) (ih (t + 1) _ (by omega) (by omega) (jx_upd hc)))⟩
        rw [nI_clamp (by omega), jx_ch1 t1 (by omega) ho]; rfl
  exact ⟨_, key s 1 xn (Nat.le_refl _) (by omega) (fun a a1 a2 => by omega)⟩
end
