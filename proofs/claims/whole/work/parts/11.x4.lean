/-! the class: left, the linear plans -/
/-- the least left set of a plan of the least cost -/
def jo_LF (z : Nat → Nat) (s a : Nat) : Prop := a ∈ jo_ps s s ∧ jo_lv z a + jo_lv z (s ^^^ a) + z s = jo_lv z s ∧ ∀ b, b ∈ jo_ps s s → b < a → jo_lv z b + jo_lv z (s ^^^ b) + z s ≠ jo_lv z s
theorem jx_LFu {z : Nat → Nat} {s a b : Nat} (h : jo_LF z s a) (g : jo_LF z s b) : a = b := by
  rcases Nat.lt_trichotomy a b with q | q | q
  · exact absurd h.2.1 (g.2.2 a h.1 q)
  · exact q
  · exact absurd g.2.1 (h.2.2 b g.1 q)
theorem jl_nxne : ∀ s, s < 32 → ∀ j, j < 32 → jo_part j s = true → j ≠ s → jo_nx j s ≠ [] := by decide +kernel
theorem jl_g1 : ∀ s, s < 32 → ∀ j, j < 32 → jo_part j s = true → ∀ i, i < 5 → jo_hb (s ^^^ j) i = true → jo_part (j ||| 2 ^ i) s = true := by decide +kernel
theorem jl_g2a : ∀ s, s < 32 → ∀ j, j < 32 → jo_part j s = true → ∀ i, i < 5 → jo_hb (s ^^^ j) i = true → jo_hb j i = false := by decide +kernel
theorem jl_g2b : ∀ s, s < 32 → ∀ j, j < 32 → jo_part j s = true → ∀ i, i < 5 → jo_hb (s ^^^ j) i = true → j < (j ||| 2 ^ i) := by decide +kernel
theorem jl_g2 (s : Nat) (hs : s < 32) (j : Nat) (hj : j < 32) (hp : jo_part j s = true) (i : Nat) (hi : i < 5) (hb : jo_hb (s ^^^ j) i = true) : jo_hb j i = false ∧ j < (j ||| 2 ^ i) := ⟨jl_g2a s hs j hj hp i hi hb, jl_g2b s hs j hj hp i hi hb⟩
theorem jl_le : ∀ s, s < 32 → ∀ j, j < 32 → jo_part j s = true → j ≤ s := by decide +kernel
theorem jl_self : ∀ s, s < 32 → jo_part s s = true := by decide +kernel
theorem jl_zero : ∀ s, s < 32 → jo_part 0 s = true := by decide +kernel
theorem jl_D {z : Nat → Nat} (hz : ∀ s, s < 32 → z s ≤ 64 ^ (jo_m s)) {s : Nat} (hs : s < 32) : ∀ n j, j < 32 → jo_part j s = true → ∀ l, l ∈ jo_pm n j s → jo_lc z j l ≤ jo_D (jo_m j) := by
  have hend : ∀ j, j < 32 → jo_lc z j [] ≤ jo_D (jo_m j) := by
    intro j hj
    rw [jm_lc_nil]
    exact Nat.le_trans (jm_wle hz hj) (jm_De j hj)
  intro n
  induction n with
  | zero =>
    intro j hj hp l hl
    rw [jo_pm] at hl
    split at hl
    · rw [List.mem_singleton] at hl; subst hl; exact hend j hj
    · exact nomatch hl
  | succ n ih =>
    intro j hj hp l hl
    rw [jm_pm_eq] at hl
    split at hl
    · rw [List.mem_singleton] at hl; subst hl; exact hend j hj
    · simp only [List.mem_flatMap, List.mem_map] at hl
      obtain ⟨i, hi, l', hl', rfl⟩ := hl
      obtain ⟨i5, ib⟩ := jm_nx.mp hi
      have h1 := ih (j ||| 2 ^ i) (jb_orlt hj (jb_bit i5)) (jl_g1 s hs j hj hp i i5 ib) l' hl'
      have h2 := jm_Ds j hj i i5 (jl_g2 s hs j hj hp i i5 ib).1
      have h3 := jm_wle hz hj
      rw [jm_lc_cons]
      omega
theorem jl_llD {z : Nat → Nat} (hz : ∀ s, s < 32 → z s ≤ 64 ^ (jo_m s)) {s j : Nat} (hs : s < 32) (hj : j < 32) (hp : jo_part j s = true) : jo_ll z s j ≤ 1090785280 := by
  obtain ⟨⟨l, hl, e⟩, _⟩ := jv_ll (z := z) hs hj hp
  rw [← e]
  exact Nat.le_trans (jl_D hz hs 5 j hj hp l hl) (jm_Dt j hj)
theorem jl_fst {z : Nat → Nat} {s j : Nat} (hs : s < 32) (hj : j < 32) (hp : jo_part j s = true) : ∃ l, jo_Fst z s j (jo_ll z s j) l := by
  obtain ⟨⟨l, hl, e⟩, _⟩ := jv_ll (z := z) hs hj hp
  have : ((jo_Pm j s).find? (fun l => jo_lc z j l == jo_ll z s j)).isSome = true := List.find?_isSome.mpr ⟨l, hl, by rw [e]; simp⟩
  exact Option.isSome_iff_exists.mp this
theorem jl_fu {z : Nat → Nat} {s j v : Nat} {l l' : List Nat} (h : jo_Fst z s j v l) (g : jo_Fst z s j v l') : l = l' := Option.some.inj (h.symm.trans g)
def jo_nth (l : List Nat) (q : Nat) : Int32 := match l[q]? with
  | some t => nI t
  | none => -4
theorem jl_n0 (q : Nat) : jo_nth [] q = -4 := by simp [jo_nth]
theorem jl_nz (t : Nat) (l : List Nat) : jo_nth (t :: l) 0 = nI t := by simp [jo_nth]
theorem jl_ns (t : Nat) (l : List Nat) (q : Nat) : jo_nth (t :: l) (q + 1) = jo_nth l q := by simp [jo_nth]
section
variable {xe xs xl xc xn : Nat → Int32} {E S L : Nat → Nat} {K : Nat → Bool}
theorem jx_left (hE : ∀ i, i < 5 → E i ≤ 6) (hS : ∀ p, p < 25 → S p ≤ 6) {s : Nat} (h1 : 1 ≤ s) (hs : s < 32) (ho : ¬ jo_one s = true) (hv : ∀ a, 1 ≤ a → a < s + 1 → xc a = nI (jo_lv (jo_sz E S) a)) {post : Int32 → SX → Prop}
    (hp : ∀ a, jo_LF (jo_sz E S) s a → post (nI a) (xe, xs, xl, xc, xn)) : wpX_leastCostOfParts (fun r => ∃ n, wX_left_32 post (nI s) r xe xs xl xc xn n 1) (xe, xs, xl, xc, xn) (nI s) := by
  have hz : ∀ s, s < 32 → jo_sz E S s ≤ 64 ^ (jo_m s) := fun s _ => js_sz hE hS s
  refine jx_lcpv hE hS h1 hs ho (fun a a1 a2 => hv a a1 (by omega)) (fun m he hm em => ?_)
  have mM : m ≤ 1090785280 := by
    obtain ⟨b, hb, e⟩ := he
    obtain ⟨_, q, _⟩ := jv_lv2 hz h1 hs ho hb
    omega
  have key : ∀ d a, 1 ≤ a → a + d = s → (∀ b, b ∈ jo_ps s a → jo_lv (jo_sz E S) b + jo_lv (jo_sz E S) (s ^^^ b) ≠ m) → wX_left_32 post (nI s) (nI m) xe xs xl xc xn (d + 1) (nI a) := by
    intro d
    induction d with
    | zero =>
      intro a a1 ad hno
      obtain rfl : a = s := by omega
      obtain ⟨b, hb, e⟩ := he
      exact absurd e (hno b hb)
    | succ d ih =>
      intro a a1 ad hno
      refine br_f (nI_ge (by omega) (by omega)) (jx_part (by omega) hs (fun pf => nm_r (nI_1 a) ?_) (fun pt => ?_))
      · exact ih (a + 1) (by omega) (by omega) (by rw [jm_ps_f a1 pf]; exact hno)
      · have hain : a ∈ jo_ps s s := (jm_ps s s a).mpr ⟨a1, by omega, pt⟩
        obtain ⟨_, c0, c1, c2, c3, c4⟩ := jv_lv2 hz h1 hs ho hain
        have hsum := jx_sum hs (by omega) a1 pt (hv a c2 (by omega)) (hv _ c4 (by omega))
        have v1 : vp_in (nI a) 32 := vp_in_nI (by omega) (by omega)
        have v2 := jx_vx hs (by omega) a1 pt
        refine ⟨v1, v2, pk_eq (jo_lv (jo_sz E S) a + jo_lv (jo_sz E S) (s ^^^ a)) m (fun hq => hp a ⟨hain, by omega, fun b hb hlt => ?_⟩) (fun hq => nm_r (nI_1 a) ?_) hsum rfl (by omega) (by omega)⟩
        · obtain ⟨b1, b2, b3⟩ := (jm_ps s s b).mp hb
          have := hno b ((jm_ps s a b).mpr ⟨b1, hlt, b3⟩)
          omega
        · refine ih (a + 1) (by omega) (by omega) (fun b hb => ?_)
          rw [jm_ps_t a1 pt, List.mem_append, List.mem_singleton] at hb
          rcases hb with hb | rfl
          · exact hno b hb
          · exact hq
  exact ⟨_, key (s - 1) 1 (Nat.le_refl _) (by omega) (fun b hb => nomatch hb)⟩
theorem jx_next {s j : Nat} (hs : s < 32) (hj : j < 32) (hpt : jo_part j s = true) (hn : j ≠ s) {cc : Nat → Nat} (hc : ∀ i, i ∈ jo_nx j s → xc (j ||| 2 ^ i) = nI (cc i) ∧ cc i < 2147483647) {post : Int32 → Prop}
    (hp : ∀ t, t ∈ jo_nx j s → (∀ i, i ∈ jo_nx j s → cc t ≤ cc i) → (∀ i, i ∈ jo_nx j s → i < t → cc t < cc i) → post (nI t)) : wpX_nextTable post (xe, xs, xl, xc, xn) (nI j) (nI s) := by
  have key : ∀ d i t v, i + d = 5 → v ≤ 2147483647 → ((v = 2147483647 ∧ ∀ i', i' ∈ jo_nx j s → ¬ i' < i) ∨ (t ∈ jo_nx j s ∧ t < i ∧ cc t = v ∧ ∀ i', i' ∈ jo_nx j s → i' < t → cc t < cc i')) → (∀ i', i' ∈ jo_nx j s → i' < i → v ≤ cc i') →
      wX_nextTable_9 post (nI j) (nI s) xe xs xl xc xn (d + 1) (nI t) (nI v) (nI i) := by
    intro d
    induction d with
    | zero =>
      intro i t v hi vM he hm
      obtain rfl : i = 5 := by omega
      refine br_t (nI_le (a := 5) (Nat.le_refl _) (by omega)) ?_
      rcases he with ⟨_, e⟩ | ⟨t1, t2, t3, t4⟩
      · obtain ⟨i, hi⟩ := List.exists_mem_of_ne_nil _ (jl_nxne s hs j hj hpt hn)
        exact absurd (jm_nx.mp hi).1 (e i hi)
      · refine hp t t1 (fun i hi => ?_) t4
        rw [t3]; exact hm i hi (jm_nx.mp hi).1
    | succ d ih =>
      intro i t v hi vM he hm
      have i5 : i < 5 := by omega
      have hg : j ||| 2 ^ i < 32 := jb_orlt hj (jb_bit i5)
      refine br_f (nI_ge (b := 5) (by omega) (by omega)) (nm_r (e' := nI (j ||| 2 ^ i)) ?_ ?_)
      · rw [jb_shl i (by omega), nx_or]
      · rw [nx_xor]
        refine jx_has (jb_xorlt hs hj) i5 (fun hb => nm_r (nI_1 i) ?_) (fun hb => ?_)
        · have hne : ∀ i', i' ∈ jo_nx j s → i' < i + 1 → i' < i := by
            intro i' hi' hlt
            refine Decidable.byContradiction fun q => ?_
            obtain rfl : i' = i := by omega
            rw [(jm_nx.mp hi').2] at hb; exact nomatch hb
          refine ih (i + 1) t v (by omega) vM ?_ (fun i' hi' hlt => hm i' hi' (hne i' hi' hlt))
          rcases he with ⟨e1, e2⟩ | ⟨t1, t2, t3, t4⟩
          · exact Or.inl ⟨e1, fun i' hi' hlt => e2 i' hi' (hne i' hi' hlt)⟩
          · exact Or.inr ⟨t1, by omega, t3, t4⟩
        · have hin : i ∈ jo_nx j s := jm_nx.mpr ⟨i5, hb⟩
          obtain ⟨c1, c2⟩ := hc i hin
          have v1 : vp_in (nI (j ||| 2 ^ i)) 32 := vp_in_nI hg (by omega)
          have hcv : xc (nI (j ||| 2 ^ i)).toNatClampNeg = nI (cc i) := by rw [nI_clamp (by omega)]; exact c1
          refine ⟨v1, pk_le v (cc i) (fun hle => nm_r (nI_1 i) ?_) (fun hlt => ⟨v1, nm_r hcv (nm_r (nI_1 i) ?_)⟩) rfl hcv (by omega) (by omega)⟩
          · refine ih (i + 1) t v (by omega) vM ?_ (fun i' hi' hlt => ?_)
            · rcases he with ⟨e1, e2⟩ | ⟨t1, t2, t3, t4⟩
              · omega
              · exact Or.inr ⟨t1, by omega, t3, t4⟩
            · by_cases q : i' = i
              · subst q; exact hle
              · exact hm i' hi' (by omega)
          · refine ih (i + 1) i (cc i) (by omega) (by omega) (Or.inr ⟨hin, by omega, rfl, fun i' hi' hl => ?_⟩) (fun i' hi' hl => ?_)
            · have := hm i' hi' hl; omega
            · by_cases q : i' = i
              · subst q; exact Nat.le_refl _
              · have := hm i' hi' (by omega); omega
  exact ⟨_, key 5 0 0 2147483647 (by omega) (Nat.le_refl _) (Or.inl ⟨rfl, fun i' _ h => by omega⟩) (fun i' _ h => by omega)⟩
/-- the next table when the costs are the least ones of the linear plans -/
theorem jx_nextv (hE : ∀ i, i < 5 → E i ≤ 6) (hS : ∀ p, p < 25 → S p ≤ 6) {s j : Nat} (hs : s < 32) (hj : j < 32) (hpt : jo_part j s = true) (hn : j ≠ s) (hc : ∀ i, j < i → i < 32 → jo_part i s = true → xc i = nI (jo_ll (jo_sz E S) s i)) {post : Int32 → Prop}
    (hp : ∀ t, t < 5 → jo_part (j ||| 2 ^ t) s = true → j < j ||| 2 ^ t → jo_ll (jo_sz E S) s j = jo_w (jo_sz E S) j + jo_ll (jo_sz E S) s (j ||| 2 ^ t) → (∀ l, jo_Fst (jo_sz E S) s (j ||| 2 ^ t) (jo_ll (jo_sz E S) s (j ||| 2 ^ t)) l → jo_Fst (jo_sz E S) s j (jo_ll (jo_sz E S) s j) (t :: l)) → post (nI t)) :
    wpX_nextTable post (xe, xs, xl, xc, xn) (nI j) (nI s) := by
  have hz : ∀ s, s < 32 → jo_sz E S s ≤ 64 ^ (jo_m s) := fun s _ => js_sz hE hS s
  have hb : ∀ i, i ∈ jo_nx j s → j ||| 2 ^ i < 32 ∧ jo_part (j ||| 2 ^ i) s = true ∧ j < j ||| 2 ^ i := by
    intro i hi
    obtain ⟨i5, ib⟩ := jm_nx.mp hi
    exact ⟨jb_orlt hj (jb_bit i5), jl_g1 s hs j hj hpt i i5 ib, (jl_g2 s hs j hj hpt i i5 ib).2⟩
  refine jx_next hs hj hpt hn (cc := fun i => jo_ll (jo_sz E S) s (j ||| 2 ^ i)) (fun i hi => ?_) (fun t ht hm hf => ?_)
  · obtain ⟨b1, b2, b3⟩ := hb i hi
    refine ⟨hc _ b3 b1 b2, ?_⟩
    have := jl_llD hz hs b1 b2
    show jo_ll (jo_sz E S) s (j ||| 2 ^ i) < _
    omega
  · obtain ⟨b1, b2, b3⟩ := hb t ht
    have hcc : ∀ i, i ∈ jo_nx j s → jo_LL (jo_sz E S) s (j ||| 2 ^ i) (jo_ll (jo_sz E S) s (j ||| 2 ^ i)) := fun i hi => jv_ll hs (hb i hi).1 (hb i hi).2.1
    have e := jv_llu hs hj hpt (jm_LL_step hs hj hpt hn (fun i => jo_ll (jo_sz E S) s (j ||| 2 ^ i)) hcc ht hm)
    refine hp t (jm_nx.mp ht).1 b2 b3 e (fun l hl => ?_)
    rw [e]
    exact jm_Fst_step hs hj hpt hn (fun i => jo_ll (jo_sz E S) s (j ||| 2 ^ i)) hcc ht hf hl
theorem jx_flc (hE : ∀ i, i < 5 → E i ≤ 6) (hS : ∀ p, p < 25 → S p ≤ 6) (hXe : ∀ i, i < 5 → xe i = nI (E i)) (hX : ∀ p, p < 25 → xs p = nI (S p)) {s : Nat} (h1 : 1 ≤ s) (hs : s < 32) {post : SX → Prop}
    (hp : ∀ xc', (∀ j, j < 32 → jo_part j s = true → xc' j = nI (jo_ll (jo_sz E S) s j)) → post (xe, xs, xl, xc', xn)) : wpX_fillLinearCosts post (xe, xs, xl, xc, xn) (nI s) := by
  have key : ∀ k xc, k ≤ s → (∀ j, k ≤ j → j < 32 → jo_part j s = true → xc j = nI (jo_ll (jo_sz E S) s j)) → wX_fillLinearCosts_26 post (nI s) (k + 1) (nI k + (-1)) xe xs xl xc xn := by
    intro k
    induction k with
    | zero =>
      intro xc _ hc
      exact br_t (by decide) (hp xc fun j hj hpj => hc j (Nat.zero_le _) hj hpj)
    | succ k ih =>
      intro xc hk hc
      rw [pk_m1]
      have hstep : ∀ v, v = nI (jo_ll (jo_sz E S) s k) → ∀ j, k ≤ j → j < 32 → jo_part j s = true → upd xc k v j = nI (jo_ll (jo_sz E S) s j) := by
        intro v hv j h1 h2 h3
        by_cases e : j = k
        · subst e; rw [pk_us]; exact hv
        · rw [pk_un e]; exact hc j (by omega) h2 h3
      have v1 : vp_in (nI k) 32 := vp_in_nI (by omega) (by omega)
      refine br_f (nI_pos (by omega)) (jx_part (by omega) hs (fun pf => nm_e ?_) (fun pt => ?_))
      · refine ih xc (by omega) (fun j h1 h2 h3 => ?_)
        by_cases e : j = k
        · subst e; exact absurd h3 pf
        · exact hc j (by omega) h2 h3
      · refine jx_nextv hE hS hs (by omega) pt (by omega) (fun i i1 i2 i3 => hc i i1 i2 i3) (fun t t5 tp tl te _ => ?_)
        have hg : k ||| 2 ^ t < 32 := jb_orlt (by omega) (jb_bit t5)
        have e1 : nI k ||| ((1 : Int32) <<< (nI t &&& 31)) = nI (k ||| 2 ^ t) := by rw [jb_shl t (by omega), nx_or]
        refine ⟨?_, nm_r (e' := nI (jo_ll (jo_sz E S) s (k ||| 2 ^ t))) ?_ (jx_one (by omega) (fun ho => ?_) (fun ho => ?_))⟩
        · rw [e1]; exact vp_in_nI hg (by omega)
        · rw [e1, nI_clamp (by omega)]; exact hc _ tl hg tp
        · refine jx_sizeOf hE hS hXe hX (by omega) ⟨v1, nm_r (e' := upd xc k (nI (jo_ll (jo_sz E S) s k))) ?_ (nm_e (ih _ (by omega) (hstep _ rfl)))⟩
          rw [nI_clamp (by omega), nI_add, te, jo_w, if_neg ho, Nat.add_comm]
        · refine ⟨v1, nm_r (e' := upd xc k (nI (jo_ll (jo_sz E S) s k))) ?_ (nm_e (ih _ (by omega) (hstep _ rfl)))⟩
          rw [nI_clamp (by omega), te, jo_w, if_pos ho, Nat.zero_add]
  have hlast : jo_ll (jo_sz E S) s s = jo_w (jo_sz E S) s := jv_llu hs hs (jl_self s hs) jm_LL_end
  have hinv : ∀ v, v = nI (jo_w (jo_sz E S) s) → ∀ j, s ≤ j → j < 32 → jo_part j s = true → upd xc s v j = nI (jo_ll (jo_sz E S) s j) := by
    intro v hv j h1 h2 h3
    have := jl_le s hs j h2 h3
    obtain rfl : j = s := by omega
    rw [pk_us, hv, hlast]
  have e1 : nI s - 1 = nI s + (-1) := by
    obtain ⟨k, rfl⟩ : ∃ k, s = k + 1 := ⟨s - 1, by omega⟩
    rw [nI_pred, pk_m1]
  have v1 : vp_in (nI s) 32 := vp_in_nI (by omega) (by omega)
  refine jx_one hs (fun ho => ?_) (fun ho => ?_)
  · refine jx_sizeOf hE hS hXe hX hs ⟨v1, nm_r (e' := upd xc s (nI (jo_w (jo_sz E S) s))) ?_ (nm_r e1 ⟨_, key s _ (Nat.le_refl _) (hinv _ rfl)⟩)⟩
    rw [nI_clamp (by omega), jo_w, if_neg ho]
  · refine ⟨v1, nm_r (e' := upd xc s (nI (jo_w (jo_sz E S) s))) ?_ (nm_r e1 ⟨_, key s _ (Nat.le_refl _) (hinv _ rfl)⟩)⟩
    rw [nI_clamp (by omega), jo_w, if_pos ho]; rfl
theorem jx_linTab (hE : ∀ i, i < 5 → E i ≤ 6) (hS : ∀ p, p < 25 → S p ≤ 6) {s k : Nat} (hs : s < 32) (hk : k < 5) (hc : ∀ i, i < 32 → jo_part i s = true → xc i = nI (jo_ll (jo_sz E S) s i)) {post : Int32 → SX → Prop} {l0 : List Nat}
    (hl0 : jo_Fst (jo_sz E S) s 0 (jo_ll (jo_sz E S) s 0) l0) (hp0 : post (jo_nth l0 k) (xe, xs, xl, xc, xn)) : ∃ n, wX_linearTable_31 post (nI s) (nI k) xe xs xl xc xn n 0 0 := by
  have key : ∀ d p j l, p + d = k → j < 32 → jo_part j s = true → jo_Fst (jo_sz E S) s j (jo_ll (jo_sz E S) s j) l → post (jo_nth l d) (xe, xs, xl, xc, xn) → wX_linearTable_31 post (nI s) (nI k) xe xs xl xc xn (d + 1) (nI j) (nI p) := by
    have hend : ∀ {l : List Nat}, jo_Fst (jo_sz E S) s s (jo_ll (jo_sz E S) s s) l → l = [] := by
      intro l hl
      rw [jv_llu hs hs (jl_self s hs) jm_LL_end] at hl
      exact jl_fu hl jm_Fst_end
    intro d
    induction d with
    | zero =>
      intro p j l hpd hj hpt hl hp
      obtain rfl : p = k := by omega
      refine br_t (nI_le (Nat.le_refl _) (by omega)) (pk_eq j s (fun e => ?_) (fun e => ?_) rfl rfl (by omega) (by omega))
      · subst e
        rw [hend hl, jl_n0] at hp
        exact hp
      · refine jx_nextv hE hS hs hj hpt e (fun i _ i2 i3 => hc i i2 i3) (fun t t5 tp tl te hf => ?_)
        obtain ⟨l', hl'⟩ := jl_fst (z := jo_sz E S) hs (jb_orlt hj (jb_bit t5)) tp
        rw [jl_fu hl (hf l' hl'), jl_nz] at hp
        exact hp
    | succ d ih =>
      intro p j l hpd hj hpt hl hp
      refine br_f (nI_ge (by omega) (by omega)) (pk_eq j s (fun e => nm_r (nI_1 p) ?_) (fun e => ?_) rfl rfl (by omega) (by omega))
      · refine ih (p + 1) j l (by omega) hj hpt hl ?_
        subst e
        have e0 := hend hl
        subst e0
        rw [jl_n0] at hp ⊢
        exact hp
      · refine jx_nextv hE hS hs hj hpt e (fun i _ i2 i3 => hc i i2 i3) (fun t t5 tp tl te hf => ?_)
        obtain ⟨l', hl'⟩ := jl_fst (z := jo_sz E S) hs (jb_orlt hj (jb_bit t5)) tp
        rw [jl_fu hl (hf l' hl'), jl_ns] at hp
        refine nm_r (e' := nI (j ||| 2 ^ t)) ?_ (nm_r (nI_1 p) (ih (p + 1) _ l' (by omega) (jb_orlt hj (jb_bit t5)) tp hl' hp))
        rw [jb_shl t (by omega), nx_or]
  exact ⟨_, key k 0 0 l0 (by omega) (by omega) (jl_zero s hs) hl0 hp0⟩
end
