/-! the reference's runs are the plans -/
theorem jm_perm {s : Nat} (h1 : 1 ≤ s) (h : s < 32) : ((jo_RL s).map jo_js).Perm (jo_P s) := by
  by_cases e : s = 31
  · subst e; exact jo_ms_eq 11 jo_perm_31
  · exact jo_srt_eq (jo_perm_s s (by omega) h1)
theorem jm_Rs {s : Nat} (h1 : 1 ≤ s) (h : s < 32) {i : Nat} (hi : i < jo_n s) : ∃ row js, jo_R s i = some (row, js) := by
  have H : (jo_RL s).all (fun x => x.isSome) = true := by
    by_cases e : s = 31
    · subst e; exact jo_R_31
    · exact jo_R_ok s (by omega) h1
  have := List.all_eq_true.mp H (jo_R s i) (List.mem_map.mpr ⟨i, List.mem_range.mpr hi, rfl⟩)
  obtain ⟨⟨row, js⟩, e⟩ := Option.isSome_iff_exists.mp this
  exact ⟨row, js, e⟩
def jo_pj (s i : Nat) : List (Nat × Nat) := jo_js (jo_R s i)
theorem jm_RLj (s : Nat) : (jo_RL s).map jo_js = (List.range (jo_n s)).map (jo_pj s) := by
  rw [jo_RL, List.map_map]; rfl
theorem jm_pj_in {s : Nat} (h1 : 1 ≤ s) (h : s < 32) {i : Nat} (hi : i < jo_n s) : jo_pj s i ∈ jo_P s := by
  refine (jm_perm h1 h).mem_iff.mp ?_
  rw [jm_RLj]
  exact List.mem_map.mpr ⟨i, List.mem_range.mpr hi, rfl⟩
theorem jm_pj_ex {s : Nat} (h1 : 1 ≤ s) (h : s < 32) {p : List (Nat × Nat)} (hp : p ∈ jo_P s) : ∃ i, i < jo_n s ∧ jo_pj s i = p := by
  have := (jm_perm h1 h).mem_iff.mpr hp
  rw [jm_RLj] at this
  obtain ⟨i, hi, e⟩ := List.mem_map.mp this
  exact ⟨i, List.mem_range.mp hi, e⟩
theorem jm_pj_cnt {s : Nat} (h1 : 1 ≤ s) (h : s < 32) (f : List (Nat × Nat) → Bool) : ((List.range (jo_n s)).map (jo_pj s)).countP f = (jo_P s).countP f := by
  rw [← jm_RLj]; exact (jm_perm h1 h).countP_eq f
/-! linear plans -/
def jo_Pm (j s : Nat) : List (List Nat) := jo_pm 5 j s
theorem jm_pm_eq (n j s : Nat) : jo_pm (n + 1) j s = if Nat.beq j s = true then [[]] else (jo_nx j s).flatMap fun i => (jo_pm n (j ||| 2 ^ i) s).map fun l => i :: l := by
  rw [jo_pm]
theorem jm_Pm_end (s : Nat) : jo_Pm s s = [[]] := by
  have := jm_pm_eq 4 s s
  rw [if_pos (Nat.beq_refl s)] at this
  exact this
theorem jm_Pm_eq {j s : Nat} (hs : s < 32) (hj : j < 32) (hp : jo_part j s = true) (hn : j ≠ s) : jo_Pm j s = (jo_nx j s).flatMap fun i => (jo_Pm (j ||| 2 ^ i) s).map fun l => i :: l := by
  have := jm_pm_eq 5 j s
  rw [if_neg (fun e => hn (Nat.eq_of_beq_eq_true e))] at this
  exact (jo_pm_ok s hs j hj hp).symm.trans this
theorem jm_nx {j s i : Nat} : i ∈ jo_nx j s ↔ (i < 5 ∧ jo_hb (s ^^^ j) i = true) := by
  rw [jo_nx, List.mem_filter, List.mem_range]
theorem jm_nx_cut : ∀ x, x < 32 → ∀ t, t < 5 → jo_hb x t = true → (List.range 5).filter (fun i => jo_hb x i) = (List.range t).filter (fun i => jo_hb x i) ++ t :: (List.range' (t + 1) (4 - t)).filter (fun i => jo_hb x i) := by decide +kernel
def jo_w (z : Nat → Nat) (j : Nat) : Nat := if jo_one j = true then 0 else z j
def jo_lc (z : Nat → Nat) (j : Nat) (l : List Nat) : Nat := ((jo_ls j l).map z).sum
theorem jm_lc_nil (z : Nat → Nat) (j : Nat) : jo_lc z j [] = jo_w z j := by
  unfold jo_lc jo_ls jo_w
  split <;> simp
theorem jm_lc_cons (z : Nat → Nat) (j i : Nat) (l : List Nat) : jo_lc z j (i :: l) = jo_w z j + jo_lc z (j ||| 2 ^ i) l := by
  unfold jo_lc jo_w
  rw [jo_ls]
  split <;> simp
def jo_LL (z : Nat → Nat) (s j v : Nat) : Prop := (∃ l, l ∈ jo_Pm j s ∧ jo_lc z j l = v) ∧ ∀ l, l ∈ jo_Pm j s → v ≤ jo_lc z j l
def jo_Fst (z : Nat → Nat) (s j v : Nat) (l : List Nat) : Prop := (jo_Pm j s).find? (fun l => jo_lc z j l == v) = some l
section
variable {z : Nat → Nat} {s j : Nat}
theorem jm_LL_end : jo_LL z s s (jo_w z s) := by
  unfold jo_LL
  rw [jm_Pm_end]
  refine ⟨⟨[], List.mem_singleton.mpr rfl, jm_lc_nil z s⟩, fun l hl => ?_⟩
  rw [List.mem_singleton] at hl
  subst hl
  rw [jm_lc_nil]; exact Nat.le_refl _
theorem jm_LL_u {v w : Nat} (H : jo_LL z s j v) (G : jo_LL z s j w) : v = w := by
  obtain ⟨⟨p, hp, rfl⟩, H⟩ := H
  obtain ⟨⟨q, hq, rfl⟩, G⟩ := G
  have := H q hq
  have := G p hp
  omega
theorem jm_LL_step (hs : s < 32) (hj : j < 32) (hp : jo_part j s = true) (hn : j ≠ s) (cc : Nat → Nat) (hc : ∀ i, i ∈ jo_nx j s → jo_LL z s (j ||| 2 ^ i) (cc i)) {t : Nat} (ht : t ∈ jo_nx j s) (hm : ∀ i, i ∈ jo_nx j s → cc t ≤ cc i) : jo_LL z s j (jo_w z j + cc t) := by
  unfold jo_LL
  rw [jm_Pm_eq hs hj hp hn]
  simp only [List.mem_flatMap, List.mem_map]
  constructor
  · obtain ⟨⟨l, hl, e⟩, _⟩ := hc t ht
    exact ⟨t :: l, ⟨t, ht, l, hl, rfl⟩, by rw [jm_lc_cons, e]⟩
  · rintro _ ⟨i, hi, l, hl, rfl⟩
    rw [jm_lc_cons]
    have := (hc i hi).2 l hl
    have := hm i hi
    omega
theorem jm_Fst_end : jo_Fst z s s (jo_w z s) [] := by
  unfold jo_Fst
  rw [jm_Pm_end]
  simp [jm_lc_nil]
theorem jm_Fst_step (hs : s < 32) (hj : j < 32) (hp : jo_part j s = true) (hn : j ≠ s) (cc : Nat → Nat) (hc : ∀ i, i ∈ jo_nx j s → jo_LL z s (j ||| 2 ^ i) (cc i)) {t : Nat} (ht : t ∈ jo_nx j s) (hm : ∀ i, i ∈ jo_nx j s → i < t → cc t < cc i) {l : List Nat} (hf : jo_Fst z s (j ||| 2 ^ t) (cc t) l) : jo_Fst z s j (jo_w z j + cc t) (t :: l) := by
  unfold jo_Fst at hf ⊢
  obtain ⟨t5, tb⟩ := jm_nx.mp ht
  have hcut := jm_nx_cut (s ^^^ j) (jb_xorlt hs hj) t t5 tb
  rw [jm_Pm_eq hs hj hp hn]
  have e0 : jo_nx j s = _ := hcut
  have h0 : (((List.range t).filter (fun i => jo_hb (s ^^^ j) i)).flatMap (fun i => (jo_Pm (j ||| 2 ^ i) s).map fun l => i :: l)).find? (fun l => jo_lc z j l == jo_w z j + cc t) = none := by
    rw [List.find?_eq_none]
    intro x hx
    simp only [List.mem_flatMap, List.mem_map, List.mem_filter, List.mem_range] at hx
    obtain ⟨i, ⟨hi, hb⟩, l', hl', rfl⟩ := hx
    have hin : i ∈ jo_nx j s := jm_nx.mpr ⟨by omega, hb⟩
    have a1 := (hc i hin).2 l' hl'
    have a2 := hm i hin hi
    rw [jm_lc_cons]
    simp only [beq_iff_eq]
    omega
  rw [e0, List.flatMap_append, List.find?_append, h0, Option.none_or, List.flatMap_cons, List.find?_append, List.find?_map]
  have e1 : ((fun l => jo_lc z j l == jo_w z j + cc t) ∘ fun l => t :: l) = fun l => jo_lc z (j ||| 2 ^ t) l == cc t := by
    funext l'
    show (jo_lc z j (t :: l') == jo_w z j + cc t) = _
    rw [jm_lc_cons, Bool.eq_iff_iff]
    simp only [beq_iff_eq]
    omega
  rw [e1, hf]
  rfl
end
def jo_D : Nat → Nat
  | 3 => 1090781184
  | 4 => 1090519040
  | 5 => 1073741824
  | _ => 1090785280
theorem jm_Ds : ∀ j, j < 32 → ∀ i, i < 5 → jo_hb j i = false → (if jo_one j = true then 0 else 64 ^ (jo_m j)) + jo_D (jo_m (j ||| 2 ^ i)) ≤ jo_D (jo_m j) := by decide +kernel
theorem jm_De : ∀ j, j < 32 → (if jo_one j = true then 0 else 64 ^ (jo_m j)) ≤ jo_D (jo_m j) := by decide +kernel
theorem jm_Dt : ∀ j, j < 32 → jo_D (jo_m j) ≤ 1090785280 := by decide +kernel
theorem jm_wle {z : Nat → Nat} (hz : ∀ s, s < 32 → z s ≤ 64 ^ (jo_m s)) {j : Nat} (hj : j < 32) : jo_w z j ≤ (if jo_one j = true then 0 else 64 ^ (jo_m j)) := by
  unfold jo_w
  split
  · exact Nat.le_refl _
  · exact hz j hj
theorem jm_lin {s : Nat} (h1 : 1 ≤ s) (h : s < 32) : (((jo_RL s).filter (fun x => jo_lin (jo_js x))).map fun x => (jo_rw x, (jo_js x).map fun y => y.1 ||| y.2)) = (jo_Pm 0 s).map fun l => (l, jo_ls 0 l) := by
  by_cases e : s = 31
  · subst e; exact jo_lin_31
  · exact jo_lin_s s (by omega) h1
theorem jm_c_eq (z : Nat → Nat) (p : List (Nat × Nat)) : jo_c z p = ((p.map fun y => y.1 ||| y.2).map z).sum := by
  rw [jo_c, List.map_map]; rfl
theorem jm_lin_a {z : Nat → Nat} {s : Nat} (h1 : 1 ≤ s) (h : s < 32) {i : Nat} (hi : i < jo_n s) (hl : jo_lin (jo_pj s i) = true) : ∃ l, l ∈ jo_Pm 0 s ∧ jo_c z (jo_pj s i) = jo_lc z 0 l := by
  have : (jo_rw (jo_R s i), (jo_js (jo_R s i)).map fun y => y.1 ||| y.2) ∈ (((jo_RL s).filter (fun x => jo_lin (jo_js x))).map fun x => (jo_rw x, (jo_js x).map fun y => y.1 ||| y.2)) :=
    List.mem_map.mpr ⟨jo_R s i, List.mem_filter.mpr ⟨List.mem_map.mpr ⟨i, List.mem_range.mpr hi, rfl⟩, hl⟩, rfl⟩
  rw [jm_lin h1 h] at this
  obtain ⟨l, hl', e⟩ := List.mem_map.mp this
  refine ⟨l, hl', ?_⟩
  rw [jm_c_eq, jo_lc]
  exact congrArg (fun x => (x.map z).sum) (congrArg Prod.snd e).symm
theorem jm_lin_b {z : Nat → Nat} {s : Nat} (h1 : 1 ≤ s) (h : s < 32) {l : List Nat} (hl : l ∈ jo_Pm 0 s) : ∃ i, i < jo_n s ∧ jo_lin (jo_pj s i) = true ∧ jo_c z (jo_pj s i) = jo_lc z 0 l := by
  have : (l, jo_ls 0 l) ∈ (jo_Pm 0 s).map fun l => (l, jo_ls 0 l) := List.mem_map.mpr ⟨l, hl, rfl⟩
  rw [← jm_lin h1 h] at this
  obtain ⟨x, hx, e⟩ := List.mem_map.mp this
  obtain ⟨hx1, hx2⟩ := List.mem_filter.mp hx
  obtain ⟨i, hi, rfl⟩ := List.mem_map.mp hx1
  refine ⟨i, List.mem_range.mp hi, hx2, ?_⟩
  rw [jm_c_eq, jo_lc]
  exact congrArg (fun x => (x.map z).sum) (congrArg Prod.snd e)
theorem jm_lin_c {z : Nat → Nat} {s : Nat} (h1 : 1 ≤ s) (h : s < 32) {v : Nat} {l : List Nat} (hf : jo_Fst z s 0 v l) {i : Nat} (hi : i < jo_n s) (hl : jo_lin (jo_pj s i) = true) (hc : jo_c z (jo_pj s i) = v)
    (hb : ∀ j, j < i → ¬ (jo_lin (jo_pj s j) = true ∧ jo_c z (jo_pj s j) = v)) : jo_rw (jo_R s i) = l := by
  have e1 : (jo_RL s).find? (fun x => jo_lin (jo_js x) && (jo_c z (jo_js x) == v)) = some (jo_R s i) := by
    rw [jo_RL, List.find?_map]
    have : (List.range (jo_n s)).find? ((fun x => jo_lin (jo_js x) && (jo_c z (jo_js x) == v)) ∘ jo_R s) = some i := by
      rw [List.find?_range_eq_some]
      refine ⟨?_, List.mem_range.mpr hi, fun j hj => ?_⟩
      · show (jo_lin (jo_pj s i) && (jo_c z (jo_pj s i) == v)) = true
        rw [hl, hc]; simp
      · show (!(jo_lin (jo_pj s j) && (jo_c z (jo_pj s j) == v))) = true
        have := hb j hj
        rw [Bool.not_eq_true', Bool.eq_false_iff]
        intro e
        simp only [Bool.and_eq_true, beq_iff_eq] at e
        exact this e
    rw [this]; rfl
  have e2 := congrArg (fun L => L.find? (fun x => (x.2.map z).sum == v)) (jm_lin h1 h)
  simp only [List.find?_map, List.find?_filter] at e2
  have e3 : ((fun x : List Nat × List Nat => (x.2.map z).sum == v) ∘ fun l => (l, jo_ls 0 l)) = fun l => jo_lc z 0 l == v := rfl
  rw [e3] at e2
  unfold jo_Fst at hf
  rw [hf] at e2
  have e4 : (fun x => jo_lin (jo_js x) && (jo_c z (jo_js x) == v)) = fun x => jo_lin (jo_js x) && ((fun x : List Nat × List Nat => (x.2.map z).sum == v) ∘ fun x => (jo_rw x, (jo_js x).map fun y => y.1 ||| y.2)) x := by
    funext x
    rw [jm_c_eq]; rfl
  rw [e4] at e1
  simp only [Bool.decide_and, Bool.decide_eq_true] at e2
  rw [e1] at e2
  exact congrArg (fun x => x.1) (Option.some.inj e2)
