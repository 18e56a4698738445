/-! the values that both sides answer -/
theorem jv_min {α : Type} (f : α → Nat) : ∀ l : List α, l ≠ [] → ∃ p, p ∈ l ∧ ∀ q, q ∈ l → f p ≤ f q := by
  intro l
  induction l with
  | nil => intro h; exact absurd rfl h
  | cons x l ih =>
    intro _
    by_cases e : l = []
    · subst e
      refine ⟨x, List.mem_cons_self .., fun q hq => ?_⟩
      rw [List.mem_singleton] at hq
      subst hq; exact Nat.le_refl _
    · obtain ⟨p, hp, H⟩ := ih e
      by_cases hx : f x ≤ f p
      · refine ⟨x, List.mem_cons_self .., fun q hq => ?_⟩
        rcases List.mem_cons.mp hq with rfl | hq
        · exact Nat.le_refl _
        · exact Nat.le_trans hx (H q hq)
      · refine ⟨p, List.mem_cons_of_mem _ hp, fun q hq => ?_⟩
        rcases List.mem_cons.mp hq with rfl | hq
        · omega
        · exact H q hq
theorem jv_max {α : Type} (f : α → Nat) : ∀ l : List α, l ≠ [] → ∃ p, p ∈ l ∧ ∀ q, q ∈ l → f q ≤ f p := by
  intro l
  induction l with
  | nil => intro h; exact absurd rfl h
  | cons x l ih =>
    intro _
    by_cases e : l = []
    · subst e
      refine ⟨x, List.mem_cons_self .., fun q hq => ?_⟩
      rw [List.mem_singleton] at hq
      subst hq; exact Nat.le_refl _
    · obtain ⟨p, hp, H⟩ := ih e
      by_cases hx : f p ≤ f x
      · refine ⟨x, List.mem_cons_self .., fun q hq => ?_⟩
        rcases List.mem_cons.mp hq with rfl | hq
        · exact Nat.le_refl _
        · exact Nat.le_trans (H q hq) hx
      · refine ⟨p, List.mem_cons_of_mem _ hp, fun q hq => ?_⟩
        rcases List.mem_cons.mp hq with rfl | hq
        · omega
        · exact H q hq
theorem jv_psne : ∀ s, s < 32 → 1 ≤ s → jo_one s = false → jo_ps s s ≠ [] := by decide +kernel
theorem jv_pmne : ∀ s, s < 32 → ∀ j, j < 32 → jo_part j s = true → jo_pm 5 j s ≠ [] := by decide +kernel
theorem jv_ne : ∀ s, 1 ≤ s → s < 32 → jo_P s ≠ [] := by
  refine jm_ind (fun s h1 h ho => ?_) (fun s h1 h ho ih => ?_)
  · rw [jm_P_one ho]; exact fun e => nomatch e
  · obtain ⟨a, ha⟩ := List.exists_mem_of_ne_nil _ (jv_psne s h h1 (by simpa using ho))
    obtain ⟨p, hp⟩ := List.exists_mem_of_ne_nil _ (ih a ha).1
    obtain ⟨q, hq⟩ := List.exists_mem_of_ne_nil _ (ih a ha).2
    exact List.ne_nil_of_mem ((jm_mem h1 h ho).mpr ⟨a, ha, p, hp, q, hq, rfl⟩)
noncomputable def jo_lv (z : Nat → Nat) (s : Nat) : Nat := Classical.epsilon (fun v => jo_Lst z s v)
noncomputable def jo_gv (z : Nat → Nat) (s : Nat) : Nat := Classical.epsilon (fun v => jo_Grt z s v)
noncomputable def jo_kv (z : Nat → Nat) (lk : Nat → Nat → Bool) (s : Nat) : Option Nat := Classical.epsilon (fun v => jo_LsL z lk s v)
noncomputable def jo_ll (z : Nat → Nat) (s j : Nat) : Nat := Classical.epsilon (fun v => jo_LL z s j v)
section
variable {z : Nat → Nat} {lk : Nat → Nat → Bool} {s : Nat}
theorem jv_l (h1 : 1 ≤ s) (h : s < 32) : jo_Lst z s (jo_lv z s) := by
  refine Classical.epsilon_spec (p := fun v => jo_Lst z s v) ?_
  obtain ⟨p, hp, H⟩ := jv_min (jo_c z) _ (jv_ne s h1 h)
  exact ⟨_, ⟨p, hp, rfl⟩, H⟩
theorem jv_lu (h1 : 1 ≤ s) (h : s < 32) {v : Nat} (H : jo_Lst z s v) : jo_lv z s = v := jm_Lst_u (jv_l h1 h) H
theorem jv_g (h1 : 1 ≤ s) (h : s < 32) : jo_Grt z s (jo_gv z s) := by
  refine Classical.epsilon_spec (p := fun v => jo_Grt z s v) ?_
  obtain ⟨p, hp, H⟩ := jv_max (jo_c z) _ (jv_ne s h1 h)
  exact ⟨_, ⟨p, hp, rfl⟩, H⟩
theorem jv_gu (h1 : 1 ≤ s) (h : s < 32) {v : Nat} (H : jo_Grt z s v) : jo_gv z s = v := jm_Grt_u (jv_g h1 h) H
theorem jv_k (h1 : 1 ≤ s) (h : s < 32) : jo_LsL z lk s (jo_kv z lk s) := by
  refine Classical.epsilon_spec (p := fun v => jo_LsL z lk s v) ?_
  by_cases e : (jo_P s).filter (jo_lkd lk) = []
  · refine ⟨none, fun _ p hp => ?_, fun v q => nomatch q⟩
    cases hl : jo_lkd lk p with
    | false => rfl
    | true =>
      have := List.mem_filter.mpr ⟨hp, hl⟩
      rw [e] at this; exact nomatch this
  · obtain ⟨p, hp, H⟩ := jv_min (jo_c z) _ e
    obtain ⟨hp1, hp2⟩ := List.mem_filter.mp hp
    refine ⟨some (jo_c z p), (fun q => nomatch q), fun v q => ?_⟩
    cases q
    exact ⟨⟨p, hp1, hp2, rfl⟩, fun q hq hl => H q (List.mem_filter.mpr ⟨hq, hl⟩)⟩
theorem jv_ku (h1 : 1 ≤ s) (h : s < 32) {o : Option Nat} (H : jo_LsL z lk s o) : jo_kv z lk s = o := by
  have G := jv_k (z := z) (lk := lk) h1 h
  generalize jo_kv z lk s = w at G
  cases o with
  | none =>
    cases w with
    | none => rfl
    | some v =>
      obtain ⟨⟨p, hp, hl, _⟩, _⟩ := G.2 v rfl
      rw [H.1 rfl p hp] at hl; exact nomatch hl
  | some x =>
    obtain ⟨⟨p, hp, hl, e⟩, H2⟩ := H.2 x rfl
    cases w with
    | none => rw [G.1 rfl p hp] at hl; exact nomatch hl
    | some v =>
      obtain ⟨⟨q, hq, hl', e'⟩, G2⟩ := G.2 v rfl
      have := H2 q hq hl'
      have := G2 p hp hl
      congr 1; omega
theorem jv_ll {j : Nat} (h : s < 32) (hj : j < 32) (hp : jo_part j s = true) : jo_LL z s j (jo_ll z s j) := by
  refine Classical.epsilon_spec (p := fun v => jo_LL z s j v) ?_
  obtain ⟨p, hp, H⟩ := jv_min (jo_lc z j) _ (jv_pmne s h j hj hp)
  exact ⟨_, ⟨p, hp, rfl⟩, H⟩
theorem jv_llu {j : Nat} (h : s < 32) (hj : j < 32) (hp : jo_part j s = true) {v : Nat} (H : jo_LL z s j v) : jo_ll z s j = v := jm_LL_u (jv_ll h hj hp) H
end
