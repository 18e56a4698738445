def jo_c (z : Nat → Nat) (p : List (Nat × Nat)) : Nat := (p.map fun x => z (x.1 ||| x.2)).sum
def jo_lkd (lk : Nat → Nat → Bool) (p : List (Nat × Nat)) : Bool := p.all fun x => lk x.1 x.2
def jo_P (s : Nat) : List (List (Nat × Nat)) := jo_pl 5 s
theorem jm_c_join (z : Nat → Nat) (p q : List (Nat × Nat)) (a b : Nat) : jo_c z (p ++ (q ++ [(a, b)])) = jo_c z p + jo_c z q + z (a ||| b) := by
  simp [jo_c]; omega
theorem jm_l_join (lk : Nat → Nat → Bool) (p q : List (Nat × Nat)) (a b : Nat) : jo_lkd lk (p ++ (q ++ [(a, b)])) = (jo_lkd lk p && (jo_lkd lk q && lk a b)) := by
  simp [jo_lkd]
theorem jm_ps_t {s n : Nat} (h : 1 ≤ n) (hp : jo_part n s = true) : jo_ps s (n + 1) = jo_ps s n ++ [n] := by
  have hb : Nat.beq n 0 = false := by
    cases n with
    | zero => omega
    | succ k => rfl
  rw [jo_ps, hb, if_neg (by decide), if_pos hp]
theorem jm_ps_f {s n : Nat} (h : 1 ≤ n) (hp : ¬ jo_part n s = true) : jo_ps s (n + 1) = jo_ps s n := by
  have hb : Nat.beq n 0 = false := by
    cases n with
    | zero => omega
    | succ k => rfl
  rw [jo_ps, hb, if_neg (by decide), if_neg hp]
theorem jm_ps_1 (s : Nat) : jo_ps s 1 = [] := rfl
theorem jm_ps (s : Nat) : ∀ n a, a ∈ jo_ps s n ↔ (1 ≤ a ∧ a < n ∧ jo_part a s = true) := by
  intro n
  induction n with
  | zero => intro a; simp [jo_ps]
  | succ n ih =>
    intro a
    by_cases h0 : n = 0
    · subst h0
      rw [jm_ps_1]
      constructor
      · intro h; cases h
      · intro h; omega
    · by_cases hp : jo_part n s = true
      · rw [jm_ps_t (by omega) hp, List.mem_append, ih, List.mem_singleton]
        constructor
        · rintro (⟨h1, h2, h3⟩ | rfl)
          · exact ⟨h1, by omega, h3⟩
          · exact ⟨by omega, by omega, hp⟩
        · rintro ⟨h1, h2, h3⟩
          by_cases e : a = n
          · exact Or.inr e
          · exact Or.inl ⟨h1, by omega, h3⟩
      · rw [jm_ps_f (by omega) hp, ih]
        constructor
        · rintro ⟨h1, h2, h3⟩; exact ⟨h1, by omega, h3⟩
        · rintro ⟨h1, h2, h3⟩
          by_cases e : a = n
          · subst e; exact absurd h3 hp
          · exact ⟨h1, by omega, h3⟩
theorem jm_pl_eq (n s : Nat) : jo_pl (n + 1) s = if jo_one s = true then [[]] else (jo_ps s s).flatMap fun a => (jo_pl n a).flatMap fun p => (jo_pl n (s ^^^ a)).map fun q => p ++ (q ++ [(a, s ^^^ a)]) := by
  rw [jo_pl]
theorem jm_P_one {s : Nat} (h : jo_one s = true) : jo_P s = [[]] := by
  have := jm_pl_eq 4 s
  rw [if_pos h] at this
  exact this
theorem jm_P_eq {s : Nat} (h1 : 1 ≤ s) (h : s < 32) (ho : ¬ jo_one s = true) : jo_P s = (jo_ps s s).flatMap fun a => (jo_P a).flatMap fun p => (jo_P (s ^^^ a)).map fun q => p ++ (q ++ [(a, s ^^^ a)]) := by
  have e : jo_pl 6 s = jo_pl 5 s := by
    by_cases e31 : s = 31
    · subst e31; exact jo_pl_31
    · exact jo_pl_ok s (by omega) h1
  have := jm_pl_eq 5 s
  rw [if_neg ho] at this
  exact e.symm.trans this
theorem jm_mem {s : Nat} (h1 : 1 ≤ s) (h : s < 32) (ho : ¬ jo_one s = true) {p : List (Nat × Nat)} : p ∈ jo_P s ↔ ∃ a, a ∈ jo_ps s s ∧ ∃ p1, p1 ∈ jo_P a ∧ ∃ q, q ∈ jo_P (s ^^^ a) ∧ p1 ++ (q ++ [(a, s ^^^ a)]) = p := by
  rw [jm_P_eq h1 h ho]
  simp only [List.mem_flatMap, List.mem_map]
theorem jm_ind {Q : Nat → Prop} (q1 : ∀ s, 1 ≤ s → s < 32 → jo_one s = true → Q s) (q2 : ∀ s, 1 ≤ s → s < 32 → ¬ jo_one s = true → (∀ a, a ∈ jo_ps s s → Q a ∧ Q (s ^^^ a)) → Q s) : ∀ s, 1 ≤ s → s < 32 → Q s := by
  intro s
  induction s using Nat.strongRecOn with
  | ind s ih =>
    intro h1 h
    by_cases ho : jo_one s = true
    · exact q1 s h1 h ho
    · refine q2 s h1 h ho fun a ha => ?_
      obtain ⟨a1, a2, a3⟩ := (jm_ps s s a).mp ha
      obtain ⟨b1, b2, b3, b4, b5⟩ := jb_pt s h a a2 a1 a3
      exact ⟨ih a a2 a1 (by omega), ih _ b2 b1 (by omega)⟩
theorem jm_or {s a : Nat} (h : s < 32) (ha : a ∈ jo_ps s s) : a ||| (s ^^^ a) = s := by
  obtain ⟨a1, a2, a3⟩ := (jm_ps s s a).mp ha
  exact (jb_pt s h a a2 a1 a3).2.2.2.1
def jo_B : Nat → Nat
  | 0 => 0
  | 1 => 0
  | 2 => 4096
  | 3 => 266240
  | 4 => 17043456
  | _ => 1090785280
theorem jm_Bs : ∀ s, s < 32 → ∀ a, a < s → 1 ≤ a → jo_part a s = true → jo_B (jo_m a) + jo_B (jo_m (s ^^^ a)) + 64 ^ (jo_m s) ≤ jo_B (jo_m s) := by decide +kernel
theorem jm_Bt : ∀ s, s < 32 → jo_B (jo_m s) ≤ 1090785280 := by decide +kernel
/-- plans and what they cost -/
theorem jm_cb {z : Nat → Nat} (hz : ∀ s, s < 32 → z s ≤ 64 ^ (jo_m s)) : ∀ s, 1 ≤ s → s < 32 → ∀ p, p ∈ jo_P s → jo_c z p ≤ jo_B (jo_m s) := by
  refine jm_ind (fun s h1 h ho p hp => ?_) (fun s h1 h ho ih p hp => ?_)
  · rw [jm_P_one ho, List.mem_singleton] at hp
    subst hp
    exact Nat.zero_le _
  · obtain ⟨a, ha, p1, hp1, q, hq, rfl⟩ := (jm_mem h1 h ho).mp hp
    rw [jm_c_join, jm_or h ha]
    have i1 := (ih a ha).1 p1 hp1
    have i2 := (ih a ha).2 q hq
    obtain ⟨a1, a2, a3⟩ := (jm_ps s s a).mp ha
    have i3 := jm_Bs s h a a2 a1 a3
    have i4 := hz s h
    omega
theorem jm_cb' {z : Nat → Nat} (hz : ∀ s, s < 32 → z s ≤ 64 ^ (jo_m s)) {s : Nat} (h1 : 1 ≤ s) (h : s < 32) {p : List (Nat × Nat)} (hp : p ∈ jo_P s) : jo_c z p ≤ 1090785280 :=
  Nat.le_trans (jm_cb hz s h1 h p hp) (jm_Bt s h)
def jo_Lst (z : Nat → Nat) (s v : Nat) : Prop := (∃ p, p ∈ jo_P s ∧ jo_c z p = v) ∧ ∀ p, p ∈ jo_P s → v ≤ jo_c z p
def jo_Grt (z : Nat → Nat) (s v : Nat) : Prop := (∃ p, p ∈ jo_P s ∧ jo_c z p = v) ∧ ∀ p, p ∈ jo_P s → jo_c z p ≤ v
def jo_LsL (z : Nat → Nat) (lk : Nat → Nat → Bool) (s : Nat) (o : Option Nat) : Prop :=
  (o = none → ∀ p, p ∈ jo_P s → jo_lkd lk p = false) ∧ (∀ v, o = some v → (∃ p, p ∈ jo_P s ∧ jo_lkd lk p = true ∧ jo_c z p = v) ∧ ∀ p, p ∈ jo_P s → jo_lkd lk p = true → v ≤ jo_c z p)
section
variable {z : Nat → Nat} {lk : Nat → Nat → Bool} {s : Nat}
theorem jm_Lst_le (hz : ∀ s, s < 32 → z s ≤ 64 ^ (jo_m s)) (h1 : 1 ≤ s) (h : s < 32) {v : Nat} (H : jo_Lst z s v) : v ≤ 1090785280 := by
  obtain ⟨⟨p, hp, rfl⟩, _⟩ := H
  exact jm_cb' hz h1 h hp
theorem jm_Lst_u {v w : Nat} (H : jo_Lst z s v) (G : jo_Lst z s w) : v = w := by
  obtain ⟨⟨p, hp, rfl⟩, H⟩ := H
  obtain ⟨⟨q, hq, rfl⟩, G⟩ := G
  have := H q hq
  have := G p hp
  omega
theorem jm_Lst_one (h : jo_one s = true) : jo_Lst z s 0 := by
  refine ⟨⟨[], ?_, rfl⟩, fun p _ => Nat.zero_le _⟩
  rw [jm_P_one h]; exact List.mem_singleton.mpr rfl
theorem jm_Lst_step (h1 : 1 ≤ s) (h : s < 32) (ho : ¬ jo_one s = true) (cc : Nat → Nat) (hc : ∀ a, a ∈ jo_ps s s → jo_Lst z a (cc a) ∧ jo_Lst z (s ^^^ a) (cc (s ^^^ a))) {m : Nat}
    (he : ∃ a, a ∈ jo_ps s s ∧ cc a + cc (s ^^^ a) = m) (hm : ∀ a, a ∈ jo_ps s s → m ≤ cc a + cc (s ^^^ a)) : jo_Lst z s (m + z s) := by
  constructor
  · obtain ⟨a, ha, e⟩ := he
    obtain ⟨⟨⟨p, hp, e1⟩, _⟩, ⟨⟨q, hq, e2⟩, _⟩⟩ := hc a ha
    refine ⟨p ++ (q ++ [(a, s ^^^ a)]), (jm_mem h1 h ho).mpr ⟨a, ha, p, hp, q, hq, rfl⟩, ?_⟩
    rw [jm_c_join, jm_or h ha, e1, e2, e]
  · intro p hp
    obtain ⟨a, ha, p1, hp1, q, hq, rfl⟩ := (jm_mem h1 h ho).mp hp
    rw [jm_c_join, jm_or h ha]
    have i1 := (hc a ha).1.2 p1 hp1
    have i2 := (hc a ha).2.2 q hq
    have := hm a ha
    omega
theorem jm_Grt_le (hz : ∀ s, s < 32 → z s ≤ 64 ^ (jo_m s)) (h1 : 1 ≤ s) (h : s < 32) {v : Nat} (H : jo_Grt z s v) : v ≤ 1090785280 := by
  obtain ⟨⟨p, hp, rfl⟩, _⟩ := H
  exact jm_cb' hz h1 h hp
theorem jm_Grt_u {v w : Nat} (H : jo_Grt z s v) (G : jo_Grt z s w) : v = w := by
  obtain ⟨⟨p, hp, rfl⟩, H⟩ := H
  obtain ⟨⟨q, hq, rfl⟩, G⟩ := G
  have := H q hq
  have := G p hp
  omega
theorem jm_Grt_one (h : jo_one s = true) : jo_Grt z s 0 := by
  constructor
  · refine ⟨[], ?_, rfl⟩
    rw [jm_P_one h]; exact List.mem_singleton.mpr rfl
  · intro p hp
    rw [jm_P_one h, List.mem_singleton] at hp
    subst hp
    exact Nat.le_refl _
theorem jm_Grt_step (h1 : 1 ≤ s) (h : s < 32) (ho : ¬ jo_one s = true) (cc : Nat → Nat) (hc : ∀ a, a ∈ jo_ps s s → jo_Grt z a (cc a) ∧ jo_Grt z (s ^^^ a) (cc (s ^^^ a))) {m : Nat}
    (he : ∃ a, a ∈ jo_ps s s ∧ cc a + cc (s ^^^ a) = m) (hm : ∀ a, a ∈ jo_ps s s → cc a + cc (s ^^^ a) ≤ m) : jo_Grt z s (m + z s) := by
  constructor
  · obtain ⟨a, ha, e⟩ := he
    obtain ⟨⟨⟨p, hp, e1⟩, _⟩, ⟨⟨q, hq, e2⟩, _⟩⟩ := hc a ha
    refine ⟨p ++ (q ++ [(a, s ^^^ a)]), (jm_mem h1 h ho).mpr ⟨a, ha, p, hp, q, hq, rfl⟩, ?_⟩
    rw [jm_c_join, jm_or h ha, e1, e2, e]
  · intro p hp
    obtain ⟨a, ha, p1, hp1, q, hq, rfl⟩ := (jm_mem h1 h ho).mp hp
    rw [jm_c_join, jm_or h ha]
    have i1 := (hc a ha).1.2 p1 hp1
    have i2 := (hc a ha).2.2 q hq
    have := hm a ha
    omega
theorem jm_LsL_le (hz : ∀ s, s < 32 → z s ≤ 64 ^ (jo_m s)) (h1 : 1 ≤ s) (h : s < 32) {v : Nat} (H : jo_LsL z lk s (some v)) : v ≤ 1090785280 := by
  obtain ⟨⟨p, hp, _, rfl⟩, _⟩ := H.2 v rfl
  exact jm_cb' hz h1 h hp
theorem jm_LsL_one (h : jo_one s = true) : jo_LsL z lk s (some 0) := by
  refine ⟨fun e => (nomatch e), fun v e => ?_⟩
  cases e
  refine ⟨⟨[], ?_, rfl, rfl⟩, fun p _ _ => Nat.zero_le _⟩
  rw [jm_P_one h]; exact List.mem_singleton.mpr rfl
theorem jm_LsL_none (h1 : 1 ≤ s) (h : s < 32) (ho : ¬ jo_one s = true) (cc : Nat → Option Nat) (hc : ∀ a, a ∈ jo_ps s s → jo_LsL z lk a (cc a) ∧ jo_LsL z lk (s ^^^ a) (cc (s ^^^ a)))
    (hn : ∀ a, a ∈ jo_ps s s → cc a = none ∨ cc (s ^^^ a) = none ∨ lk a (s ^^^ a) = false) : jo_LsL z lk s none := by
  refine ⟨fun _ p hp => ?_, fun v e => (nomatch e)⟩
  obtain ⟨a, ha, p1, hp1, q, hq, rfl⟩ := (jm_mem h1 h ho).mp hp
  rw [jm_l_join]
  rcases hn a ha with e | e | e
  · rw [(hc a ha).1.1 e p1 hp1]; rfl
  · rw [(hc a ha).2.1 e q hq]; simp
  · rw [e]; simp
theorem jm_LsL_some (h1 : 1 ≤ s) (h : s < 32) (ho : ¬ jo_one s = true) (cc : Nat → Option Nat) (hc : ∀ a, a ∈ jo_ps s s → jo_LsL z lk a (cc a) ∧ jo_LsL z lk (s ^^^ a) (cc (s ^^^ a))) {m : Nat}
    (he : ∃ a x y, a ∈ jo_ps s s ∧ cc a = some x ∧ cc (s ^^^ a) = some y ∧ lk a (s ^^^ a) = true ∧ x + y = m)
    (hm : ∀ a x y, a ∈ jo_ps s s → cc a = some x → cc (s ^^^ a) = some y → lk a (s ^^^ a) = true → m ≤ x + y) : jo_LsL z lk s (some (m + z s)) := by
  refine ⟨fun e => (nomatch e), fun v e => ?_⟩
  cases e
  constructor
  · obtain ⟨a, x, y, ha, ex, ey, hl, e⟩ := he
    obtain ⟨⟨p, hp, lp, e1⟩, _⟩ := (hc a ha).1.2 x ex
    obtain ⟨⟨q, hq, lq, e2⟩, _⟩ := (hc a ha).2.2 y ey
    refine ⟨p ++ (q ++ [(a, s ^^^ a)]), (jm_mem h1 h ho).mpr ⟨a, ha, p, hp, q, hq, rfl⟩, ?_, ?_⟩
    · rw [jm_l_join, lp, lq, hl]; rfl
    · rw [jm_c_join, jm_or h ha, e1, e2, e]
  · intro p hp hl
    obtain ⟨a, ha, p1, hp1, q, hq, rfl⟩ := (jm_mem h1 h ho).mp hp
    rw [jm_l_join] at hl
    rw [jm_c_join, jm_or h ha]
    simp only [Bool.and_eq_true] at hl
    obtain ⟨l1, l2, l3⟩ := hl
    cases ex : cc a with
    | none => have := (hc a ha).1.1 ex p1 hp1; rw [l1] at this; exact nomatch this
    | some x =>
      cases ey : cc (s ^^^ a) with
      | none => have := (hc a ha).2.1 ey q hq; rw [l2] at this; exact nomatch this
      | some y =>
        have i1 := ((hc a ha).1.2 x ex).2 p1 hp1 l1
        have i2 := ((hc a ha).2.2 y ey).2 q hq l2
        have := hm a x y ha ex ey l3
        omega
end
/-! counting -/
theorem jm_prod {f g h : List (Nat × Nat) → Bool} {e : Bool} {x : Nat × Nat} (l2 : List (List (Nat × Nat))) : ∀ l1 : List (List (Nat × Nat)), (∀ p, p ∈ l1 → ∀ q, q ∈ l2 → f (p ++ (q ++ [x])) = (g p && (h q && e))) →
    (l1.flatMap fun p => l2.map fun q => p ++ (q ++ [x])).countP f = if e = true then l1.countP g * l2.countP h else 0 := by
  intro l1
  induction l1 with
  | nil => intro _; simp
  | cons p l1 ih =>
    intro H
    rw [List.flatMap_cons, List.countP_append, ih (fun p' hp' => H p' (List.mem_cons_of_mem _ hp')), List.countP_map]
    have e1 : List.countP (f ∘ fun q => p ++ (q ++ [x])) l2 = List.countP (fun q => g p && (h q && e)) l2 :=
      List.countP_congr fun q hq => by
        show f (p ++ (q ++ [x])) = true ↔ _
        rw [H p (List.mem_cons_self ..) q hq]
    rw [e1, List.countP_cons]
    cases e with
    | false => simp
    | true =>
      cases hg : g p with
      | false => simp
      | true => simp [Nat.add_mul]; exact Nat.add_comm _ _
theorem jm_cnt {s : Nat} (h1 : 1 ≤ s) (h : s < 32) (ho : ¬ jo_one s = true) (f : List (Nat × Nat) → Bool) (F : Nat → Nat)
    (H : ∀ a, a ∈ jo_ps s s → ((jo_P a).flatMap fun p => (jo_P (s ^^^ a)).map fun q => p ++ (q ++ [(a, s ^^^ a)])).countP f = F a) : (jo_P s).countP f = ((jo_ps s s).map F).sum := by
  rw [jm_P_eq h1 h ho, List.countP_flatMap]
  congr 1
  exact List.map_congr_left fun a ha => H a ha
theorem jm_cnt_all {s : Nat} (h1 : 1 ≤ s) (h : s < 32) (ho : ¬ jo_one s = true) : (jo_P s).countP (fun _ => true) = ((jo_ps s s).map fun a => (jo_P a).countP (fun _ => true) * (jo_P (s ^^^ a)).countP (fun _ => true)).sum :=
  jm_cnt h1 h ho _ _ fun a ha => by
    rw [jm_prod (g := fun _ => true) (h := fun _ => true) (e := true) _ _ (fun p _ q _ => rfl), if_pos rfl]
theorem jm_cnt_lk {lk : Nat → Nat → Bool} {s : Nat} (h1 : 1 ≤ s) (h : s < 32) (ho : ¬ jo_one s = true) : (jo_P s).countP (jo_lkd lk) = ((jo_ps s s).map fun a => if lk a (s ^^^ a) = true then (jo_P a).countP (jo_lkd lk) * (jo_P (s ^^^ a)).countP (jo_lkd lk) else 0).sum :=
  jm_cnt h1 h ho _ _ fun a ha => by
    rw [jm_prod (g := jo_lkd lk) (h := jo_lkd lk) (e := lk a (s ^^^ a)) _ _ (fun p _ q _ => jm_l_join ..)]
theorem jm_cnt_ch {z : Nat → Nat} {s : Nat} (h1 : 1 ≤ s) (h : s < 32) (ho : ¬ jo_one s = true) (cc : Nat → Nat) (hc : ∀ a, a ∈ jo_ps s s → jo_Lst z a (cc a) ∧ jo_Lst z (s ^^^ a) (cc (s ^^^ a))) {m : Nat} (hm : ∀ a, a ∈ jo_ps s s → m ≤ cc a + cc (s ^^^ a)) :
    (jo_P s).countP (fun p => jo_c z p == m + z s) = ((jo_ps s s).map fun a => if cc a + cc (s ^^^ a) = m then (jo_P a).countP (fun p => jo_c z p == cc a) * (jo_P (s ^^^ a)).countP (fun p => jo_c z p == cc (s ^^^ a)) else 0).sum :=
  jm_cnt h1 h ho _ _ fun a ha => by
    rw [jm_prod (g := fun p => jo_c z p == cc a) (h := fun p => jo_c z p == cc (s ^^^ a)) (e := decide (cc a + cc (s ^^^ a) = m)) _ _ (fun p hp q hq => ?_)]
    · simp only [decide_eq_true_eq]
    · rw [jm_c_join, jm_or h ha]
      have i1 := (hc a ha).1.2 p hp
      have i2 := (hc a ha).2.2 q hq
      have i3 := hm a ha
      rw [Bool.eq_iff_iff]
      simp only [Bool.and_eq_true, beq_iff_eq, decide_eq_true_eq]
      omega
