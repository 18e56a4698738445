/-! arguments, and what the changes do -/
def jo_isT (x : Int32) : Prop := ¬ x < 0 ∧ ¬ 5 ≤ x
def jo_isE (x : Int32) : Prop := ¬ x < 0 ∧ ¬ 6 < x
def jo_isP (x y : Int32) : Prop := jo_isT x ∧ jo_isT y ∧ x ≠ y
theorem jq_T {x : Int32} (h : jo_isT x) : ∃ i, i < 5 ∧ x = nI i := by
  obtain ⟨h1, h2⟩ := h
  obtain ⟨j, hj, rfl⟩ := nI_of h1
  exact ⟨j, Decidable.byContradiction fun q => h2 (nI_le (a := 5) (by omega) hj), rfl⟩
theorem jq_E {x : Int32} (h : jo_isE x) : ∃ i, i ≤ 6 ∧ x = nI i := by
  obtain ⟨h1, h2⟩ := h
  obtain ⟨j, hj, rfl⟩ := nI_of h1
  exact ⟨j, Decidable.byContradiction fun q => h2 (nI_lt (a := 6) (by omega) hj), rfl⟩
theorem jq_45 (x : Int32) : 4 < x ↔ 5 ≤ x := by
  rw [Int32.lt_iff_toInt_lt, Int32.le_iff_toInt_le, show (4 : Int32).toInt = 4 from by decide, show (5 : Int32).toInt = 5 from by decide]
  omega
theorem jq_xTt {x : Int32} (h : jo_isT x) {post : Int32 → Prop} (hp : post 1) : wpX_isTable post x := br_f h.1 (br_f h.2 hp)
theorem jq_xTf {x : Int32} (h : ¬ jo_isT x) {post : Int32 → Prop} (hp : post 0) : wpX_isTable post x :=
  ⟨fun _ => hp, fun h1 => ⟨fun _ => hp, fun h2 => absurd ⟨h1, h2⟩ h⟩⟩
theorem jq_xEt {x : Int32} (h : jo_isE x) {post : Int32 → Prop} (hp : post 1) : wpX_isExponent post x := br_f h.1 (br_f h.2 hp)
theorem jq_xEf {x : Int32} (h : ¬ jo_isE x) {post : Int32 → Prop} (hp : post 0) : wpX_isExponent post x :=
  ⟨fun _ => hp, fun h1 => ⟨fun _ => hp, fun h2 => absurd ⟨h1, h2⟩ h⟩⟩
theorem jq_xPt {x y : Int32} (h : jo_isP x y) {post : Int32 → Prop} (hp : post 1) : wpX_isPair post x y := by
  unfold wpX_isPair
  exact jq_xTt h.1 (jx_r1 (jq_xTt h.2.1 (jx_r1 (br_f h.2.2 hp))))
theorem jq_xPf {x y : Int32} (h : ¬ jo_isP x y) {post : Int32 → Prop} (hp : post 0) : wpX_isPair post x y := by
  unfold wpX_isPair
  by_cases h1 : jo_isT x
  · refine jq_xTt h1 (jx_r1 ?_)
    by_cases h2 : jo_isT y
    · exact jq_xTt h2 (jx_r1 ⟨fun _ => hp, fun h3 => absurd ⟨h1, h2, h3⟩ h⟩)
    · exact jq_xTf h2 (jx_r0 hp)
  · exact jq_xTf h1 (jx_r0 hp)
def jo_set2 {α : Type} (f : Nat → α) (a b : Nat) (v : α) : Nat → α := fun p => if p = b then v else if p = a then v else f p
theorem jq_s2b {α : Type} {f : Nat → α} {a b : Nat} {v : α} : jo_set2 f a b v b = v := if_pos rfl
theorem jq_s2a {α : Type} {f : Nat → α} {a b : Nat} {v : α} : jo_set2 f a b v a = v := by
  unfold jo_set2
  split
  · rfl
  · rw [if_pos rfl]
theorem jq_s2n {α : Type} {f : Nat → α} {a b p : Nat} {v : α} (h1 : p ≠ a) (h2 : p ≠ b) : jo_set2 f a b v p = f p := by
  unfold jo_set2
  rw [if_neg h2, if_neg h1]
theorem jq_s2c {α : Type} {f : Nat → α} {a b p : Nat} {v : α} {Q : α → Prop} (h1 : p = a ∨ p = b → Q v) (h2 : p ≠ a → p ≠ b → Q (f p)) : Q (jo_set2 f a b v p) := by
  by_cases e1 : p = a
  · rw [e1, jq_s2a]; exact h1 (Or.inl e1)
  · by_cases e2 : p = b
    · rw [e2, jq_s2b]; exact h1 (Or.inr e2)
    · rw [jq_s2n e1 e2]; exact h2 e1 e2
theorem jq_sym {α : Type} {f : Nat → α} (hf : ∀ a b, a < 5 → b < 5 → f (5 * a + b) = f (5 * b + a)) {i j : Nat} (hi : i < 5) (hj : j < 5) (v : α) : ∀ a b, a < 5 → b < 5 → jo_set2 f (i * 5 + j) (j * 5 + i) v (5 * a + b) = jo_set2 f (i * 5 + j) (j * 5 + i) v (5 * b + a) := by
  intro a b ha hb
  by_cases e1 : a = i ∧ b = j
  · obtain ⟨rfl, rfl⟩ := e1
    rw [show 5 * a + b = a * 5 + b from by omega, show 5 * b + a = b * 5 + a from by omega, jq_s2a, jq_s2b]
  · by_cases e2 : a = j ∧ b = i
    · obtain ⟨rfl, rfl⟩ := e2
      rw [show 5 * a + b = a * 5 + b from by omega, show 5 * b + a = b * 5 + a from by omega, jq_s2a, jq_s2b]
    · rw [jq_s2n (by omega) (by omega), jq_s2n (by omega) (by omega)]
      exact hf a b ha hb
theorem jq_upd2 {f : Nat → Int32} {a b p : Nat} {v : Int32} : upd (upd f a v) b v p = jo_set2 f a b v p := rfl
/-- the ghosts -/
def jo_Gh (E S : Nat → Nat) (K : Nat → Bool) : Prop := (∀ i, i < 5 → E i ≤ 6) ∧ (∀ p, p < 25 → S p ≤ 6) ∧ (∀ i j, i < 5 → j < 5 → K (5 * i + j) = K (5 * j + i)) ∧ (∀ i j, i < 5 → j < 5 → S (5 * i + j) = S (5 * j + i))
theorem jq_Gh {E S : Nat → Nat} {K : Nat → Bool} (h : jo_Gh E S K) {i j x : Nat} (hi : i < 5) (hj : j < 5) (hx : x ≤ 6) (b : Bool) : jo_Gh E (jo_set2 S (i * 5 + j) (j * 5 + i) x) (jo_set2 K (i * 5 + j) (j * 5 + i) b) :=
  ⟨h.1, fun p hp => jq_s2c (Q := fun y => y ≤ 6) (fun _ => hx) (fun _ _ => h.2.1 p hp), jq_sym h.2.2.1 hi hj b, jq_sym h.2.2.2 hi hj x⟩
theorem jq_XS {S : Nat → Nat} {xs : Nat → Int32} (h : ∀ p, p < 25 → xs p = nI (S p)) (a b x : Nat) : ∀ p, p < 25 → upd (upd xs a (nI x)) b (nI x) p = nI (jo_set2 S a b x p) := by
  intro p hp
  rw [jq_upd2]
  by_cases e1 : p = a
  · rw [e1, jq_s2a, jq_s2a]
  · by_cases e2 : p = b
    · rw [e2, jq_s2b, jq_s2b]
    · rw [jq_s2n e1 e2, jq_s2n e1 e2]; exact h p hp
theorem jq_YF1 {S : Nat → Nat} {K : Nat → Bool} {yf : Nat → Int32} (h : jo_YF S K yf) (a b x : Nat) : jo_YF (jo_set2 S a b x) (jo_set2 K a b true) (upd (upd yf a (nI x)) b (nI x)) := by
  intro p hp
  rw [jq_upd2]
  by_cases e1 : p = a
  · rw [e1, jq_s2a, jq_s2a, jq_s2a]; exact ⟨fun _ => rfl, fun q => nomatch q⟩
  · by_cases e2 : p = b
    · rw [e2, jq_s2b, jq_s2b, jq_s2b]; exact ⟨fun _ => rfl, fun q => nomatch q⟩
    · rw [jq_s2n e1 e2, jq_s2n e1 e2, jq_s2n e1 e2]; exact h p hp
theorem jq_YF0 {S : Nat → Nat} {K : Nat → Bool} {yf : Nat → Int32} (h : jo_YF S K yf) (a b : Nat) : jo_YF (jo_set2 S a b 0) (jo_set2 K a b false) (upd (upd yf a (-1)) b (-1)) := by
  intro p hp
  rw [jq_upd2]
  by_cases e1 : p = a
  · rw [e1, jq_s2a, jq_s2a, jq_s2a]; exact ⟨fun q => (nomatch q), fun _ => ⟨rfl, rfl⟩⟩
  · by_cases e2 : p = b
    · rw [e2, jq_s2b, jq_s2b, jq_s2b]; exact ⟨fun q => (nomatch q), fun _ => ⟨rfl, rfl⟩⟩
    · rw [jq_s2n e1 e2, jq_s2n e1 e2, jq_s2n e1 e2]; exact h p hp
theorem jq_L1 {K : Nat → Bool} {L : Nat → Nat} (h : jo_Lk K L) {i j : Nat} (hi : i < 5) (hj : j < 5) (hn : i ≠ j) : jo_Lk (jo_set2 K (i * 5 + j) (j * 5 + i) true) (fun k => if k = j then L j ||| 2 ^ i else if k = i then L i ||| 2 ^ j else L k) := by
  intro k hk
  dsimp only
  by_cases e1 : k = j
  · subst e1
    rw [if_pos rfl]
    refine ⟨jb_orlt (h k hk).1 (jb_bit hi), fun c hc => ?_⟩
    rw [js_or, (h k hk).2 c hc]
    by_cases e : c = i
    · subst e
      rw [(js_bb c hc c hc).mpr rfl, Bool.or_true, show 5 * k + c = k * 5 + c from by omega, jq_s2b]
    · rw [jq_s2n (by omega) (by omega), jx_bf fun q => e ((js_bb i hi c hc).mp q), Bool.or_false]
  · rw [if_neg e1]
    by_cases e2 : k = i
    · subst e2
      rw [if_pos rfl]
      refine ⟨jb_orlt (h k hk).1 (jb_bit hj), fun c hc => ?_⟩
      rw [js_or, (h k hk).2 c hc]
      by_cases e : c = j
      · subst e
        rw [(js_bb c hc c hc).mpr rfl, Bool.or_true, show 5 * k + c = k * 5 + c from by omega, jq_s2a]
      · rw [jq_s2n (by omega) (by omega), jx_bf fun q => e ((js_bb j hj c hc).mp q), Bool.or_false]
    · rw [if_neg e2]
      refine ⟨(h k hk).1, fun c hc => ?_⟩
      rw [jq_s2n (by omega) (by omega)]
      exact (h k hk).2 c hc
def jo_clr (l t : Nat) : Nat := if jo_hb l t then l ^^^ 2 ^ t else l
theorem jq_clr : ∀ l, l < 32 → ∀ t, t < 5 → ∀ c, c < 5 → jo_hb (jo_clr l t) c = (jo_hb l c && !(Nat.beq c t)) := by decide +kernel
theorem jq_clt : ∀ l, l < 32 → ∀ t, t < 5 → jo_clr l t < 32 := by decide +kernel
theorem jq_L0 {K : Nat → Bool} {L : Nat → Nat} (h : jo_Lk K L) {i j : Nat} (hi : i < 5) (hj : j < 5) (hn : i ≠ j) : jo_Lk (jo_set2 K (i * 5 + j) (j * 5 + i) false) (fun k => if k = j then jo_clr (L j) i else if k = i then jo_clr (L i) j else L k) := by
  have hne : ∀ {c t : Nat}, c ≠ t → Nat.beq c t = false := fun e => jx_bf fun q => e (Nat.eq_of_beq_eq_true q)
  intro k hk
  dsimp only
  by_cases e1 : k = j
  · subst e1
    rw [if_pos rfl]
    refine ⟨jq_clt _ (h k hk).1 i hi, fun c hc => ?_⟩
    rw [jq_clr _ (h k hk).1 i hi c hc, (h k hk).2 c hc]
    by_cases e : c = i
    · subst e
      rw [Nat.beq_refl, show 5 * k + c = k * 5 + c from by omega, jq_s2b]; simp
    · rw [jq_s2n (by omega) (by omega), hne e]; simp
  · rw [if_neg e1]
    by_cases e2 : k = i
    · subst e2
      rw [if_pos rfl]
      refine ⟨jq_clt _ (h k hk).1 j hj, fun c hc => ?_⟩
      rw [jq_clr _ (h k hk).1 j hj c hc, (h k hk).2 c hc]
      by_cases e : c = j
      · subst e
        rw [Nat.beq_refl, show 5 * k + c = k * 5 + c from by omega, jq_s2a]; simp
      · rw [jq_s2n (by omega) (by omega), hne e]; simp
    · rw [if_neg e2]
      refine ⟨(h k hk).1, fun c hc => ?_⟩
      rw [jq_s2n (by omega) (by omega)]
      exact (h k hk).2 c hc
theorem jq_XL {xl : Nat → Int32} {L : Nat → Nat} (h : ∀ i, i < 5 → xl i = nI (L i)) {i j a b : Nat} : ∀ k, k < 5 → upd (upd xl i (nI a)) j (nI b) k = nI ((fun k => if k = j then b else if k = i then a else L k) k) := by
  intro k hk
  dsimp only
  by_cases e1 : k = j
  · subst e1; rw [pk_us, if_pos rfl]
  · rw [pk_un e1, if_neg e1]
    by_cases e2 : k = i
    · subst e2; rw [pk_us, if_pos rfl]
    · rw [pk_un e2, if_neg e2]; exact h k hk
section
variable {xe xs xl xc xn : Nat → Int32}
theorem jq_put {i j : Nat} (hi : i < 5) (hj : j < 5) {v : Int32} {post : SX → Prop} (hp : post (xe, upd (upd xs (i * 5 + j) v) (j * 5 + i) v, xl, xc, xn)) : wpX_putStrength post (xe, xs, xl, xc, xn) (nI i) (nI j) v := by
  refine ⟨?_, nm_r (e' := upd xs (i * 5 + j) v) ?_ ⟨?_, nm_r (e' := upd (upd xs (i * 5 + j) v) (j * 5 + i) v) ?_ hp⟩⟩
  · rw [jx_ix]; exact vp_in_nI (by omega) (by omega)
  · rw [jx_ix, nI_clamp (by omega)]
  · rw [jx_ix]; exact vp_in_nI (by omega) (by omega)
  · rw [jx_ix, nI_clamp (by omega)]
end
section
variable {fn fo ft fk fi : Int32} {yt yf yz ym yr yk : Nat → Int32} {E S : Nat → Nat} {K : Nat → Bool}
theorem jq_setF {i j : Nat} (hi : i < 5) (hj : j < 5) {v : Int32} {post : SY → Prop} (hp : post (fn, fo, ft, fk, fi, yt, upd (upd yf (i * 5 + j) v) (j * 5 + i) v, yz, ym, yr, yk)) : wpY_setFilter post (fn, fo, ft, fk, fi, yt, yf, yz, ym, yr, yk) (nI i) (nI j) v := by
  refine ⟨?_, nm_r (e' := upd yf (i * 5 + j) v) ?_ ⟨?_, nm_r (e' := upd (upd yf (i * 5 + j) v) (j * 5 + i) v) ?_ hp⟩⟩
  · rw [jy_ix]; exact vp_in_nI (by omega) (by omega)
  · rw [jy_ix, nI_clamp (by omega)]
  · rw [jy_ix]; exact vp_in_nI (by omega) (by omega)
  · rw [jy_ix, nI_clamp (by omega)]
theorem jq_yTt {x : Int32} (h : jo_isT x) {post : Int32 → Prop} (hp : post 1) : wpY_isTable post (fn, fo, ft, fk, fi, yt, yf, yz, ym, yr, yk) x := br_f h.1 (br_f (fun q => h.2 ((jq_45 x).mp q)) hp)
theorem jq_yTf {x : Int32} (h : ¬ jo_isT x) {post : Int32 → Prop} (hp : post 0) : wpY_isTable post (fn, fo, ft, fk, fi, yt, yf, yz, ym, yr, yk) x :=
  ⟨fun _ => hp, fun h1 => ⟨fun _ => hp, fun h2 => absurd ⟨h1, fun q => h2 ((jq_45 x).mpr q)⟩ h⟩⟩
theorem jq_yPt {x y : Int32} (h : jo_isP x y) {post : Int32 → Prop} (hp : post 1) : wpY_isPair post (fn, fo, ft, fk, fi, yt, yf, yz, ym, yr, yk) x y := by
  unfold wpY_isPair
  exact jq_yTt h.1 (jx_r1 (jq_yTt h.2.1 (jx_r1 (br_f h.2.2 hp))))
theorem jq_yPf {x y : Int32} (h : ¬ jo_isP x y) {post : Int32 → Prop} (hp : post 0) : wpY_isPair post (fn, fo, ft, fk, fi, yt, yf, yz, ym, yr, yk) x y := by
  unfold wpY_isPair
  by_cases h1 : jo_isT x
  · refine jq_yTt h1 (jx_r1 ?_)
    by_cases h2 : jo_isT y
    · exact jq_yTt h2 (jx_r1 ⟨fun _ => hp, fun h3 => absurd ⟨h1, h2, h3⟩ h⟩)
    · exact jq_yTf h2 (jx_r0 hp)
  · exact jq_yTf h1 (jx_r0 hp)
/-- the exponent's test as the reference writes it -/
theorem jq_yE {x : Int32} {A B : Prop} (f : ¬ jo_isE x → A) (t : jo_isE x → B) : (x < 0 → A) ∧ (¬ x < 0 → ((x ≤ 6 → B) ∧ (¬ x ≤ 6 → A))) :=
  ⟨fun h => f fun q => q.1 h, fun h => ⟨fun h' => t ⟨h, Int32.not_lt.mpr h'⟩, fun h' => f fun q => h' (Int32.not_lt.mp q.2)⟩⟩
end
theorem jq_5 : ∀ s, s < 32 → (jo_pm 5 0 s).all (fun l => Nat.ble l.length 5) = true := by decide +kernel
theorem jq_len {z : Nat → Nat} {s v : Nat} (hs : s < 32) {l : List Nat} (h : jo_Fst z s 0 v l) : l.length ≤ 5 := by
  have := List.all_eq_true.mp (jq_5 s hs) l (List.mem_of_find?_eq_some h)
  exact Nat.le_of_ble_eq_true this
