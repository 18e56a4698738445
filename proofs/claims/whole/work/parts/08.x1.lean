/-! the class: its small methods -/
theorem jx_r0 {A B : Prop} (a : A) : ((0 : Int32) = 0 → A) ∧ (¬ (0 : Int32) = 0 → B) := br_t rfl a
theorem jx_r1 {A B : Prop} (b : B) : ((1 : Int32) = 0 → A) ∧ (¬ (1 : Int32) = 0 → B) := br_f (by decide) b
theorem jx_bf {b : Bool} (h : ¬ b = true) : b = false := by cases b with | false => rfl | true => exact absurd rfl h
theorem jx_bt {b : Bool} (h : ¬ b = false) : b = true := by cases b with | true => rfl | false => exact absurd rfl h
theorem jx_has {s i : Nat} {A B : Prop} (hs : s < 32) (hi : i < 5) (f : jo_hb s i = false → A) (t : jo_hb s i = true → B) : wpX_hasTable (fun r => (r = 0 → A) ∧ (¬ r = 0 → B)) (nI s) (nI i) :=
  ⟨fun h => jx_r0 (f ((jb_hx s hs i hi).mp h)), fun h => jx_r1 (t (jx_bt fun e => h ((jb_hx s hs i hi).mpr e)))⟩
theorem jx_part {a s : Nat} {A B : Prop} (ha : a < 32) (hs : s < 32) (f : ¬ jo_part a s = true → A) (t : jo_part a s = true → B) : wpX_isPart (fun r => (r = 0 → A) ∧ (¬ r = 0 → B)) (nI a) (nI s) :=
  ⟨fun h => jx_r1 (t ((jb_part a ha s hs).mp h)), fun h => jx_r0 (f fun e => h ((jb_part a ha s hs).mpr e))⟩
theorem jx_one {s : Nat} {A B : Prop} (hs : s < 32) (f : ¬ jo_one s = true → A) (t : jo_one s = true → B) : wpX_needsNoJoin (fun r => (r = 0 → A) ∧ (¬ r = 0 → B)) (nI s) :=
  ⟨fun h => jx_r1 (t ((jb_one s hs).mp h)), fun h => jx_r0 (f fun e => h ((jb_one s hs).mpr e))⟩
/-- an int is a set, or it is none -/
def jo_isS (x : Int32) : Prop := ¬ x < 1 ∧ ¬ 31 < x
theorem jx_isS {x : Int32} (h : jo_isS x) : ∃ s, 1 ≤ s ∧ s < 32 ∧ x = nI s := by
  obtain ⟨h1, h2⟩ := h
  have h0 : ¬ x < 0 := fun q => h1 (Int32.lt_trans q (by decide))
  obtain ⟨j, hj, rfl⟩ := nI_of h0
  have a1 : ¬ j < 1 := fun q => h1 ((nI_ltI (b := 1) hj (by decide)).mpr q)
  have a2 : ¬ 31 < j := fun q => h2 ((nI_ltI (a := 31) (by decide) hj).mpr q)
  exact ⟨j, by omega, by omega, rfl⟩
theorem jx_set {x : Int32} {A B : Prop} (f : ¬ jo_isS x → A) (t : jo_isS x → B) : wpX_isSet (fun r => (r = 0 → A) ∧ (¬ r = 0 → B)) x :=
  ⟨fun h => jx_r0 (f fun q => q.1 h), fun h => ⟨fun h' => jx_r0 (f fun q => q.2 h'), fun h' => jx_r1 (t ⟨h, h'⟩)⟩⟩
theorem jx_ix (i j : Nat) : nI i * 5 + nI j = nI (i * 5 + j) := by
  rw [show (5 : Int32) = nI 5 from rfl, pk_mul, nI_add]
section
variable {xe xs xl xc xn : Nat → Int32} {E S L : Nat → Nat} {K : Nat → Bool}
theorem jx_swe (hX : ∀ p, p < 25 → xs p = nI (S p)) {s i : Nat} (hs : s < 32) (hi : i < 5) {post : Int32 → Prop} (hp : post (nI (jo_xs S s i i))) : wpX_strengthWithEarlier post (xe, xs, xl, xc, xn) (nI s) (nI i) := by
  have key : ∀ d j, j + d = i → wX_strengthWithEarlier_5 post (nI s) (nI i) xe xs xl xc xn (d + 1) (nI (jo_xs S s i j)) (nI j) := by
    intro d
    induction d with
    | zero =>
      intro j hj
      obtain rfl : j = i := by omega
      exact br_t (nI_le (Nat.le_refl _) (by omega)) hp
    | succ d ih =>
      intro j hj
      refine br_f (nI_ge (by omega) (by omega)) (jx_has hs (by omega) (fun hb => ?_) (fun hb => ?_))
      · refine nm_r (nI_1 j) ?_
        have := ih (j + 1) (by omega)
        rw [jo_xs, if_neg (by rw [hb]; decide)] at this
        exact this
      · refine ⟨pk_in (i * 5 + j) 25 (by omega) (jx_ix i j), nm_r (e' := nI (jo_xs S s i j + S (i * 5 + j))) ?_ (nm_r (nI_1 j) ?_)⟩
        · rw [jx_ix, nI_clamp (by omega), hX _ (by omega), nI_add]
        · have := ih (j + 1) (by omega)
          rw [jo_xs, if_pos hb] at this
          exact this
  exact ⟨_, key i 0 (by omega)⟩
theorem jx_sizeOf (hE : ∀ i, i < 5 → E i ≤ 6) (hS : ∀ p, p < 25 → S p ≤ 6) (hXe : ∀ i, i < 5 → xe i = nI (E i)) (hX : ∀ p, p < 25 → xs p = nI (S p)) {s : Nat} (hs : s < 32) {post : Int32 → Prop} (hp : post (nI (jo_sz E S s))) : wpX_sizeOf post (xe, xs, xl, xc, xn) (nI s) := by
  have key : ∀ d i, i + d = 5 → wX_sizeOf_4 post (nI s) xe xs xl xc xn (d + 1) (Int32.ofInt (jo_ex E S s i)) (nI i) := by
    intro d
    induction d with
    | zero =>
      intro i hi
      obtain rfl : i = 5 := by omega
      exact br_t (nI_le (a := 5) (Nat.le_refl _) (by omega)) (js_end hE hS s hp)
    | succ d ih =>
      intro i hi
      refine br_f (nI_ge (b := 5) (by omega) (by omega)) (jx_has hs (by omega) (fun hb => ?_) (fun hb => ?_))
      · refine nm_r (nI_1 i) ?_
        have := ih (i + 1) (by omega)
        rw [jo_ex, if_neg (by rw [hb]; decide)] at this
        exact this
      · refine ⟨vp_in_nI (by omega) (by omega), jx_swe hX hs (by omega) (nm_r (e' := Int32.ofInt (jo_ex E S s i + ((E i : Int) - (jo_xs S s i i : Int)))) ?_ (nm_r (nI_1 i) ?_))⟩
        · rw [nI_clamp (by omega), hXe _ (by omega), js_nI, js_nI, ← Int32.ofInt_sub, ← Int32.ofInt_add]
        · have := ih (i + 1) (by omega)
          rw [jo_ex, if_pos hb] at this
          exact this
  exact ⟨_, key 5 0 (by omega)⟩
theorem jx_lw (hX : ∀ i, i < 5 → xl i = nI (L i)) {s : Nat} (hs : s < 32) {post : Int32 → Prop} (hp : post (nI (jo_N L s 5))) : wpX_linkedWith post (xe, xs, xl, xc, xn) (nI s) := by
  have key : ∀ d i, i + d = 5 → wX_linkedWith_4 post (nI s) xe xs xl xc xn (d + 1) (nI (jo_N L s i)) (nI i) := by
    intro d
    induction d with
    | zero =>
      intro i hi
      obtain rfl : i = 5 := by omega
      exact br_t (nI_le (a := 5) (Nat.le_refl _) (by omega)) hp
    | succ d ih =>
      intro i hi
      refine br_f (nI_ge (b := 5) (by omega) (by omega)) (jx_has hs (by omega) (fun hb => ?_) (fun hb => ?_))
      · refine nm_r (nI_1 i) ?_
        have := ih (i + 1) (by omega)
        rw [jo_N, if_neg (by rw [hb]; decide)] at this
        exact this
      · refine ⟨vp_in_nI (by omega) (by omega), nm_r (e' := nI (jo_N L s i ||| L i)) ?_ (nm_r (nI_1 i) ?_)⟩
        · rw [nI_clamp (by omega), hX _ (by omega), nx_or]
        · have := ih (i + 1) (by omega)
          rw [jo_N, if_pos hb] at this
          exact this
  exact ⟨_, key 5 0 (by omega)⟩
theorem jx_are (hX : ∀ i, i < 5 → xl i = nI (L i)) (hL : jo_Lk K L) {a b : Nat} (ha : a < 32) (hb : b < 32) {A B : Prop} (f : jo_lk K a b = false → A) (t : jo_lk K a b = true → B) : wpX_areLinked (fun r => (r = 0 → A) ∧ (¬ r = 0 → B)) (xe, xs, xl, xc, xn) (nI a) (nI b) := by
  unfold wpX_areLinked
  refine jx_lw hX ha ?_
  have hN := js_N_lt (fun i hi => (hL i hi).1) a 5 (Nat.le_refl _)
  have e : (nI (jo_N L a 5) &&& nI b) = 0 ↔ jo_lk K a b = false := by
    rw [nx_and, ← nI_0, nI_eq (Nat.lt_of_le_of_lt Nat.and_le_right (by omega)) (by omega), js_are hL ha hb]
  exact ⟨fun h => jx_r0 (f (e.mp h)), fun h => jx_r1 (t (jx_bt fun q => h (e.mpr q)))⟩
end
