/-! the reference: its small methods, sizes, links -/
theorem jy_b : ∀ b : Bool, narrow .boolean (.int (if b = true then 1 else 0)) = .int (if b = true then 1 else 0) ∧ fits .boolean (.int (if b = true then 1 else 0)) = true := by
  intro b
  cases b with
  | false => exact ⟨rfl, by decide⟩
  | true => exact ⟨rfl, by decide⟩
theorem jy_ix (i j : Nat) : (5 : Int32) * nI i + nI j = nI (i * 5 + j) := by
  rw [show (5 : Int32) = nI 5 from rfl, pk_mul, nI_add, Nat.mul_comm]
theorem jy_div {p : Nat} (h : p < 25) : nI p / 5 = nI (p / 5) := pk_div (d := 5) (by omega) (by omega) (by omega)
theorem jy_rem {p : Nat} (h : p < 25) : nI p - nI p / 5 * 5 = nI (p % 5) := pk_rem (d := 5) (by omega) (by omega) (by omega)
/-- what the reference's arrays hold -/
def jo_YT (E : Nat → Nat) (yt : Nat → Int32) : Prop := ∀ i, i < 5 → yt i = nI (E i)
def jo_YF (S : Nat → Nat) (K : Nat → Bool) (yf : Nat → Int32) : Prop := ∀ p, p < 25 → (K p = true → yf p = nI (S p)) ∧ (K p = false → yf p = -1 ∧ S p = 0)
section
variable {fn fo ft fk fi : Int32} {yt yf yz ym yr yk : Nat → Int32} {E S : Nat → Nat} {K : Nat → Bool}
theorem jy_has {s i : Nat} {A B : Prop} (hs : s < 32) (hi : i < 5) (f : jo_hb s i = false → A) (t : jo_hb s i = true → B) : wpY_has (fun r => (r = 0 → A) ∧ (¬ r = 0 → B)) (fn, fo, ft, fk, fi, yt, yf, yz, ym, yr, yk) (nI s) (nI i) :=
  ⟨fun h => jx_r1 (t ((jb_hy s hs i hi).mp h)), fun h => jx_r0 (f (jx_bf fun e => h ((jb_hy s hs i hi).mpr e)))⟩
theorem jy_set {x : Int32} {A B : Prop} (f : ¬ jo_isS x → A) (t : jo_isS x → B) : wpY_isSet (fun r => (r = 0 → A) ∧ (¬ r = 0 → B)) (fn, fo, ft, fk, fi, yt, yf, yz, ym, yr, yk) x :=
  ⟨fun h => jx_r0 (f fun q => q.1 h), fun h => ⟨fun h' => jx_r0 (f fun q => q.2 h'), fun h' => jx_r1 (t ⟨h, h'⟩)⟩⟩
theorem jy_f0 (hS : ∀ p, p < 25 → S p ≤ 6) (hF : jo_YF S K yf) {p : Nat} (hp : p < 25) {A B : Prop} (f : S p = 0 → A) (t : yf p = nI (S p) → B) : (yf p ≤ 0 → A) ∧ (¬ yf p ≤ 0 → B) := by
  have h6 := hS p hp
  cases hk : K p with
  | true =>
    have e := (hF p hp).1 hk
    constructor
    · intro h
      refine f (Decidable.byContradiction fun q => ?_)
      rw [e] at h
      exact nI_nle (by omega) (by omega) h
    · intro _; exact t e
  | false =>
    obtain ⟨e1, e2⟩ := (hF p hp).2 hk
    constructor
    · intro _; exact f e2
    · intro h; rw [e1] at h; exact absurd (by decide) h
theorem jy_sz1 (hS : ∀ p, p < 25 → S p ≤ 6) (hF : jo_YF S K yf) {s i : Nat} (hs : s < 32) (hi : i < 5) (hb : jo_hb s i = true) {post : Int32 → Prop} {J : Int32 → Int32 → Prop} {B : Int} (hJ : J (Int32.ofInt (B - (jo_xs S s i i : Int))) (nI (i + 1))) :
    ∃ n, wY_sizeOf_34 post J (nI s) (nI i) fn fo ft fk fi yt yf yz ym yr yk n (Int32.ofInt B) 0 := by
  have key : ∀ d j, j + d = i → wY_sizeOf_34 post J (nI s) (nI i) fn fo ft fk fi yt yf yz ym yr yk (d + 1) (Int32.ofInt (B - (jo_xs S s i j : Int))) (nI j) := by
    intro d
    induction d with
    | zero =>
      intro j hj
      obtain rfl : j = i := by omega
      exact br_t (nI_le (Nat.le_refl _) (by omega)) (nm_r (nI_1 j) hJ)
    | succ d ih =>
      intro j hj
      have hi1 := ih (j + 1) (by omega)
      rw [jo_xs] at hi1
      refine br_f (nI_ge (by omega) (by omega)) (jy_has hs hi (fun q => absurd hb (by rw [q]; decide)) (fun _ => jy_has hs (by omega) (fun hb' => nm_r (nI_1 j) ?_) (fun hb' => ?_)))
      · rw [if_neg (by rw [hb']; decide)] at hi1
        exact hi1
      · rw [if_pos hb'] at hi1
        have v1 : vp_in ((5 : Int32) * nI i + nI j) 25 := by rw [jy_ix]; exact vp_in_nI (by omega) (by omega)
        refine ⟨v1, ?_⟩
        rw [jy_ix, nI_clamp (by omega)]
        refine jy_f0 hS hF (p := i * 5 + j) (by omega) (fun e => nm_r (nI_1 j) ?_) (fun e => ⟨by rw [jy_ix] at v1; exact v1, nm_r (e' := Int32.ofInt (B - ((jo_xs S s i j + S (i * 5 + j) : Nat) : Int))) ?_ (nm_r (nI_1 j) hi1)⟩)
        · rw [e] at hi1; exact hi1
        · rw [e, js_nI, ← Int32.ofInt_sub]; congr 1; omega
  have h0 := key i 0 (by omega)
  rw [show B - (jo_xs S s i 0 : Int) = B from by show B - ((0 : Nat) : Int) = B; omega] at h0
  exact ⟨_, h0⟩
theorem jy_sz0 {s i : Nat} (hs : s < 32) (hi : i < 5) (hb : jo_hb s i = false) {post : Int32 → Prop} {J : Int32 → Int32 → Prop} {x : Int32} (hJ : J x (nI (i + 1))) :
    ∃ n, wY_sizeOf_34 post J (nI s) (nI i) fn fo ft fk fi yt yf yz ym yr yk n x 0 := by
  have key : ∀ d j, j + d = i → wY_sizeOf_34 post J (nI s) (nI i) fn fo ft fk fi yt yf yz ym yr yk (d + 1) x (nI j) := by
    intro d
    induction d with
    | zero =>
      intro j hj
      obtain rfl : j = i := by omega
      exact br_t (nI_le (Nat.le_refl _) (by omega)) (nm_r (nI_1 j) hJ)
    | succ d ih =>
      intro j hj
      exact br_f (nI_ge (by omega) (by omega)) (jy_has hs hi (fun _ => nm_r (nI_1 j) (ih (j + 1) (by omega))) (fun q => absurd hb (by rw [q]; decide)))
  exact ⟨_, key i 0 (by omega)⟩
theorem jy_sizeOf (hE : ∀ i, i < 5 → E i ≤ 6) (hS : ∀ p, p < 25 → S p ≤ 6) (hT : jo_YT E yt) (hF : jo_YF S K yf) {s : Nat} (hs : s < 32) {post : Int32 → Prop} (hp : post (nI (jo_sz E S s))) : wpY_sizeOf post (fn, fo, ft, fk, fi, yt, yf, yz, ym, yr, yk) (nI s) := by
  have key : ∀ d i, i + d = 5 → wY_sizeOf_4 post (nI s) fn fo ft fk fi yt yf yz ym yr yk (d + 1) (Int32.ofInt (jo_ex E S s i)) (nI i) := by
    intro d
    induction d with
    | zero =>
      intro i hi
      obtain rfl : i = 5 := by omega
      exact br_t (nI_le (a := 5) (Nat.le_refl _) (by omega)) (js_end hE hS s hp)
    | succ d ih =>
      intro i hi
      have hi1 := ih (i + 1) (by omega)
      rw [jo_ex] at hi1
      refine br_f (nI_ge (b := 5) (by omega) (by omega)) (jy_has hs (by omega) (fun hb => ?_) (fun hb => ?_))
      · rw [if_neg (by rw [hb]; decide)] at hi1
        exact jy_sz0 hs (by omega) hb hi1
      · rw [if_pos hb] at hi1
        refine ⟨vp_in_nI (by omega) (by omega), nm_r (e' := Int32.ofInt (jo_ex E S s i + (E i : Int))) ?_ (jy_sz1 hS hF hs (by omega) hb ?_)⟩
        · rw [nI_clamp (by omega), hT _ (by omega), js_nI, ← Int32.ofInt_add]
        · rw [show jo_ex E S s i + (E i : Int) - (jo_xs S s i i : Int) = jo_ex E S s i + ((E i : Int) - (jo_xs S s i i : Int)) from by omega]
          exact hi1
  exact ⟨_, key 5 0 (by omega)⟩
theorem jy_lnk (hS : ∀ p, p < 25 → S p ≤ 6) (hF : jo_YF S K yf) {a b : Nat} (ha : a < 32) (hb : b < 32) {post : Int32 → Prop} (f : jo_lk K a b = false → post 0) (t : jo_lk K a b = true → post 1) : wpY_isLinked post (fn, fo, ft, fk, fi, yt, yf, yz, ym, yr, yk) (nI a) (nI b) := by
  have key : ∀ d p, p + d = 25 → (∀ q, q < p → ¬ (K q = true ∧ jo_hb a (q / 5) = true ∧ jo_hb b (q % 5) = true)) → wY_isLinked_2 post (nI a) (nI b) fn fo ft fk fi yt yf yz ym yr yk (d + 1) (nI p) := by
    intro d
    induction d with
    | zero =>
      intro p hp hno
      obtain rfl : p = 25 := by omega
      refine br_t (nI_le (a := 25) (Nat.le_refl _) (by omega)) (f (jx_bf fun q => ?_))
      unfold jo_lk at q
      obtain ⟨x, hx, h⟩ := List.any_eq_true.mp q
      simp only [Bool.and_eq_true] at h
      exact hno x (List.mem_range.mp hx) h
    | succ d ih =>
      intro p hp hno
      have p25 : p < 25 := by omega
      have next : ¬ (K p = true ∧ jo_hb a (p / 5) = true ∧ jo_hb b (p % 5) = true) → wY_isLinked_2 post (nI a) (nI b) fn fo ft fk fi yt yf yz ym yr yk (d + 1) (nI (p + 1)) := by
        intro h
        refine ih (p + 1) (by omega) (fun q hq => ?_)
        by_cases e : q = p
        · subst e; exact h
        · exact hno q (by omega)
      refine br_f (nI_ge (b := 25) (by omega) (by omega)) ⟨vp_in_nI (by omega) (by omega), ?_⟩
      rw [nI_clamp (by omega)]
      cases hk : K p with
      | false =>
        rw [((hF p p25).2 hk).1]
        exact br_t (by decide) (nm_r (nI_1 p) (next (fun q => by rw [hk] at q; exact nomatch q.1)))
      | true =>
        have h6 := hS p p25
        rw [(hF p p25).1 hk]
        refine br_f (nI_pos (by omega)) ⟨by decide, ?_⟩
        rw [jy_rem p25, jy_div p25]
        refine jy_has ha (by omega) (fun h1 => nm_r (nI_1 p) (next (fun q => by rw [h1] at q; exact nomatch q.2.1))) (fun h1 => ⟨by decide, jy_has hb (by omega) (fun h2 => nm_r (nI_1 p) (next (fun q => by rw [h2] at q; exact nomatch q.2.2))) (fun h2 => t ?_)⟩)
        unfold jo_lk
        refine List.any_eq_true.mpr ⟨p, List.mem_range.mpr p25, ?_⟩
        rw [hk, h1, h2]; rfl
  exact ⟨_, key 25 0 (by omega) (fun q hq => by omega)⟩
theorem jy_conn (hS : ∀ p, p < 25 → S p ≤ 6) (hF : jo_YF S K yf) {s : Nat} (h1 : 1 ≤ s) (hs : s < 32) {post : Int32 → Prop} (t : (∀ a, 1 ≤ a → a < s → jo_part a s = true → jo_lk K a (s ^^^ a) = true) → post 1) (f : (¬ ∀ a, 1 ≤ a → a < s → jo_part a s = true → jo_lk K a (s ^^^ a) = true) → post 0) :
    ∃ n, wY_connected_12 post (nI s) fn fo ft fk fi yt yf yz ym yr yk n 1 := by
  have key : ∀ d a, 1 ≤ a → a + d = s → (∀ b, 1 ≤ b → b < a → jo_part b s = true → jo_lk K b (s ^^^ b) = true) → wY_connected_12 post (nI s) fn fo ft fk fi yt yf yz ym yr yk (d + 1) (nI a) := by
    intro d
    induction d with
    | zero =>
      intro a a1 ad hy
      obtain rfl : a = s := by omega
      exact br_t (nI_le (Nat.le_refl _) (by omega)) (t hy)
    | succ d ih =>
      intro a a1 ad hy
      have next : (jo_part a s = true → jo_lk K a (s ^^^ a) = true) → wY_connected_12 post (nI s) fn fo ft fk fi yt yf yz ym yr yk (d + 1) (nI (a + 1)) := by
        intro h
        refine ih (a + 1) (by omega) (by omega) (fun b b1 b2 b3 => ?_)
        by_cases e : b = a
        · subst e; exact h b3
        · exact hy b b1 (by omega) b3
      refine br_f (nI_ge (by omega) (by omega)) ⟨fun h => ?_, fun h => nm_r (nI_1 a) (next (fun q => absurd ((jb_part a (by omega) s hs).mpr q) h))⟩
      have pt := (jb_part a (by omega) s hs).mp h
      have b := jb_pt s hs a (by omega) a1 pt
      rw [jb_less a (by omega) s hs pt]
      exact jy_lnk hS hF (by omega) (by omega) (fun q => jx_r0 (f (fun H => by rw [H a a1 (by omega) pt] at q; exact nomatch q))) (fun q => jx_r1 (nm_r (nI_1 a) (next (fun _ => q))))
  exact ⟨_, key (s - 1) 1 (Nat.le_refl _) (by omega) (fun b b1 b2 => by omega)⟩
theorem jy_count {s : Nat} (hs : s < 32) {post : Int32 → Prop} (hp : post (nI (jo_m s))) : wpY_count post (fn, fo, ft, fk, fi, yt, yf, yz, ym, yr, yk) (nI s) := by
  have key : ∀ d i, i + d = 5 → wY_count_4 post (nI s) fn fo ft fk fi yt yf yz ym yr yk (d + 1) (nI (jo_cn s i)) (nI i) := by
    intro d
    induction d with
    | zero =>
      intro i hi
      obtain rfl : i = 5 := by omega
      exact br_t (nI_le (a := 5) (Nat.le_refl _) (by omega)) hp
    | succ d ih =>
      intro i hi
      have hi1 := ih (i + 1) (by omega)
      rw [jo_cn] at hi1
      refine br_f (nI_ge (b := 5) (by omega) (by omega)) (jy_has hs (by omega) (fun hb => nm_r (nI_1 i) ?_) (fun hb => nm_r (nI_1 _) (nm_r (nI_1 i) ?_)))
      · rw [if_neg (by rw [hb]; decide)] at hi1; exact hi1
      · rw [if_pos hb] at hi1; exact hi1
  exact ⟨_, key 5 0 (by omega)⟩
theorem jy_2m {m : Nat} (h : 1 ≤ m) : (2 : Int32) * nI m - 1 = nI (2 * m - 1) := by
  rw [show (2 : Int32) = nI 2 from rfl, pk_mul]
  exact pk_sub (b := 1) (by omega)
theorem jy_isForm {f m : Nat} (hf : f < 512) (m1 : 1 ≤ m) (m5 : m ≤ 5) {post : Int32 → Prop} (hp0 : jo_isF f (2 * m - 1) 0 0 = false → post 0) (hp1 : jo_isF f (2 * m - 1) 0 0 = true → post 1) : wpY_isForm post (fn, fo, ft, fk, fi, yt, yf, yz, ym, yr, yk) (nI f) (nI m) := by
  have key : ∀ k i h, i + k = 2 * m - 1 → h ≤ i → (jo_isF f k i h = false → post 0) → (jo_isF f k i h = true → post 1) → wY_isForm_5 post (nI f) (nI m) fn fo ft fk fi yt yf yz ym yr yk (k + 1) (nI h) (nI i) := by
    intro k
    induction k with
    | zero =>
      intro i h hi hh f0 f1
      refine br_t (by rw [jy_2m m1]; exact nI_le (by omega) (by omega)) (pk_eq h 1 (fun e => f1 ?_) (fun e => f0 ?_) rfl rfl (by omega) (by omega))
      · subst e; rfl
      · rw [jo_isF]; exact jx_bf fun q => e (Nat.eq_of_beq_eq_true q)
    | succ k ih =>
      intro i h hi hh f0 f1
      rw [jo_isF] at f0 f1
      refine br_f (by rw [jy_2m m1]; exact nI_ge (by omega) (by omega)) ⟨fun q => ?_, fun q => ?_⟩
      · have hb := (jb_hf f hf i (by omega)).mp q
        rw [if_pos hb] at f0 f1
        rw [nI_1]
        exact br_t (nI_le (a := 1) (by omega) (by omega)) (nm_r (nI_1 i) (ih (i + 1) (h + 1) (by omega) (by omega) f0 f1))
      · have hb : ¬ jo_hb f i = true := fun e => q ((jb_hf f hf i (by omega)).mpr e)
        rw [if_neg hb] at f0 f1
        by_cases h1 : h ≤ 1
        · rw [if_pos (Nat.ble_eq_true_of_le h1)] at f0
          refine br_f ?_ (f0 rfl)
          rcases (by omega : h = 0 ∨ h = 1) with rfl | rfl <;> decide
        · have hb1 : ¬ Nat.ble h 1 = true := fun e => h1 (Nat.le_of_ble_eq_true e)
          rw [if_neg hb1] at f0 f1
          have e1 : nI h - 1 = nI (h - 1) := pk_sub (b := 1) (by omega)
          rw [e1]
          exact br_t (nI_le (a := 1) (by omega) (by omega)) (nm_r (nI_1 i) (ih (i + 1) (h - 1) (by omega) (by omega) f0 f1))
  exact ⟨_, key (2 * m - 1) 0 0 (by omega) (Nat.le_refl _) hp0 hp1⟩
end
