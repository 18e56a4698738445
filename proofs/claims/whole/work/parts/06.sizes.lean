/-! sizes -/
def jo_xs (S : Nat → Nat) (s i : Nat) : Nat → Nat
  | 0 => 0
  | j + 1 => if jo_hb s j = true then jo_xs S s i j + S (i * 5 + j) else jo_xs S s i j
def jo_ex (E S : Nat → Nat) (s : Nat) : Nat → Int
  | 0 => 0
  | i + 1 => if jo_hb s i = true then jo_ex E S s i + ((E i : Int) - (jo_xs S s i i : Int)) else jo_ex E S s i
def jo_sz (E S : Nat → Nat) (s : Nat) : Nat := if jo_ex E S s 5 < 0 then 1 else 2 ^ (jo_ex E S s 5).toNat
theorem js_xs {S : Nat → Nat} (hS : ∀ p, p < 25 → S p ≤ 6) (s : Nat) {i : Nat} (hi : i < 5) : ∀ j, j ≤ i → jo_xs S s i j ≤ 6 * j := by
  intro j
  induction j with
  | zero => intro _; exact Nat.le_refl _
  | succ j ih =>
    intro hj
    have h1 := ih (by omega)
    have h2 := hS (i * 5 + j) (by omega)
    rw [jo_xs]
    split <;> omega
theorem js_ex {E S : Nat → Nat} (hE : ∀ i, i < 5 → E i ≤ 6) (hS : ∀ p, p < 25 → S p ≤ 6) (s : Nat) : ∀ i : Nat, i ≤ 5 → -(24 * (i : Int)) ≤ jo_ex E S s i ∧ jo_ex E S s i ≤ 6 * (jo_cn s i : Int) ∧ jo_cn s i ≤ i := by
  intro i
  induction i with
  | zero => intro _; exact ⟨Int.le_refl _, Int.le_refl _, Nat.le_refl _⟩
  | succ i ih =>
    intro hi
    obtain ⟨h1, h2, h3⟩ := ih (by omega)
    have h4 := hE i (by omega)
    have h5 := js_xs hS s (i := i) (by omega) i (Nat.le_refl _)
    rw [jo_ex, jo_cn]
    split <;> omega
theorem js_sz {E S : Nat → Nat} (hE : ∀ i, i < 5 → E i ≤ 6) (hS : ∀ p, p < 25 → S p ≤ 6) (s : Nat) : jo_sz E S s ≤ 64 ^ (jo_m s) := by
  obtain ⟨h1, h2, h3⟩ := js_ex hE hS s 5 (by omega)
  unfold jo_sz
  split
  · exact Nat.one_le_pow _ _ (by omega)
  · have : (jo_ex E S s 5).toNat ≤ 6 * jo_m s := by
      unfold jo_m; omega
    have h64 : 64 ^ (jo_m s) = 2 ^ (6 * jo_m s) := by rw [Nat.pow_mul]
    rw [h64]
    exact Nat.pow_le_pow_right (by omega) this
theorem js_oi {e : Int} (h1 : -1000 ≤ e) (h2 : e ≤ 1000) : (Int32.ofInt e).toInt = e := by
  rw [Int32.toInt_ofInt, show Int32.size = 4294967296 from rfl]
  exact Int.bmod_eq_of_le (by omega) (by omega)
theorem js_nI (n : Nat) : nI n = Int32.ofInt (n : Int) := rfl
theorem js_pos {e : Int} (h1 : -1000 ≤ e) (h2 : e ≤ 1000) : (0 : Int32) ≤ Int32.ofInt e ↔ 0 ≤ e := by
  rw [Int32.le_iff_toInt_le, js_oi h1 h2, Int32.toInt_zero]
theorem js_toNat {e : Int} (h : 0 ≤ e) : Int32.ofInt e = nI e.toNat := by
  rw [js_nI]; congr 1; omega
/-- the end of both sizeOf: what is answered of the exponent -/
theorem js_end {E S : Nat → Nat} (hE : ∀ i, i < 5 → E i ≤ 6) (hS : ∀ p, p < 25 → S p ≤ 6) (s : Nat) {post : Int32 → Prop} (hp : post (nI (jo_sz E S s))) :
    (0 ≤ Int32.ofInt (jo_ex E S s 5) → post ((1 : Int32) <<< (Int32.ofInt (jo_ex E S s 5) &&& 31))) ∧ (¬ 0 ≤ Int32.ofInt (jo_ex E S s 5) → post 1) := by
  obtain ⟨h1, h2, h3⟩ := js_ex hE hS s 5 (by omega)
  rw [js_pos (by omega) (by omega)]
  unfold jo_sz at hp
  constructor
  · intro h0
    rw [if_neg (by omega)] at hp
    rw [js_toNat h0, jb_shl _ (by omega)]
    exact hp
  · intro h0
    rw [if_pos (by omega)] at hp
    exact hp
/-! links -/
theorem js_tb (s i : Nat) : jo_hb s i = s.testBit i := by
  show Nat.beq ((s >>> i) &&& 1) 1 = ((1 &&& (s >>> i)) != 0)
  rw [Nat.and_one_is_mod, Nat.and_comm, Nat.and_one_is_mod]
  rcases Nat.mod_two_eq_zero_or_one (s >>> i) with h | h <;> rw [h] <;> rfl
theorem js_or (a b j : Nat) : jo_hb (a ||| b) j = (jo_hb a j || jo_hb b j) := by simp only [js_tb, Nat.testBit_or]
theorem js_and (a b j : Nat) : jo_hb (a &&& b) j = (jo_hb a j && jo_hb b j) := by simp only [js_tb, Nat.testBit_and]
theorem js_xor (a b j : Nat) : jo_hb (a ^^^ b) j = (jo_hb a j ^^ jo_hb b j) := by simp only [js_tb, Nat.testBit_xor]
theorem js_ext : ∀ a, a < 32 → ∀ b, b < 32 → (∀ j, j < 5 → jo_hb a j = jo_hb b j) → a = b := by decide +kernel
theorem js_sub : ∀ a, a < 32 → ∀ b, b < 32 → (jo_part a b = true ↔ ∀ j, j < 5 → jo_hb a j = true → jo_hb b j = true) := by decide +kernel
theorem js_dis : ∀ a, a < 32 → ∀ b, b < 32 → (a &&& b = 0 ↔ ∀ j, j < 5 → jo_hb a j = true → jo_hb b j = false) := by decide +kernel
theorem js_grow : ∀ a, a < 32 → ∀ b, b < 32 → jo_part a b = true → a ≠ b → (jo_m a < jo_m b ∧ a < b) := by decide +kernel
theorem js_m5 : ∀ a, a < 32 → jo_m a ≤ 5 := by decide +kernel
theorem js_m1 : ∀ a, a < 32 → 1 ≤ a → 1 ≤ jo_m a := by decide +kernel
theorem js_b1 : ∀ i, i < 5 → jo_m (2 ^ i) = 1 := by decide +kernel
theorem js_bb : ∀ i, i < 5 → ∀ j, j < 5 → (jo_hb (2 ^ i) j = true ↔ j = i) := by decide +kernel
theorem js_h0 : ∀ j, j < 5 → jo_hb 0 j = false := by decide +kernel
def jo_lk (K : Nat → Bool) (a b : Nat) : Bool := (List.range 25).any (fun p => K p && (jo_hb a (p / 5) && jo_hb b (p % 5)))
theorem js_lk (K : Nat → Bool) (a b : Nat) : jo_lk K a b = true ↔ ∃ i j, i < 5 ∧ j < 5 ∧ K (5 * i + j) = true ∧ jo_hb a i = true ∧ jo_hb b j = true := by
  unfold jo_lk
  rw [List.any_eq_true]
  simp only [List.mem_range, Bool.and_eq_true]
  constructor
  · rintro ⟨p, hp, h1, h2, h3⟩
    refine ⟨p / 5, p % 5, by omega, by omega, ?_, h2, h3⟩
    rwa [show 5 * (p / 5) + p % 5 = p from by omega]
  · rintro ⟨i, j, hi, hj, h1, h2, h3⟩
    refine ⟨5 * i + j, by omega, h1, ?_, ?_⟩
    · rwa [show (5 * i + j) / 5 = i from by omega]
    · rwa [show (5 * i + j) % 5 = j from by omega]
def jo_N (L : Nat → Nat) (r : Nat) : Nat → Nat
  | 0 => 0
  | i + 1 => if jo_hb r i = true then jo_N L r i ||| L i else jo_N L r i
theorem js_N_lt {L : Nat → Nat} (hL : ∀ i, i < 5 → L i < 32) (r : Nat) : ∀ n, n ≤ 5 → jo_N L r n < 32 := by
  intro n
  induction n with
  | zero => intro _; exact Nat.zero_lt_succ _
  | succ n ih =>
    intro hn
    rw [jo_N]
    split
    · exact jb_orlt (ih (by omega)) (hL n (by omega))
    · exact ih (by omega)
theorem js_N {L : Nat → Nat} (r j : Nat) (hj : j < 5) : ∀ n, jo_hb (jo_N L r n) j = true ↔ ∃ i, i < n ∧ jo_hb r i = true ∧ jo_hb (L i) j = true := by
  intro n
  induction n with
  | zero =>
    rw [jo_N, js_h0 j hj]
    constructor
    · intro h; exact nomatch h
    · rintro ⟨i, hi, _⟩; omega
  | succ n ih =>
    rw [jo_N]
    by_cases hb : jo_hb r n = true
    · rw [if_pos hb, js_or, Bool.or_eq_true, ih]
      constructor
      · rintro (⟨i, hi, h⟩ | h)
        · exact ⟨i, by omega, h⟩
        · exact ⟨n, by omega, hb, h⟩
      · rintro ⟨i, hi, h1, h2⟩
        by_cases e : i = n
        · subst e; exact Or.inr h2
        · exact Or.inl ⟨i, by omega, h1, h2⟩
    · rw [if_neg hb, ih]
      constructor
      · rintro ⟨i, hi, h⟩; exact ⟨i, by omega, h⟩
      · rintro ⟨i, hi, h1, h2⟩
        by_cases e : i = n
        · subst e; exact absurd h1 hb
        · exact ⟨i, by omega, h1, h2⟩
/-- the links of the class hold K -/
def jo_Lk (K : Nat → Bool) (L : Nat → Nat) : Prop := ∀ i, i < 5 → L i < 32 ∧ ∀ j, j < 5 → jo_hb (L i) j = K (5 * i + j)
theorem js_are {K : Nat → Bool} {L : Nat → Nat} (hL : jo_Lk K L) {a b : Nat} (ha : a < 32) (hb : b < 32) : (jo_N L a 5 &&& b = 0 ↔ jo_lk K a b = false) := by
  rw [js_dis _ (js_N_lt (fun i hi => (hL i hi).1) a 5 (Nat.le_refl _)) b hb, Bool.eq_false_iff, Ne, js_lk]
  constructor
  · rintro h ⟨i, j, hi, hj, h1, h2, h3⟩
    have := h j hj ((js_N a j hj 5).mpr ⟨i, hi, h2, by rw [(hL i hi).2 j hj]; exact h1⟩)
    rw [h3] at this; exact nomatch this
  · intro h j hj h1
    obtain ⟨i, hi, h2, h3⟩ := (js_N a j hj 5).mp h1
    rw [(hL i hi).2 j hj] at h3
    cases hbj : jo_hb b j with
    | false => rfl
    | true => exact absurd ⟨i, j, hi, hj, h3, h2, hbj⟩ h
/-! connected -/
def jo_rch (L : Nat → Nat) (s r : Nat) : Nat := r ||| (jo_N L r 5 &&& s)
def jo_it (L : Nat → Nat) (s r : Nat) : Nat → Nat
  | 0 => r
  | k + 1 => jo_rch L s (jo_it L s r k)
section
variable {K : Nat → Bool} {L : Nat → Nat} {s i0 : Nat}
theorem js_rlt (hL : jo_Lk K L) (hs : s < 32) {r : Nat} (hr : r < 32) : jo_rch L s r < 32 :=
  jb_orlt hr (Nat.lt_of_le_of_lt Nat.and_le_right hs)
theorem js_itlt (hL : jo_Lk K L) (hs : s < 32) (h0 : i0 < 5) : ∀ k, jo_it L s (2 ^ i0) k < 32 := by
  intro k
  induction k with
  | zero => exact jb_bit h0
  | succ k ih => exact js_rlt hL hs ih
theorem js_rb (hL : jo_Lk K L) {r j : Nat} (hj : j < 5) : jo_hb (jo_rch L s r) j = true ↔ (jo_hb r j = true ∨ (jo_hb s j = true ∧ ∃ i, i < 5 ∧ jo_hb r i = true ∧ K (5 * i + j) = true)) := by
  unfold jo_rch
  rw [js_or, Bool.or_eq_true, js_and, Bool.and_eq_true, js_N r j hj]
  constructor
  · rintro (h | ⟨⟨i, hi, h1, h2⟩, h3⟩)
    · exact Or.inl h
    · exact Or.inr ⟨h3, i, hi, h1, by rw [← (hL i hi).2 j hj]; exact h2⟩
  · rintro (h | ⟨h3, i, hi, h1, h2⟩)
    · exact Or.inl h
    · exact Or.inr ⟨⟨i, hi, h1, by rw [(hL i hi).2 j hj]; exact h2⟩, h3⟩
theorem js_it5 (hL : jo_Lk K L) (hs : s < 32) (h0 : i0 < 5) : ∀ k, jo_it L s (2 ^ i0) (k + 1) = jo_it L s (2 ^ i0) k ∨ k + 1 ≤ jo_m (jo_it L s (2 ^ i0) k) := by
  intro k
  induction k with
  | zero => right; show 1 ≤ jo_m (2 ^ i0); rw [js_b1 i0 h0]; exact Nat.le_refl _
  | succ k ih =>
    rcases ih with e | h
    · left
      show jo_rch L s (jo_it L s (2 ^ i0) (k + 1)) = jo_rch L s (jo_it L s (2 ^ i0) k)
      rw [e]
    · by_cases e : jo_it L s (2 ^ i0) (k + 1) = jo_it L s (2 ^ i0) k
      · left
        show jo_rch L s (jo_it L s (2 ^ i0) (k + 1)) = jo_rch L s (jo_it L s (2 ^ i0) k)
        rw [e]
      · right
        have hp : jo_part (jo_it L s (2 ^ i0) k) (jo_it L s (2 ^ i0) (k + 1)) = true :=
          (js_sub _ (js_itlt hL hs h0 k) _ (js_itlt hL hs h0 (k + 1))).mpr fun j hj hb => (js_rb hL hj).mpr (Or.inl hb)
        have := (js_grow _ (js_itlt hL hs h0 k) _ (js_itlt hL hs h0 (k + 1)) hp (fun q => e q.symm)).1
        omega
theorem js_in {c : Nat} (hL : jo_Lk K L) (hs : s < 32) (hc : c < 32) (h0 : i0 < 5) (hc0 : jo_hb c i0 = true) (hn : jo_lk K c (s ^^^ c) = false) : ∀ k j, j < 5 → jo_hb (jo_it L s (2 ^ i0) k) j = true → jo_hb c j = true := by
  intro k
  induction k with
  | zero =>
    intro j hj h
    rw [(js_bb i0 h0 j hj).mp h]; exact hc0
  | succ k ih =>
    intro j hj h
    rcases (js_rb hL hj).mp h with h | ⟨h3, i, hi, h1, h2⟩
    · exact ih j hj h
    · cases hcj : jo_hb c j with
      | true => rfl
      | false =>
        have : jo_lk K c (s ^^^ c) = true := (js_lk K _ _).mpr ⟨i, j, hi, hj, h2, ih i hi h1, by rw [js_xor, h3, hcj]; rfl⟩
        rw [hn] at this; exact nomatch this
theorem js_sym (hK : ∀ i j, i < 5 → j < 5 → K (5 * i + j) = K (5 * j + i)) (a b : Nat) : jo_lk K a b = jo_lk K b a := by
  rw [Bool.eq_iff_iff, js_lk, js_lk]
  constructor
  · rintro ⟨i, j, hi, hj, h1, h2, h3⟩; exact ⟨j, i, hj, hi, by rw [← hK i j hi hj]; exact h1, h3, h2⟩
  · rintro ⟨i, j, hi, hj, h1, h2, h3⟩; exact ⟨j, i, hj, hi, by rw [← hK i j hi hj]; exact h1, h3, h2⟩
theorem js_ps : ∀ k j, jo_Lk K L → s < 32 → i0 < 5 → jo_hb s i0 = true → j < 5 → jo_hb (jo_it L s (2 ^ i0) k) j = true → jo_hb s j = true := by
  intro k
  induction k with
  | zero =>
    intro j hL hs h0 hb hj h
    rw [(js_bb i0 h0 j hj).mp h]; exact hb
  | succ k ih =>
    intro j hL hs h0 hb hj h
    rcases (js_rb hL hj).mp h with h | ⟨h3, _⟩
    · exact ih j hL hs h0 hb hj h
    · exact h3
theorem js_i0 (hL : jo_Lk K L) (h0 : i0 < 5) : ∀ k, jo_hb (jo_it L s (2 ^ i0) k) i0 = true := by
  intro k
  induction k with
  | zero => exact (js_bb i0 h0 i0 h0).mpr rfl
  | succ k ih => exact (js_rb hL h0).mpr (Or.inl ih)
theorem js_conn (hK : ∀ i j, i < 5 → j < 5 → K (5 * i + j) = K (5 * j + i)) (hL : jo_Lk K L) (hs : s < 32) (h0 : i0 < 5) (hb : jo_hb s i0 = true) :
    jo_it L s (2 ^ i0) 5 = s ↔ ∀ a, 1 ≤ a → a < s → jo_part a s = true → jo_lk K a (s ^^^ a) = true := by
  have hr := js_itlt hL hs h0 5
  constructor
  · intro e a a1 a2 a3
    cases hl : jo_lk K a (s ^^^ a) with
    | true => rfl
    | false =>
      exfalso
      obtain ⟨p1, p2, p3, p4, p5⟩ := jb_pt s hs a a2 a1 a3
      have ha : a < 32 := by omega
      have hx : s ^^^ a < 32 := by omega
      cases h : jo_hb a i0 with
      | true =>
        have hin := js_in hL hs ha h0 h hl 5
        rw [e] at hin
        have q := (js_sub s hs a ha).mpr hin
        have : a = s := js_ext a ha s hs fun j hj => by
          rw [Bool.eq_iff_iff]
          exact ⟨(js_sub a ha s hs).mp a3 j hj, hin j hj⟩
        omega
      | false =>
        have hc : jo_hb (s ^^^ a) i0 = true := by rw [js_xor, hb, h]; rfl
        have hn : jo_lk K (s ^^^ a) (s ^^^ (s ^^^ a)) = false := by
          rw [← Nat.xor_assoc, Nat.xor_self, Nat.zero_xor, js_sym hK]; exact hl
        have hin := js_in hL hs hx h0 hc hn 5
        rw [e] at hin
        have : s ^^^ a = s := js_ext _ hx s hs fun j hj => by
          rw [Bool.eq_iff_iff]
          exact ⟨(js_sub _ hx s hs).mp p3 j hj, hin j hj⟩
        omega
  · intro H
    refine Decidable.byContradiction fun ne => ?_
    have hp : jo_part (jo_it L s (2 ^ i0) 5) s = true := (js_sub _ hr s hs).mpr fun j hj => js_ps 5 j hL hs h0 hb hj
    have hlt := (js_grow _ hr s hs hp ne).2
    have h1 : 1 ≤ jo_it L s (2 ^ i0) 5 := by
      refine Decidable.byContradiction fun q => ?_
      have z : jo_it L s (2 ^ i0) 5 = 0 := by omega
      have := js_i0 (s := s) hL h0 5
      rw [z, js_h0 i0 h0] at this
      exact nomatch this
    obtain ⟨i, j, hi, hj, k1, k2, k3⟩ := (js_lk K _ _).mp (H _ h1 hlt hp)
    have e6 : jo_it L s (2 ^ i0) 6 = jo_it L s (2 ^ i0) 5 := by
      rcases js_it5 hL hs h0 5 with e | h
      · exact e
      · have := js_m5 _ hr; omega
    have hsj : jo_hb s j = true := by
      cases h : jo_hb s j with
      | true => rfl
      | false =>
        cases h2 : jo_hb (jo_it L s (2 ^ i0) 5) j with
        | true => rw [js_ps 5 j hL hs h0 hb hj h2] at h; exact nomatch h
        | false => rw [js_xor, h, h2] at k3; exact nomatch k3
    have h6 : jo_hb (jo_it L s (2 ^ i0) 6) j = true := (js_rb hL hj).mpr (Or.inr ⟨hsj, i, hi, k2, k1⟩)
    rw [e6] at h6
    rw [js_xor, hsj, h6] at k3
    exact nomatch k3
end
