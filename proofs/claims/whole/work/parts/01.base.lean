theorem pk_us {f : Nat → Int32} {k : Nat} {x : Int32} : upd f k x k = x := if_pos rfl
theorem pk_un {f : Nat → Int32} {k j : Nat} {x : Int32} (h : j ≠ k) : upd f k x j = f j := if_neg h
theorem pk_sub {a b : Nat} (h : b ≤ a) : nI a - nI b = nI (a - b) := by
  obtain ⟨c, rfl⟩ : ∃ c, a = c + b := ⟨a - b, by omega⟩
  rw [← nI_add, Int32.add_sub_cancel, Nat.add_sub_cancel]
theorem pk_m1 (n : Nat) : nI (n + 1) + (-1) = nI n := by
  rw [← nI_1, Int32.add_assoc, show (1 : Int32) + (-1) = 0 from rfl, Int32.add_zero]
theorem pk_mul (a b : Nat) : nI a * nI b = nI (a * b) := (Int32.ofNat_mul a b).symm
theorem pk_div {a d : Nat} (ha : a < 2 ^ 31) (h0 : 0 < d) (hd : d < 2 ^ 31) : nI a / nI d = nI (a / d) := by
  apply Int32.toInt_inj.mp
  rw [lg_idiv_nonneg (by rw [nI_toInt ha]; omega) (by rw [nI_toInt hd]; omega), nI_toInt ha, nI_toInt hd, nI_toInt (Nat.lt_of_le_of_lt (Nat.div_le_self a d) ha)]
  first | rfl | exact (Int.natCast_ediv _ _).symm
theorem pk_rem {a d : Nat} (ha : a < 2 ^ 31) (h0 : 0 < d) (hd : d < 2 ^ 31) : nI a - nI a / nI d * nI d = nI (a % d) := by
  rw [pk_div ha h0 hd, pk_mul, pk_sub (Nat.div_mul_le_self a d)]
  exact congrArg nI (by have := Nat.div_add_mod' a d; omega)
theorem pk_le {x y : Int32} {A B : Prop} (a b : Nat) (f : a ≤ b → A) (g : b < a → B) (hx : x = nI a := by rfl) (hy : y = nI b := by rfl) (ha : a < 2 ^ 31 := by omega) (hb : b < 2 ^ 31 := by omega) : (x ≤ y → A) ∧ (¬ x ≤ y → B) := by
  subst hx hy
  rw [nI_leI ha hb]
  exact ⟨f, fun z => g (by omega)⟩
theorem pk_lt {x y : Int32} {A B : Prop} (a b : Nat) (f : a < b → A) (g : b ≤ a → B) (hx : x = nI a := by rfl) (hy : y = nI b := by rfl) (ha : a < 2 ^ 31 := by omega) (hb : b < 2 ^ 31 := by omega) : (x < y → A) ∧ (¬ x < y → B) := by
  subst hx hy
  rw [nI_ltI ha hb]
  exact ⟨f, fun z => g (by omega)⟩
theorem pk_eq {x y : Int32} {A B : Prop} (a b : Nat) (f : a = b → A) (g : a ≠ b → B) (hx : x = nI a := by rfl) (hy : y = nI b := by rfl) (ha : a < 2 ^ 31 := by omega) (hb : b < 2 ^ 31 := by omega) : (x = y → A) ∧ (¬ x = y → B) := by
  subst hx hy
  rw [nI_eq ha hb]
  exact ⟨f, g⟩
theorem pk_in {x : Int32} (n N : Nat) (h : n < N) (hx : x = nI n := by rfl) (hN : N < 2 ^ 31 := by omega) : vp_in x N := by
  subst hx
  exact vp_in_nI h hN
theorem pk_cl {x : Int32} (n : Nat) (hx : x = nI n := by rfl) (h : n < 2 ^ 31 := by omega) : x.toNatClampNeg = n := by
  subst hx
  exact nI_clamp h
theorem nx_and (a b : Nat) : nI a &&& nI b = nI (a &&& b) := by
  apply Int32.toBitVec_inj.1
  show BitVec.ofNat 32 a &&& BitVec.ofNat 32 b = BitVec.ofNat 32 (a &&& b)
  apply BitVec.eq_of_getLsbD_eq
  intro i hi
  simp [hi]
theorem nx_xor (a b : Nat) : nI a ^^^ nI b = nI (a ^^^ b) := by
  apply Int32.toBitVec_inj.1
  show BitVec.ofNat 32 a ^^^ BitVec.ofNat 32 b = BitVec.ofNat 32 (a ^^^ b)
  apply BitVec.eq_of_getLsbD_eq
  intro i hi
  simp [hi]
theorem pk_loop {σ : Type} (W : Nat → Nat → σ → Prop) (I : Nat → σ → Prop) (e i0 : Nat) (s : σ) (hi : i0 ≤ e) (h0 : I i0 s) (hx : ∀ n s, I e s → W (n + 1) e s)
    (hs : ∀ n i s, i < e → I i s → (∀ s', I (i + 1) s' → W n (i + 1) s') → W (n + 1) i s) : ∃ n, W n i0 s :=
  ⟨e + 1, loop_i W I e hx hs (e + 1) i0 s hi (by omega) h0⟩
theorem nx_or (a b : Nat) : nI a ||| nI b = nI (a ||| b) := by
  apply Int32.toBitVec_inj.1
  show BitVec.ofNat 32 a ||| BitVec.ofNat 32 b = BitVec.ofNat 32 (a ||| b)
  apply BitVec.eq_of_getLsbD_eq
  intro i hi
  simp [hi]
/-! sets of tables as numbers below 32 -/
def jo_hb (s i : Nat) : Bool := Nat.beq (Nat.land (Nat.shiftRight s i) 1) 1
def jo_one (s : Nat) : Bool := Nat.beq (Nat.land s (s - 1)) 0
def jo_part (a s : Nat) : Bool := Nat.beq (Nat.land a s) a
theorem jb_hx : ∀ s, s < 32 → ∀ i, i < 5 → ((nI s &&& ((1 : Int32) <<< (nI i &&& 31))) = 0 ↔ jo_hb s i = false) := by decide +kernel
theorem jb_hy : ∀ s, s < 32 → ∀ i, i < 5 → (((nI s >>> (nI i &&& 31)) &&& 1) = 1 ↔ jo_hb s i = true) := by decide +kernel
theorem jb_hf : ∀ s, s < 512 → ∀ i, i < 9 → (((nI s >>> (nI i &&& 31)) &&& 1) = 1 ↔ jo_hb s i = true) := by decide +kernel
theorem jb_one : ∀ s, s < 32 → ((nI s &&& (nI s - 1)) = 0 ↔ jo_one s = true) := by decide +kernel
theorem jb_part : ∀ a, a < 32 → ∀ s, s < 32 → ((nI a &&& (nI s ^^^ (-1))) = 0 ↔ jo_part a s = true) := by decide +kernel
theorem jb_shl : ∀ i, i < 31 → (1 : Int32) <<< (nI i &&& 31) = nI (2 ^ i) := by decide +kernel
theorem jb_clr : ∀ l, l < 32 → ∀ t, t < 5 → nI l &&& (((1 : Int32) <<< (nI t &&& 31)) ^^^ (-1)) = nI (if jo_hb l t then l ^^^ 2 ^ t else l) := by decide +kernel
theorem jb_less : ∀ a, a < 32 → ∀ s, s < 32 → jo_part a s = true → nI s &&& (nI a ^^^ (-1)) = nI (s ^^^ a) := by decide +kernel
theorem jb_low : ∀ s, s < 32 → 1 ≤ s → ∃ i, i < 5 ∧ jo_hb s i = true ∧ nI s &&& (-nI s) = nI (2 ^ i) := by decide +kernel
theorem jb_xorlt {a b : Nat} (ha : a < 32) (hb : b < 32) : a ^^^ b < 32 := Nat.xor_lt_two_pow (n := 5) ha hb
theorem jb_orlt {a b : Nat} (ha : a < 32) (hb : b < 32) : a ||| b < 32 := Nat.or_lt_two_pow (n := 5) ha hb
theorem jb_bit {i : Nat} (h : i < 5) : 2 ^ i < 32 := Nat.pow_lt_pow_right (a := 2) (m := i) (n := 5) (by omega) h
/-- a proper part and what is left of the set -/
theorem jb_pt1 : ∀ s, s < 32 → ∀ a, a < s → 1 ≤ a → jo_part a s = true → (1 ≤ s ^^^ a ∧ s ^^^ a < s) := by decide +kernel
theorem jb_pt2 : ∀ s, s < 32 → ∀ a, a < s → 1 ≤ a → jo_part a s = true → (jo_part (s ^^^ a) s = true ∧ a ||| (s ^^^ a) = s) := by decide +kernel
theorem jb_pt3 : ∀ s, s < 32 → ∀ a, a < s → 1 ≤ a → jo_part a s = true → jo_one s = false := by decide +kernel
theorem jb_pt (s : Nat) (h : s < 32) (a : Nat) (ha : a < s) (h1 : 1 ≤ a) (hp : jo_part a s = true) : 1 ≤ s ^^^ a ∧ s ^^^ a < s ∧ jo_part (s ^^^ a) s = true ∧ a ||| (s ^^^ a) = s ∧ jo_one s = false :=
  ⟨(jb_pt1 s h a ha h1 hp).1, (jb_pt1 s h a ha h1 hp).2, (jb_pt2 s h a ha h1 hp).1, (jb_pt2 s h a ha h1 hp).2, jb_pt3 s h a ha h1 hp⟩
