section
theorem pk_us {f : Nat → Int32} {k : Nat} {x : Int32} : upd f k x k = x := if_pos rfl
theorem pk_un {f : Nat → Int32} {k j : Nat} {x : Int32} (h : j ≠ k) : upd f k x j = f j := if_neg h
theorem pk_sub {a b : Nat} (h : b ≤ a) : nI a - nI b = nI (a - b) := by
  obtain ⟨c, rfl⟩ : ∃ c, a = c + b := ⟨a - b, by omega⟩
  rw [← nI_add, Int32.add_sub_cancel, Nat.add_sub_cancel]
theorem pk_m1 (n : Nat) : nI (n + 1) + (-1) = nI n := by
  rw [← nI_1, Int32.add_assoc, show (1 : Int32) + (-1) = 0 from rfl, Int32.add_zero]
theorem pk_mul (a b : Nat) : nI a * nI b = nI (a * b) := (Int32.ofNat_mul a b).symm
theorem pk_div {a d : Nat} (ha : a < 2 ^ 31) (h0 : 0 < d) (hd : d < 2 ^ 31) : nI a / nI d = nI (a / d) := by
  apply Int32.toInt_inj.mp
  rw [lg_idiv_nonneg (by rw [nI_toInt ha]; omega) (by rw [nI_toInt hd]; omega), nI_toInt ha, nI_toInt hd, nI_toInt (Nat.lt_of_le_of_lt (Nat.div_le_self a d) ha)]
  first | rfl | exact (Int.natCast_ediv _ _).symm
theorem pk_rem {a d : Nat} (ha : a < 2 ^ 31) (h0 : 0 < d) (hd : d < 2 ^ 31) : nI a - nI a / nI d * nI d = nI (a % d) := by
  rw [pk_div ha h0 hd, pk_mul, pk_sub (Nat.div_mul_le_self a d)]
  exact congrArg nI (by have := Nat.div_add_mod' a d; omega)
theorem pk_le {x y : Int32} {A B : Prop} (a b : Nat) (f : a ≤ b → A) (g : b < a → B) (hx : x = nI a := by rfl) (hy : y = nI b := by rfl) (ha : a < 2 ^ 31 := by omega) (hb : b < 2 ^ 31 := by omega) : (x ≤ y → A) ∧ (¬ x ≤ y → B) := by
  subst hx hy
  rw [nI_leI ha hb]
  exact ⟨f, fun z => g (by omega)⟩
theorem pk_lt {x y : Int32} {A B : Prop} (a b : Nat) (f : a < b → A) (g : b ≤ a → B) (hx : x = nI a := by rfl) (hy : y = nI b := by rfl) (ha : a < 2 ^ 31 := by omega) (hb : b < 2 ^ 31 := by omega) : (x < y → A) ∧ (¬ x < y → B) := by
  subst hx hy
  rw [nI_ltI ha hb]
  exact ⟨f, fun z => g (by omega)⟩
theorem pk_eq {x y : Int32} {A B : Prop} (a b : Nat) (f : a = b → A) (g : a ≠ b → B) (hx : x = nI a := by rfl) (hy : y = nI b := by rfl) (ha : a < 2 ^ 31 := by omega) (hb : b < 2 ^ 31 := by omega) : (x = y → A) ∧ (¬ x = y → B) := by
  subst hx hy
  rw [nI_eq ha hb]
  exact ⟨f, g⟩
theorem pk_in {x : Int32} (n N : Nat) (h : n < N) (hx : x = nI n := by rfl) (hN : N < 2 ^ 31 := by omega) : vp_in x N := by
  subst hx
  exact vp_in_nI h hN
theorem pk_cl {x : Int32} (n : Nat) (hx : x = nI n := by rfl) (h : n < 2 ^ 31 := by omega) : x.toNatClampNeg = n := by
  subst hx
  exact nI_clamp h
theorem nx_and (a b : Nat) : nI a &&& nI b = nI (a &&& b) := by
  apply Int32.toBitVec_inj.1
  show BitVec.ofNat 32 a &&& BitVec.ofNat 32 b = BitVec.ofNat 32 (a &&& b)
  apply BitVec.eq_of_getLsbD_eq
  intro i hi
  simp [hi]
theorem nx_xor (a b : Nat) : nI a ^^^ nI b = nI (a ^^^ b) := by
  apply Int32.toBitVec_inj.1
  show BitVec.ofNat 32 a ^^^ BitVec.ofNat 32 b = BitVec.ofNat 32 (a ^^^ b)
  apply BitVec.eq_of_getLsbD_eq
  intro i hi
  simp [hi]
theorem pk_loop {σ : Type} (W : Nat → Nat → σ → Prop) (I : Nat → σ → Prop) (e i0 : Nat) (s : σ) (hi : i0 ≤ e) (h0 : I i0 s) (hx : ∀ n s, I e s → W (n + 1) e s)
    (hs : ∀ n i s, i < e → I i s → (∀ s', I (i + 1) s' → W n (i + 1) s') → W (n + 1) i s) : ∃ n, W n i0 s :=
  ⟨e + 1, loop_i W I e hx hs (e + 1) i0 s hi (by omega) h0⟩
theorem nx_or (a b : Nat) : nI a ||| nI b = nI (a ||| b) := by
  apply Int32.toBitVec_inj.1
  show BitVec.ofNat 32 a ||| BitVec.ofNat 32 b = BitVec.ofNat 32 (a ||| b)
  apply BitVec.eq_of_getLsbD_eq
  intro i hi
  simp [hi]
/-! sets of tables as numbers below 32 -/
def jo_hb (s i : Nat) : Bool := Nat.beq (Nat.land (Nat.shiftRight s i) 1) 1
def jo_one (s : Nat) : Bool := Nat.beq (Nat.land s (s - 1)) 0
def jo_part (a s : Nat) : Bool := Nat.beq (Nat.land a s) a
theorem jb_hx : ∀ s, s < 32 → ∀ i, i < 5 → ((nI s &&& ((1 : Int32) <<< (nI i &&& 31))) = 0 ↔ jo_hb s i = false) := by decide +kernel
theorem jb_hy : ∀ s, s < 32 → ∀ i, i < 5 → (((nI s >>> (nI i &&& 31)) &&& 1) = 1 ↔ jo_hb s i = true) := by decide +kernel
theorem jb_hf : ∀ s, s < 512 → ∀ i, i < 9 → (((nI s >>> (nI i &&& 31)) &&& 1) = 1 ↔ jo_hb s i = true) := by decide +kernel
theorem jb_one : ∀ s, s < 32 → ((nI s &&& (nI s - 1)) = 0 ↔ jo_one s = true) := by decide +kernel
theorem jb_part : ∀ a, a < 32 → ∀ s, s < 32 → ((nI a &&& (nI s ^^^ (-1))) = 0 ↔ jo_part a s = true) := by decide +kernel
theorem jb_shl : ∀ i, i < 31 → (1 : Int32) <<< (nI i &&& 31) = nI (2 ^ i) := by decide +kernel
theorem jb_clr : ∀ l, l < 32 → ∀ t, t < 5 → nI l &&& (((1 : Int32) <<< (nI t &&& 31)) ^^^ (-1)) = nI (if jo_hb l t then l ^^^ 2 ^ t else l) := by decide +kernel
theorem jb_less : ∀ a, a < 32 → ∀ s, s < 32 → jo_part a s = true → nI s &&& (nI a ^^^ (-1)) = nI (s ^^^ a) := by decide +kernel
theorem jb_low : ∀ s, s < 32 → 1 ≤ s → ∃ i, i < 5 ∧ jo_hb s i = true ∧ nI s &&& (-nI s) = nI (2 ^ i) := by decide +kernel
theorem jb_xorlt {a b : Nat} (ha : a < 32) (hb : b < 32) : a ^^^ b < 32 := Nat.xor_lt_two_pow (n := 5) ha hb
theorem jb_orlt {a b : Nat} (ha : a < 32) (hb : b < 32) : a ||| b < 32 := Nat.or_lt_two_pow (n := 5) ha hb
theorem jb_bit {i : Nat} (h : i < 5) : 2 ^ i < 32 := Nat.pow_lt_pow_right (a := 2) (m := i) (n := 5) (by omega) h
/-- a proper part and what is left of the set -/
theorem jb_pt1 : ∀ s, s < 32 → ∀ a, a < s → 1 ≤ a → jo_part a s = true → (1 ≤ s ^^^ a ∧ s ^^^ a < s) := by decide +kernel
theorem jb_pt2 : ∀ s, s < 32 → ∀ a, a < s → 1 ≤ a → jo_part a s = true → (jo_part (s ^^^ a) s = true ∧ a ||| (s ^^^ a) = s) := by decide +kernel
theorem jb_pt3 : ∀ s, s < 32 → ∀ a, a < s → 1 ≤ a → jo_part a s = true → jo_one s = false := by decide +kernel
theorem jb_pt (s : Nat) (h : s < 32) (a : Nat) (ha : a < s) (h1 : 1 ≤ a) (hp : jo_part a s = true) : 1 ≤ s ^^^ a ∧ s ^^^ a < s ∧ jo_part (s ^^^ a) s = true ∧ a ||| (s ^^^ a) = s ∧ jo_one s = false :=
  ⟨(jb_pt1 s h a ha h1 hp).1, (jb_pt1 s h a ha h1 hp).2, (jb_pt2 s h a ha h1 hp).1, (jb_pt2 s h a ha h1 hp).2, jb_pt3 s h a ha h1 hp⟩
end
section
/-! the plans of a set, as lists of joins (left set, right set) from the inside out -/
def jo_ps (s : Nat) : Nat → List Nat
  | 0 => []
  | n + 1 => if Nat.beq n 0 then [] else if jo_part n s then jo_ps s n ++ [n] else jo_ps s n
def jo_pl : Nat → Nat → List (List (Nat × Nat))
  | 0, _ => []
  | n + 1, s => if jo_one s then [[]] else (jo_ps s s).flatMap fun a => (jo_pl n a).flatMap fun p => (jo_pl n (s ^^^ a)).map fun q => p ++ (q ++ [(a, s ^^^ a)])
/-! what the reference runs through -/
def jo_cn (s : Nat) : Nat → Nat
  | 0 => 0
  | i + 1 => if jo_hb s i then jo_cn s i + 1 else jo_cn s i
def jo_isF (f : Nat) : Nat → Nat → Nat → Bool
  | 0, _, h => Nat.beq h 1
  | k + 1, i, h => if jo_hb f i then jo_isF f k (i + 1) (h + 1) else if Nat.ble h 1 then false else jo_isF f k (i + 1) (h - 1)
def jo_frm (m f : Nat) : Bool := if Nat.ble (2 ^ (2 * m - 1)) f then false else jo_isF f (2 * m - 1) 0 0
def jo_fl (m : Nat) : Nat → List Nat
  | 0 => []
  | n + 1 => if jo_frm m n then jo_fl m n ++ [n] else jo_fl m n
def jo_FM : Nat → List Nat
  | 1 => [1]
  | 2 => [3]
  | 3 => [7, 11]
  | 4 => [15, 23, 27, 39, 43]
  | _ => [31, 47, 55, 59, 79, 87, 91, 103, 107, 143, 151, 155, 167, 171]
def jo_fact : Nat → Nat
  | 0 => 1
  | n + 1 => jo_fact n * (n + 1)
def jo_find (left : Nat) : Nat → Nat → Nat → Option Nat
  | 0, _, _ => none
  | n + 1, sk, t => if jo_hb left t then (if Nat.beq sk 0 then some t else jo_find left n (sk - 1) (t + 1)) else jo_find left n sk (t + 1)
def jo_ord : Nat → Nat → Nat → Nat → Option (List Nat)
  | 0, _, _, _ => some []
  | k + 1, rest, unit, left => if Nat.beq (unit / (k + 1)) 0 then none else
    (jo_find left 5 (rest / (unit / (k + 1))) 0).bind fun t => (jo_ord k (rest % (unit / (k + 1))) (unit / (k + 1)) (left ^^^ 2 ^ t)).bind fun l => some (t :: l)
def jo_fol (form : Nat) : Nat → Nat → List Nat → List Nat → List (Nat × Nat) → Option (List (Nat × Nat))
  | 0, _, _, _, js => some js
  | k + 1, i, row, stk, js => if jo_hb form i then
      (match row with
       | [] => none
       | t :: row' => if Nat.ble 5 stk.length then none else jo_fol form k (i + 1) row' (2 ^ t :: stk) js)
    else (match stk with
       | r :: l :: st => jo_fol form k (i + 1) row ((l ||| r) :: st) (js ++ [(l, r)])
       | _ => none)
def jo_m (s : Nat) : Nat := jo_cn s 5
def jo_fc (s : Nat) : Nat := (jo_FM (jo_m s)).length
def jo_n (s : Nat) : Nat := jo_fact (jo_m s) * jo_fc s
/-- the number i of the reference's runs: its order of the tables and its joins -/
def jo_R (s i : Nat) : Option (List Nat × List (Nat × Nat)) :=
  (jo_ord (jo_m s) (i / jo_fc s) (jo_fact (jo_m s)) s).bind fun row => (jo_fol ((jo_FM (jo_m s)).getD (i % jo_fc s) 0) (2 * jo_m s - 1) 0 row [] []).bind fun js => some (row, js)
def jo_RL (s : Nat) : List (Option (List Nat × List (Nat × Nat))) := (List.range (jo_n s)).map (jo_R s)
/-! sorting, for the check that two lists hold the same -/
def jo_key (p : List (Nat × Nat)) : Nat := p.foldl (fun k x => k * 1024 + (x.1 * 32 + x.2)) 1
def jo_ins (x : List (Nat × Nat)) : List (List (Nat × Nat)) → List (List (Nat × Nat))
  | [] => [x]
  | y :: l => if Nat.ble (jo_key x) (jo_key y) then x :: y :: l else y :: jo_ins x l
def jo_srt : List (List (Nat × Nat)) → List (List (Nat × Nat))
  | [] => []
  | x :: l => jo_ins x (jo_srt l)
theorem jo_ins_p (x : List (Nat × Nat)) : ∀ l, (jo_ins x l).Perm (x :: l)
  | [] => List.Perm.refl _
  | y :: l => by
    unfold jo_ins
    split
    · exact List.Perm.refl _
    · exact ((jo_ins_p x l).cons y).trans (List.Perm.swap x y l)
theorem jo_srt_p : ∀ l, (jo_srt l).Perm l
  | [] => List.Perm.refl _
  | x :: l => (jo_ins_p x _).trans ((jo_srt_p l).cons x)
theorem jo_srt_eq {a b : List (List (Nat × Nat))} (h : jo_srt a = jo_srt b) : a.Perm b :=
  (jo_srt_p a).symm.trans (h ▸ jo_srt_p b)
theorem jo_fl_ok : ∀ m, m < 6 → 1 ≤ m → jo_fl m 512 = jo_FM m := by decide +kernel
theorem jo_pl_ok : ∀ s, s < 31 → 1 ≤ s → jo_pl 6 s = jo_pl 5 s := by decide +kernel
def jo_js (x : Option (List Nat × List (Nat × Nat))) : List (Nat × Nat) := match x with
  | none => []
  | some y => y.2
theorem jo_R_ok : ∀ s, s < 31 → 1 ≤ s → (jo_RL s).all (fun x => x.isSome) = true := by decide +kernel
theorem jo_perm_s : ∀ s, s < 31 → 1 ≤ s → jo_srt ((jo_RL s).map jo_js) = jo_srt (jo_pl 5 s) := by decide +kernel
end
section
theorem jo_pl_31 : jo_pl 6 31 = jo_pl 5 31 := by decide +kernel
theorem jo_R_31 : (jo_RL 31).all (fun x => x.isSome) = true := by decide +kernel
end
section
def jo_mrg : Nat → List (List (Nat × Nat)) → List (List (Nat × Nat)) → List (List (Nat × Nat))
  | 0, a, b => a ++ b
  | _ + 1, [], b => b
  | _ + 1, x :: a, [] => x :: a
  | n + 1, x :: a, y :: b => if Nat.ble (jo_key x) (jo_key y) then x :: jo_mrg n a (y :: b) else y :: jo_mrg n (x :: a) b
def jo_ms : Nat → List (List (Nat × Nat)) → List (List (Nat × Nat))
  | 0, l => l
  | n + 1, l => jo_mrg (2 ^ (n + 1)) (jo_ms n (l.take (2 ^ n))) (jo_ms n (l.drop (2 ^ n)))
theorem jo_mrg_p : ∀ n a b, (jo_mrg n a b).Perm (a ++ b) := by
  intro n
  induction n with
  | zero => intro a b; exact List.Perm.refl _
  | succ n ih =>
    intro a b
    cases a with
    | nil => exact List.Perm.refl _
    | cons x a =>
      cases b with
      | nil => rw [jo_mrg, List.append_nil]
      | cons y b =>
        rw [jo_mrg]
        split
        · exact (ih a (y :: b)).cons x
        · exact ((ih (x :: a) b).cons y).trans (List.perm_middle.symm)
theorem jo_ms_p : ∀ n l, (jo_ms n l).Perm l := by
  intro n
  induction n with
  | zero => intro l; exact List.Perm.refl _
  | succ n ih =>
    intro l
    rw [jo_ms]
    refine (jo_mrg_p _ _ _).trans ?_
    have := ((ih (l.take (2 ^ n))).append (ih (l.drop (2 ^ n))))
    rwa [List.take_append_drop] at this
theorem jo_ms_eq (n : Nat) {a b : List (List (Nat × Nat))} (h : jo_ms n a = jo_ms n b) : a.Perm b :=
  (jo_ms_p n a).symm.trans (h ▸ jo_ms_p n b)
theorem jo_perm_31 : jo_ms 11 ((jo_RL 31).map jo_js) = jo_ms 11 (jo_pl 5 31) := by decide +kernel
end
section
/-! the linear plans: the orders of the tables as in a dictionary, and the sets that each goes through -/
def jo_nx (j s : Nat) : List Nat := (List.range 5).filter (fun i => jo_hb (s ^^^ j) i)
def jo_pm : Nat → Nat → Nat → List (List Nat)
  | 0, j, s => if Nat.beq j s then [[]] else []
  | n + 1, j, s => if Nat.beq j s then [[]] else (jo_nx j s).flatMap fun i => (jo_pm n (j ||| 2 ^ i) s).map fun l => i :: l
def jo_ls : Nat → List Nat → List Nat
  | j, [] => if jo_one j then [] else [j]
  | j, i :: l => if jo_one j then jo_ls (j ||| 2 ^ i) l else j :: jo_ls (j ||| 2 ^ i) l
def jo_lin (p : List (Nat × Nat)) : Bool := p.all (fun x => jo_one x.2)
def jo_rw (x : Option (List Nat × List (Nat × Nat))) : List Nat := match x with
  | none => []
  | some y => y.1
theorem jo_pm_ok : ∀ s, s < 32 → ∀ j, j < 32 → jo_part j s = true → jo_pm 6 j s = jo_pm 5 j s := by decide +kernel
theorem jo_lin_s : ∀ s, s < 31 → 1 ≤ s → (((jo_RL s).filter (fun x => jo_lin (jo_js x))).map fun x => (jo_rw x, (jo_js x).map fun y => y.1 ||| y.2)) = (jo_pm 5 0 s).map fun l => (l, jo_ls 0 l) := by decide +kernel
theorem jo_lin_31 : (((jo_RL 31).filter (fun x => jo_lin (jo_js x))).map fun x => (jo_rw x, (jo_js x).map fun y => y.1 ||| y.2)) = (jo_pm 5 0 31).map fun l => (l, jo_ls 0 l) := by decide +kernel
end
section
def jo_c (z : Nat → Nat) (p : List (Nat × Nat)) : Nat := (p.map fun x => z (x.1 ||| x.2)).sum
def jo_lkd (lk : Nat → Nat → Bool) (p : List (Nat × Nat)) : Bool := p.all fun x => lk x.1 x.2
def jo_P (s : Nat) : List (List (Nat × Nat)) := jo_pl 5 s
theorem jm_c_join (z : Nat → Nat) (p q : List (Nat × Nat)) (a b : Nat) : jo_c z (p ++ (q ++ [(a, b)])) = jo_c z p + jo_c z q + z (a ||| b) := by
  simp [jo_c]; omega
theorem jm_l_join (lk : Nat → Nat → Bool) (p q : List (Nat × Nat)) (a b : Nat) : jo_lkd lk (p ++ (q ++ [(a, b)])) = (jo_lkd lk p && (jo_lkd lk q && lk a b)) := by
  simp [jo_lkd]
theorem jm_ps_t {s n : Nat} (h : 1 ≤ n) (hp : jo_part n s = true) : jo_ps s (n + 1) = jo_ps s n ++ [n] := by
  have hb : Nat.beq n 0 = false := by
    cases n with
    | zero => omega
    | succ k => rfl
  rw [jo_ps, hb, if_neg (by decide), if_pos hp]
theorem jm_ps_f {s n : Nat} (h : 1 ≤ n) (hp : ¬ jo_part n s = true) : jo_ps s (n + 1) = jo_ps s n := by
  have hb : Nat.beq n 0 = false := by
    cases n with
    | zero => omega
    | succ k => rfl
  rw [jo_ps, hb, if_neg (by decide), if_neg hp]
theorem jm_ps_1 (s : Nat) : jo_ps s 1 = [] := rfl
theorem jm_ps (s : Nat) : ∀ n a, a ∈ jo_ps s n ↔ (1 ≤ a ∧ a < n ∧ jo_part a s = true) := by
  intro n
  induction n with
  | zero => intro a; simp [jo_ps]
  | succ n ih =>
    intro a
    by_cases h0 : n = 0
    · subst h0
      rw [jm_ps_1]
      constructor
      · intro h; cases h
      · intro h; omega
    · by_cases hp : jo_part n s = true
      · rw [jm_ps_t (by omega) hp, List.mem_append, ih, List.mem_singleton]
        constructor
        · rintro (⟨h1, h2, h3⟩ | rfl)
          · exact ⟨h1, by omega, h3⟩
          · exact ⟨by omega, by omega, hp⟩
        · rintro ⟨h1, h2, h3⟩
          by_cases e : a = n
          · exact Or.inr e
          · exact Or.inl ⟨h1, by omega, h3⟩
      · rw [jm_ps_f (by omega) hp, ih]
        constructor
        · rintro ⟨h1, h2, h3⟩; exact ⟨h1, by omega, h3⟩
        · rintro ⟨h1, h2, h3⟩
          by_cases e : a = n
          · subst e; exact absurd h3 hp
          · exact ⟨h1, by omega, h3⟩
theorem jm_pl_eq (n s : Nat) : jo_pl (n + 1) s = if jo_one s = true then [[]] else (jo_ps s s).flatMap fun a => (jo_pl n a).flatMap fun p => (jo_pl n (s ^^^ a)).map fun q => p ++ (q ++ [(a, s ^^^ a)]) := by
  rw [jo_pl]
theorem jm_P_one {s : Nat} (h : jo_one s = true) : jo_P s = [[]] := by
  have := jm_pl_eq 4 s
  rw [if_pos h] at this
  exact this
theorem jm_P_eq {s : Nat} (h1 : 1 ≤ s) (h : s < 32) (ho : ¬ jo_one s = true) : jo_P s = (jo_ps s s).flatMap fun a => (jo_P a).flatMap fun p => (jo_P (s ^^^ a)).map fun q => p ++ (q ++ [(a, s ^^^ a)]) := by
  have e : jo_pl 6 s = jo_pl 5 s := by
    by_cases e31 : s = 31
    · subst e31; exact jo_pl_31
    · exact jo_pl_ok s (by omega) h1
  have := jm_pl_eq 5 s
  rw [if_neg ho] at this
  exact e.symm.trans this
theorem jm_mem {s : Nat} (h1 : 1 ≤ s) (h : s < 32) (ho : ¬ jo_one s = true) {p : List (Nat × Nat)} : p ∈ jo_P s ↔ ∃ a, a ∈ jo_ps s s ∧ ∃ p1, p1 ∈ jo_P a ∧ ∃ q, q ∈ jo_P (s ^^^ a) ∧ p1 ++ (q ++ [(a, s ^^^ a)]) = p := by
  rw [jm_P_eq h1 h ho]
  simp only [List.mem_flatMap, List.mem_map]
theorem jm_ind {Q : Nat → Prop} (q1 : ∀ s, 1 ≤ s → s < 32 → jo_one s = true → Q s) (q2 : ∀ s, 1 ≤ s → s < 32 → ¬ jo_one s = true → (∀ a, a ∈ jo_ps s s → Q a ∧ Q (s ^^^ a)) → Q s) : ∀ s, 1 ≤ s → s < 32 → Q s := by
  intro s
  induction s using Nat.strongRecOn with
  | ind s ih =>
    intro h1 h
    by_cases ho : jo_one s = true
    · exact q1 s h1 h ho
    · refine q2 s h1 h ho fun a ha => ?_
      obtain ⟨a1, a2, a3⟩ := (jm_ps s s a).mp ha
      obtain ⟨b1, b2, b3, b4, b5⟩ := jb_pt s h a a2 a1 a3
      exact ⟨ih a a2 a1 (by omega), ih _ b2 b1 (by omega)⟩
theorem jm_or {s a : Nat} (h : s < 32) (ha : a ∈ jo_ps s s) : a ||| (s ^^^ a) = s := by
  obtain ⟨a1, a2, a3⟩ := (jm_ps s s a).mp ha
  exact (jb_pt s h a a2 a1 a3).2.2.2.1
def jo_B : Nat → Nat
  | 0 => 0
  | 1 => 0
  | 2 => 4096
  | 3 => 266240
  | 4 => 17043456
  | _ => 1090785280
theorem jm_Bs : ∀ s, s < 32 → ∀ a, a < s → 1 ≤ a → jo_part a s = true → jo_B (jo_m a) + jo_B (jo_m (s ^^^ a)) + 64 ^ (jo_m s) ≤ jo_B (jo_m s) := by decide +kernel
theorem jm_Bt : ∀ s, s < 32 → jo_B (jo_m s) ≤ 1090785280 := by decide +kernel
/-- plans and what they cost -/
theorem jm_cb {z : Nat → Nat} (hz : ∀ s, s < 32 → z s ≤ 64 ^ (jo_m s)) : ∀ s, 1 ≤ s → s < 32 → ∀ p, p ∈ jo_P s → jo_c z p ≤ jo_B (jo_m s) := by
  refine jm_ind (fun s h1 h ho p hp => ?_) (fun s h1 h ho ih p hp => ?_)
  · rw [jm_P_one ho, List.mem_singleton] at hp
    subst hp
    exact Nat.zero_le _
  · obtain ⟨a, ha, p1, hp1, q, hq, rfl⟩ := (jm_mem h1 h ho).mp hp
    rw [jm_c_join, jm_or h ha]
    have i1 := (ih a ha).1 p1 hp1
    have i2 := (ih a ha).2 q hq
    obtain ⟨a1, a2, a3⟩ := (jm_ps s s a).mp ha
    have i3 := jm_Bs s h a a2 a1 a3
    have i4 := hz s h
    omega
theorem jm_cb' {z : Nat → Nat} (hz : ∀ s, s < 32 → z s ≤ 64 ^ (jo_m s)) {s : Nat} (h1 : 1 ≤ s) (h : s < 32) {p : List (Nat × Nat)} (hp : p ∈ jo_P s) : jo_c z p ≤ 1090785280 :=
  Nat.le_trans (jm_cb hz s h1 h p hp) (jm_Bt s h)
def jo_Lst (z : Nat → Nat) (s v : Nat) : Prop := (∃ p, p ∈ jo_P s ∧ jo_c z p = v) ∧ ∀ p, p ∈ jo_P s → v ≤ jo_c z p
def jo_Grt (z : Nat → Nat) (s v : Nat) : Prop := (∃ p, p ∈ jo_P s ∧ jo_c z p = v) ∧ ∀ p, p ∈ jo_P s → jo_c z p ≤ v
def jo_LsL (z : Nat → Nat) (lk : Nat → Nat → Bool) (s : Nat) (o : Option Nat) : Prop :=
  (o = none → ∀ p, p ∈ jo_P s → jo_lkd lk p = false) ∧ (∀ v, o = some v → (∃ p, p ∈ jo_P s ∧ jo_lkd lk p = true ∧ jo_c z p = v) ∧ ∀ p, p ∈ jo_P s → jo_lkd lk p = true → v ≤ jo_c z p)
section
variable {z : Nat → Nat} {lk : Nat → Nat → Bool} {s : Nat}
theorem jm_Lst_le (hz : ∀ s, s < 32 → z s ≤ 64 ^ (jo_m s)) (h1 : 1 ≤ s) (h : s < 32) {v : Nat} (H : jo_Lst z s v) : v ≤ 1090785280 := by
  obtain ⟨⟨p, hp, rfl⟩, _⟩ := H
  exact jm_cb' hz h1 h hp
theorem jm_Lst_u {v w : Nat} (H : jo_Lst z s v) (G : jo_Lst z s w) : v = w := by
  obtain ⟨⟨p, hp, rfl⟩, H⟩ := H
  obtain ⟨⟨q, hq, rfl⟩, G⟩ := G
  have := H q hq
  have := G p hp
  omega
theorem jm_Lst_one (h : jo_one s = true) : jo_Lst z s 0 := by
  refine ⟨⟨[], ?_, rfl⟩, fun p _ => Nat.zero_le _⟩
  rw [jm_P_one h]; exact List.mem_singleton.mpr rfl
theorem jm_Lst_step (h1 : 1 ≤ s) (h : s < 32) (ho : ¬ jo_one s = true) (cc : Nat → Nat) (hc : ∀ a, a ∈ jo_ps s s → jo_Lst z a (cc a) ∧ jo_Lst z (s ^^^ a) (cc (s ^^^ a))) {m : Nat}
    (he : ∃ a, a ∈ jo_ps s s ∧ cc a + cc (s ^^^ a) = m) (hm : ∀ a, a ∈ jo_ps s s → m ≤ cc a + cc (s ^^^ a)) : jo_Lst z s (m + z s) := by
  constructor
  · obtain ⟨a, ha, e⟩ := he
    obtain ⟨⟨⟨p, hp, e1⟩, _⟩, ⟨⟨q, hq, e2⟩, _⟩⟩ := hc a ha
    refine ⟨p ++ (q ++ [(a, s ^^^ a)]), (jm_mem h1 h ho).mpr ⟨a, ha, p, hp, q, hq, rfl⟩, ?_⟩
    rw [jm_c_join, jm_or h ha, e1, e2, e]
  · intro p hp
    obtain ⟨a, ha, p1, hp1, q, hq, rfl⟩ := (jm_mem h1 h ho).mp hp
    rw [jm_c_join, jm_or h ha]
    have i1 := (hc a ha).1.2 p1 hp1
    have i2 := (hc a ha).2.2 q hq
    have := hm a ha
    omega
theorem jm_Grt_le (hz : ∀ s, s < 32 → z s ≤ 64 ^ (jo_m s)) (h1 : 1 ≤ s) (h : s < 32) {v : Nat} (H : jo_Grt z s v) : v ≤ 1090785280 := by
  obtain ⟨⟨p, hp, rfl⟩, _⟩ := H
  exact jm_cb' hz h1 h hp
theorem jm_Grt_u {v w : Nat} (H : jo_Grt z s v) (G : jo_Grt z s w) : v = w := by
  obtain ⟨⟨p, hp, rfl⟩, H⟩ := H
  obtain ⟨⟨q, hq, rfl⟩, G⟩ := G
  have := H q hq
  have := G p hp
  omega
theorem jm_Grt_one (h : jo_one s = true) : jo_Grt z s 0 := by
  constructor
  · refine ⟨[], ?_, rfl⟩
    rw [jm_P_one h]; exact List.mem_singleton.mpr rfl
  · intro p hp
    rw [jm_P_one h, List.mem_singleton] at hp
    subst hp
    exact Nat.le_refl _
theorem jm_Grt_step (h1 : 1 ≤ s) (h : s < 32) (ho : ¬ jo_one s = true) (cc : Nat → Nat) (hc : ∀ a, a ∈ jo_ps s s → jo_Grt z a (cc a) ∧ jo_Grt z (s ^^^ a) (cc (s ^^^ a))) {m : Nat}
    (he : ∃ a, a ∈ jo_ps s s ∧ cc a + cc (s ^^^ a) = m) (hm : ∀ a, a ∈ jo_ps s s → cc a + cc (s ^^^ a) ≤ m) : jo_Grt z s (m + z s) := by
  constructor
  · obtain ⟨a, ha, e⟩ := he
    obtain ⟨⟨⟨p, hp, e1⟩, _⟩, ⟨⟨q, hq, e2⟩, _⟩⟩ := hc a ha
    refine ⟨p ++ (q ++ [(a, s ^^^ a)]), (jm_mem h1 h ho).mpr ⟨a, ha, p, hp, q, hq, rfl⟩, ?_⟩
    rw [jm_c_join, jm_or h ha, e1, e2, e]
  · intro p hp
    obtain ⟨a, ha, p1, hp1, q, hq, rfl⟩ := (jm_mem h1 h ho).mp hp
    rw [jm_c_join, jm_or h ha]
    have i1 := (hc a ha).1.2 p1 hp1
    have i2 := (hc a ha).2.2 q hq
    have := hm a ha
    omega
theorem jm_LsL_le (hz : ∀ s, s < 32 → z s ≤ 64 ^ (jo_m s)) (h1 : 1 ≤ s) (h : s < 32) {v : Nat} (H : jo_LsL z lk s (some v)) : v ≤ 1090785280 := by
  obtain ⟨⟨p, hp, _, rfl⟩, _⟩ := H.2 v rfl
  exact jm_cb' hz h1 h hp
theorem jm_LsL_one (h : jo_one s = true) : jo_LsL z lk s (some 0) := by
  refine ⟨fun e => (nomatch e), fun v e => ?_⟩
  cases e
  refine ⟨⟨[], ?_, rfl, rfl⟩, fun p _ _ => Nat.zero_le _⟩
  rw [jm_P_one h]; exact List.mem_singleton.mpr rfl
theorem jm_LsL_none (h1 : 1 ≤ s) (h : s < 32) (ho : ¬ jo_one s = true) (cc : Nat → Option Nat) (hc : ∀ a, a ∈ jo_ps s s → jo_LsL z lk a (cc a) ∧ jo_LsL z lk (s ^^^ a) (cc (s ^^^ a)))
    (hn : ∀ a, a ∈ jo_ps s s → cc a = none ∨ cc (s ^^^ a) = none ∨ lk a (s ^^^ a) = false) : jo_LsL z lk s none := by
  refine ⟨fun _ p hp => ?_, fun v e => (nomatch e)⟩
  obtain ⟨a, ha, p1, hp1, q, hq, rfl⟩ := (jm_mem h1 h ho).mp hp
  rw [jm_l_join]
  rcases hn a ha with e | e | e
  · rw [(hc a ha).1.1 e p1 hp1]; rfl
  · rw [(hc a ha).2.1 e q hq]; simp
  · rw [e]; simp
theorem jm_LsL_some (h1 : 1 ≤ s) (h : s < 32) (ho : ¬ jo_one s = true) (cc : Nat → Option Nat) (hc : ∀ a, a ∈ jo_ps s s → jo_LsL z lk a (cc a) ∧ jo_LsL z lk (s ^^^ a) (cc (s ^^^ a))) {m : Nat}
    (he : ∃ a x y, a ∈ jo_ps s s ∧ cc a = some x ∧ cc (s ^^^ a) = some y ∧ lk a (s ^^^ a) = true ∧ x + y = m)
    (hm : ∀ a x y, a ∈ jo_ps s s → cc a = some x → cc (s ^^^ a) = some y → lk a (s ^^^ a) = true → m ≤ x + y) : jo_LsL z lk s (some (m + z s)) := by
  refine ⟨fun e => (nomatch e), fun v e => ?_⟩
  cases e
  constructor
  · obtain ⟨a, x, y, ha, ex, ey, hl, e⟩ := he
    obtain ⟨⟨p, hp, lp, e1⟩, _⟩ := (hc a ha).1.2 x ex
    obtain ⟨⟨q, hq, lq, e2⟩, _⟩ := (hc a ha).2.2 y ey
    refine ⟨p ++ (q ++ [(a, s ^^^ a)]), (jm_mem h1 h ho).mpr ⟨a, ha, p, hp, q, hq, rfl⟩, ?_, ?_⟩
    · rw [jm_l_join, lp, lq, hl]; rfl
    · rw [jm_c_join, jm_or h ha, e1, e2, e]
  · intro p hp hl
    obtain ⟨a, ha, p1, hp1, q, hq, rfl⟩ := (jm_mem h1 h ho).mp hp
    rw [jm_l_join] at hl
    rw [jm_c_join, jm_or h ha]
    simp only [Bool.and_eq_true] at hl
    obtain ⟨l1, l2, l3⟩ := hl
    cases ex : cc a with
    | none => have := (hc a ha).1.1 ex p1 hp1; rw [l1] at this; exact nomatch this
    | some x =>
      cases ey : cc (s ^^^ a) with
      | none => have := (hc a ha).2.1 ey q hq; rw [l2] at this; exact nomatch this
      | some y =>
        have i1 := ((hc a ha).1.2 x ex).2 p1 hp1 l1
        have i2 := ((hc a ha).2.2 y ey).2 q hq l2
        have := hm a x y ha ex ey l3
        omega
end
/-! counting -/
theorem jm_prod {f g h : List (Nat × Nat) → Bool} {e : Bool} {x : Nat × Nat} (l2 : List (List (Nat × Nat))) : ∀ l1 : List (List (Nat × Nat)), (∀ p, p ∈ l1 → ∀ q, q ∈ l2 → f (p ++ (q ++ [x])) = (g p && (h q && e))) →
    (l1.flatMap fun p => l2.map fun q => p ++ (q ++ [x])).countP f = if e = true then l1.countP g * l2.countP h else 0 := by
  intro l1
  induction l1 with
  | nil => intro _; simp
  | cons p l1 ih =>
    intro H
    rw [List.flatMap_cons, List.countP_append, ih (fun p' hp' => H p' (List.mem_cons_of_mem _ hp')), List.countP_map]
    have e1 : List.countP (f ∘ fun q => p ++ (q ++ [x])) l2 = List.countP (fun q => g p && (h q && e)) l2 :=
      List.countP_congr fun q hq => by
        show f (p ++ (q ++ [x])) = true ↔ _
        rw [H p (List.mem_cons_self ..) q hq]
    rw [e1, List.countP_cons]
    cases e with
    | false => simp
    | true =>
      cases hg : g p with
      | false => simp
      | true => simp [Nat.add_mul]; exact Nat.add_comm _ _
theorem jm_cnt {s : Nat} (h1 : 1 ≤ s) (h : s < 32) (ho : ¬ jo_one s = true) (f : List (Nat × Nat) → Bool) (F : Nat → Nat)
    (H : ∀ a, a ∈ jo_ps s s → ((jo_P a).flatMap fun p => (jo_P (s ^^^ a)).map fun q => p ++ (q ++ [(a, s ^^^ a)])).countP f = F a) : (jo_P s).countP f = ((jo_ps s s).map F).sum := by
  rw [jm_P_eq h1 h ho, List.countP_flatMap]
  congr 1
  exact List.map_congr_left fun a ha => H a ha
theorem jm_cnt_all {s : Nat} (h1 : 1 ≤ s) (h : s < 32) (ho : ¬ jo_one s = true) : (jo_P s).countP (fun _ => true) = ((jo_ps s s).map fun a => (jo_P a).countP (fun _ => true) * (jo_P (s ^^^ a)).countP (fun _ => true)).sum :=
  jm_cnt h1 h ho _ _ fun a ha => by
    rw [jm_prod (g := fun _ => true) (h := fun _ => true) (e := true) _ _ (fun p _ q _ => rfl), if_pos rfl]
theorem jm_cnt_lk {lk : Nat → Nat → Bool} {s : Nat} (h1 : 1 ≤ s) (h : s < 32) (ho : ¬ jo_one s = true) : (jo_P s).countP (jo_lkd lk) = ((jo_ps s s).map fun a => if lk a (s ^^^ a) = true then (jo_P a).countP (jo_lkd lk) * (jo_P (s ^^^ a)).countP (jo_lkd lk) else 0).sum :=
  jm_cnt h1 h ho _ _ fun a ha => by
    rw [jm_prod (g := jo_lkd lk) (h := jo_lkd lk) (e := lk a (s ^^^ a)) _ _ (fun p _ q _ => jm_l_join ..)]
theorem jm_cnt_ch {z : Nat → Nat} {s : Nat} (h1 : 1 ≤ s) (h : s < 32) (ho : ¬ jo_one s = true) (cc : Nat → Nat) (hc : ∀ a, a ∈ jo_ps s s → jo_Lst z a (cc a) ∧ jo_Lst z (s ^^^ a) (cc (s ^^^ a))) {m : Nat} (hm : ∀ a, a ∈ jo_ps s s → m ≤ cc a + cc (s ^^^ a)) :
    (jo_P s).countP (fun p => jo_c z p == m + z s) = ((jo_ps s s).map fun a => if cc a + cc (s ^^^ a) = m then (jo_P a).countP (fun p => jo_c z p == cc a) * (jo_P (s ^^^ a)).countP (fun p => jo_c z p == cc (s ^^^ a)) else 0).sum :=
  jm_cnt h1 h ho _ _ fun a ha => by
    rw [jm_prod (g := fun p => jo_c z p == cc a) (h := fun p => jo_c z p == cc (s ^^^ a)) (e := decide (cc a + cc (s ^^^ a) = m)) _ _ (fun p hp q hq => ?_)]
    · simp only [decide_eq_true_eq]
    · rw [jm_c_join, jm_or h ha]
      have i1 := (hc a ha).1.2 p hp
      have i2 := (hc a ha).2.2 q hq
      have i3 := hm a ha
      rw [Bool.eq_iff_iff]
      simp only [Bool.and_eq_true, beq_iff_eq, decide_eq_true_eq]
      omega
end
section
/-! the reference's runs are the plans -/
theorem jm_perm {s : Nat} (h1 : 1 ≤ s) (h : s < 32) : ((jo_RL s).map jo_js).Perm (jo_P s) := by
  by_cases e : s = 31
  · subst e; exact jo_ms_eq 11 jo_perm_31
  · exact jo_srt_eq (jo_perm_s s (by omega) h1)
theorem jm_Rs {s : Nat} (h1 : 1 ≤ s) (h : s < 32) {i : Nat} (hi : i < jo_n s) : ∃ row js, jo_R s i = some (row, js) := by
  have H : (jo_RL s).all (fun x => x.isSome) = true := by
    by_cases e : s = 31
    · subst e; exact jo_R_31
    · exact jo_R_ok s (by omega) h1
  have := List.all_eq_true.mp H (jo_R s i) (List.mem_map.mpr ⟨i, List.mem_range.mpr hi, rfl⟩)
  obtain ⟨⟨row, js⟩, e⟩ := Option.isSome_iff_exists.mp this
  exact ⟨row, js, e⟩
def jo_pj (s i : Nat) : List (Nat × Nat) := jo_js (jo_R s i)
theorem jm_RLj (s : Nat) : (jo_RL s).map jo_js = (List.range (jo_n s)).map (jo_pj s) := by
  rw [jo_RL, List.map_map]; rfl
theorem jm_pj_in {s : Nat} (h1 : 1 ≤ s) (h : s < 32) {i : Nat} (hi : i < jo_n s) : jo_pj s i ∈ jo_P s := by
  refine (jm_perm h1 h).mem_iff.mp ?_
  rw [jm_RLj]
  exact List.mem_map.mpr ⟨i, List.mem_range.mpr hi, rfl⟩
theorem jm_pj_ex {s : Nat} (h1 : 1 ≤ s) (h : s < 32) {p : List (Nat × Nat)} (hp : p ∈ jo_P s) : ∃ i, i < jo_n s ∧ jo_pj s i = p := by
  have := (jm_perm h1 h).mem_iff.mpr hp
  rw [jm_RLj] at this
  obtain ⟨i, hi, e⟩ := List.mem_map.mp this
  exact ⟨i, List.mem_range.mp hi, e⟩
theorem jm_pj_cnt {s : Nat} (h1 : 1 ≤ s) (h : s < 32) (f : List (Nat × Nat) → Bool) : ((List.range (jo_n s)).map (jo_pj s)).countP f = (jo_P s).countP f := by
  rw [← jm_RLj]; exact (jm_perm h1 h).countP_eq f
/-! linear plans -/
def jo_Pm (j s : Nat) : List (List Nat) := jo_pm 5 j s
theorem jm_pm_eq (n j s : Nat) : jo_pm (n + 1) j s = if Nat.beq j s = true then [[]] else (jo_nx j s).flatMap fun i => (jo_pm n (j ||| 2 ^ i) s).map fun l => i :: l := by
  rw [jo_pm]
theorem jm_Pm_end (s : Nat) : jo_Pm s s = [[]] := by
  have := jm_pm_eq 4 s s
  rw [if_pos (Nat.beq_refl s)] at this
  exact this
theorem jm_Pm_eq {j s : Nat} (hs : s < 32) (hj : j < 32) (hp : jo_part j s = true) (hn : j ≠ s) : jo_Pm j s = (jo_nx j s).flatMap fun i => (jo_Pm (j ||| 2 ^ i) s).map fun l => i :: l := by
  have := jm_pm_eq 5 j s
  rw [if_neg (fun e => hn (Nat.eq_of_beq_eq_true e))] at this
  exact (jo_pm_ok s hs j hj hp).symm.trans this
theorem jm_nx {j s i : Nat} : i ∈ jo_nx j s ↔ (i < 5 ∧ jo_hb (s ^^^ j) i = true) := by
  rw [jo_nx, List.mem_filter, List.mem_range]
theorem jm_nx_cut : ∀ x, x < 32 → ∀ t, t < 5 → jo_hb x t = true → (List.range 5).filter (fun i => jo_hb x i) = (List.range t).filter (fun i => jo_hb x i) ++ t :: (List.range' (t + 1) (4 - t)).filter (fun i => jo_hb x i) := by decide +kernel
def jo_w (z : Nat → Nat) (j : Nat) : Nat := if jo_one j = true then 0 else z j
def jo_lc (z : Nat → Nat) (j : Nat) (l : List Nat) : Nat := ((jo_ls j l).map z).sum
theorem jm_lc_nil (z : Nat → Nat) (j : Nat) : jo_lc z j [] = jo_w z j := by
  unfold jo_lc jo_ls jo_w
  split <;> simp
theorem jm_lc_cons (z : Nat → Nat) (j i : Nat) (l : List Nat) : jo_lc z j (i :: l) = jo_w z j + jo_lc z (j ||| 2 ^ i) l := by
  unfold jo_lc jo_w
  rw [jo_ls]
  split <;> simp
def jo_LL (z : Nat → Nat) (s j v : Nat) : Prop := (∃ l, l ∈ jo_Pm j s ∧ jo_lc z j l = v) ∧ ∀ l, l ∈ jo_Pm j s → v ≤ jo_lc z j l
def jo_Fst (z : Nat → Nat) (s j v : Nat) (l : List Nat) : Prop := (jo_Pm j s).find? (fun l => jo_lc z j l == v) = some l
section
variable {z : Nat → Nat} {s j : Nat}
theorem jm_LL_end : jo_LL z s s (jo_w z s) := by
  unfold jo_LL
  rw [jm_Pm_end]
  refine ⟨⟨[], List.mem_singleton.mpr rfl, jm_lc_nil z s⟩, fun l hl => ?_⟩
  rw [List.mem_singleton] at hl
  subst hl
  rw [jm_lc_nil]; exact Nat.le_refl _
theorem jm_LL_u {v w : Nat} (H : jo_LL z s j v) (G : jo_LL z s j w) : v = w := by
  obtain ⟨⟨p, hp, rfl⟩, H⟩ := H
  obtain ⟨⟨q, hq, rfl⟩, G⟩ := G
  have := H q hq
  have := G p hp
  omega
theorem jm_LL_step (hs : s < 32) (hj : j < 32) (hp : jo_part j s = true) (hn : j ≠ s) (cc : Nat → Nat) (hc : ∀ i, i ∈ jo_nx j s → jo_LL z s (j ||| 2 ^ i) (cc i)) {t : Nat} (ht : t ∈ jo_nx j s) (hm : ∀ i, i ∈ jo_nx j s → cc t ≤ cc i) : jo_LL z s j (jo_w z j + cc t) := by
  unfold jo_LL
  rw [jm_Pm_eq hs hj hp hn]
  simp only [List.mem_flatMap, List.mem_map]
  constructor
  · obtain ⟨⟨l, hl, e⟩, _⟩ := hc t ht
    exact ⟨t :: l, ⟨t, ht, l, hl, rfl⟩, by rw [jm_lc_cons, e]⟩
  · rintro _ ⟨i, hi, l, hl, rfl⟩
    rw [jm_lc_cons]
    have := (hc i hi).2 l hl
    have := hm i hi
    omega
theorem jm_Fst_end : jo_Fst z s s (jo_w z s) [] := by
  unfold jo_Fst
  rw [jm_Pm_end]
  simp [jm_lc_nil]
theorem jm_Fst_step (hs : s < 32) (hj : j < 32) (hp : jo_part j s = true) (hn : j ≠ s) (cc : Nat → Nat) (hc : ∀ i, i ∈ jo_nx j s → jo_LL z s (j ||| 2 ^ i) (cc i)) {t : Nat} (ht : t ∈ jo_nx j s) (hm : ∀ i, i ∈ jo_nx j s → i < t → cc t < cc i) {l : List Nat} (hf : jo_Fst z s (j ||| 2 ^ t) (cc t) l) : jo_Fst z s j (jo_w z j + cc t) (t :: l) := by
  unfold jo_Fst at hf ⊢
  obtain ⟨t5, tb⟩ := jm_nx.mp ht
  have hcut := jm_nx_cut (s ^^^ j) (jb_xorlt hs hj) t t5 tb
  rw [jm_Pm_eq hs hj hp hn]
  have e0 : jo_nx j s = _ := hcut
  have h0 : (((List.range t).filter (fun i => jo_hb (s ^^^ j) i)).flatMap (fun i => (jo_Pm (j ||| 2 ^ i) s).map fun l => i :: l)).find? (fun l => jo_lc z j l == jo_w z j + cc t) = none := by
    rw [List.find?_eq_none]
    intro x hx
    simp only [List.mem_flatMap, List.mem_map, List.mem_filter, List.mem_range] at hx
    obtain ⟨i, ⟨hi, hb⟩, l', hl', rfl⟩ := hx
    have hin : i ∈ jo_nx j s := jm_nx.mpr ⟨by omega, hb⟩
    have a1 := (hc i hin).2 l' hl'
    have a2 := hm i hin hi
    rw [jm_lc_cons]
    simp only [beq_iff_eq]
    omega
  rw [e0, List.flatMap_append, List.find?_append, h0, Option.none_or, List.flatMap_cons, List.find?_append, List.find?_map]
  have e1 : ((fun l => jo_lc z j l == jo_w z j + cc t) ∘ fun l => t :: l) = fun l => jo_lc z (j ||| 2 ^ t) l == cc t := by
    funext l'
    show (jo_lc z j (t :: l') == jo_w z j + cc t) = _
    rw [jm_lc_cons, Bool.eq_iff_iff]
    simp only [beq_iff_eq]
    omega
  rw [e1, hf]
  rfl
end
def jo_D : Nat → Nat
  | 3 => 1090781184
  | 4 => 1090519040
  | 5 => 1073741824
  | _ => 1090785280
theorem jm_Ds : ∀ j, j < 32 → ∀ i, i < 5 → jo_hb j i = false → (if jo_one j = true then 0 else 64 ^ (jo_m j)) + jo_D (jo_m (j ||| 2 ^ i)) ≤ jo_D (jo_m j) := by decide +kernel
theorem jm_De : ∀ j, j < 32 → (if jo_one j = true then 0 else 64 ^ (jo_m j)) ≤ jo_D (jo_m j) := by decide +kernel
theorem jm_Dt : ∀ j, j < 32 → jo_D (jo_m j) ≤ 1090785280 := by decide +kernel
theorem jm_wle {z : Nat → Nat} (hz : ∀ s, s < 32 → z s ≤ 64 ^ (jo_m s)) {j : Nat} (hj : j < 32) : jo_w z j ≤ (if jo_one j = true then 0 else 64 ^ (jo_m j)) := by
  unfold jo_w
  split
  · exact Nat.le_refl _
  · exact hz j hj
theorem jm_lin {s : Nat} (h1 : 1 ≤ s) (h : s < 32) : (((jo_RL s).filter (fun x => jo_lin (jo_js x))).map fun x => (jo_rw x, (jo_js x).map fun y => y.1 ||| y.2)) = (jo_Pm 0 s).map fun l => (l, jo_ls 0 l) := by
  by_cases e : s = 31
  · subst e; exact jo_lin_31
  · exact jo_lin_s s (by omega) h1
theorem jm_c_eq (z : Nat → Nat) (p : List (Nat × Nat)) : jo_c z p = ((p.map fun y => y.1 ||| y.2).map z).sum := by
  rw [jo_c, List.map_map]; rfl
theorem jm_lin_a {z : Nat → Nat} {s : Nat} (h1 : 1 ≤ s) (h : s < 32) {i : Nat} (hi : i < jo_n s) (hl : jo_lin (jo_pj s i) = true) : ∃ l, l ∈ jo_Pm 0 s ∧ jo_c z (jo_pj s i) = jo_lc z 0 l := by
  have : (jo_rw (jo_R s i), (jo_js (jo_R s i)).map fun y => y.1 ||| y.2) ∈ (((jo_RL s).filter (fun x => jo_lin (jo_js x))).map fun x => (jo_rw x, (jo_js x).map fun y => y.1 ||| y.2)) :=
    List.mem_map.mpr ⟨jo_R s i, List.mem_filter.mpr ⟨List.mem_map.mpr ⟨i, List.mem_range.mpr hi, rfl⟩, hl⟩, rfl⟩
  rw [jm_lin h1 h] at this
  obtain ⟨l, hl', e⟩ := List.mem_map.mp this
  refine ⟨l, hl', ?_⟩
  rw [jm_c_eq, jo_lc]
  exact congrArg (fun x => (x.map z).sum) (congrArg Prod.snd e).symm
theorem jm_lin_b {z : Nat → Nat} {s : Nat} (h1 : 1 ≤ s) (h : s < 32) {l : List Nat} (hl : l ∈ jo_Pm 0 s) : ∃ i, i < jo_n s ∧ jo_lin (jo_pj s i) = true ∧ jo_c z (jo_pj s i) = jo_lc z 0 l := by
  have : (l, jo_ls 0 l) ∈ (jo_Pm 0 s).map fun l => (l, jo_ls 0 l) := List.mem_map.mpr ⟨l, hl, rfl⟩
  rw [← jm_lin h1 h] at this
  obtain ⟨x, hx, e⟩ := List.mem_map.mp this
  obtain ⟨hx1, hx2⟩ := List.mem_filter.mp hx
  obtain ⟨i, hi, rfl⟩ := List.mem_map.mp hx1
  refine ⟨i, List.mem_range.mp hi, hx2, ?_⟩
  rw [jm_c_eq, jo_lc]
  exact congrArg (fun x => (x.map z).sum) (congrArg Prod.snd e)
theorem jm_lin_c {z : Nat → Nat} {s : Nat} (h1 : 1 ≤ s) (h : s < 32) {v : Nat} {l : List Nat} (hf : jo_Fst z s 0 v l) {i : Nat} (hi : i < jo_n s) (hl : jo_lin (jo_pj s i) = true) (hc : jo_c z (jo_pj s i) = v)
    (hb : ∀ j, j < i → ¬ (jo_lin (jo_pj s j) = true ∧ jo_c z (jo_pj s j) = v)) : jo_rw (jo_R s i) = l := by
  have e1 : (jo_RL s).find? (fun x => jo_lin (jo_js x) && (jo_c z (jo_js x) == v)) = some (jo_R s i) := by
    rw [jo_RL, List.find?_map]
    have : (List.range (jo_n s)).find? ((fun x => jo_lin (jo_js x) && (jo_c z (jo_js x) == v)) ∘ jo_R s) = some i := by
      rw [List.find?_range_eq_some]
      refine ⟨?_, List.mem_range.mpr hi, fun j hj => ?_⟩
      · show (jo_lin (jo_pj s i) && (jo_c z (jo_pj s i) == v)) = true
        rw [hl, hc]; simp
      · show (!(jo_lin (jo_pj s j) && (jo_c z (jo_pj s j) == v))) = true
        have := hb j hj
        rw [Bool.not_eq_true', Bool.eq_false_iff]
        intro e
        simp only [Bool.and_eq_true, beq_iff_eq] at e
        exact this e
    rw [this]; rfl
  have e2 := congrArg (fun L => L.find? (fun x => (x.2.map z).sum == v)) (jm_lin h1 h)
  simp only [List.find?_map, List.find?_filter] at e2
  have e3 : ((fun x : List Nat × List Nat => (x.2.map z).sum == v) ∘ fun l => (l, jo_ls 0 l)) = fun l => jo_lc z 0 l == v := rfl
  rw [e3] at e2
  unfold jo_Fst at hf
  rw [hf] at e2
  have e4 : (fun x => jo_lin (jo_js x) && (jo_c z (jo_js x) == v)) = fun x => jo_lin (jo_js x) && ((fun x : List Nat × List Nat => (x.2.map z).sum == v) ∘ fun x => (jo_rw x, (jo_js x).map fun y => y.1 ||| y.2)) x := by
    funext x
    rw [jm_c_eq]; rfl
  rw [e4] at e1
  simp only [Bool.decide_and, Bool.decide_eq_true] at e2
  rw [e1] at e2
  exact congrArg (fun x => x.1) (Option.some.inj e2)
end
section
/-! sizes -/
def jo_xs (S : Nat → Nat) (s i : Nat) : Nat → Nat
  | 0 => 0
  | j + 1 => if jo_hb s j = true then jo_xs S s i j + S (i * 5 + j) else jo_xs S s i j
def jo_ex (E S : Nat → Nat) (s : Nat) : Nat → Int
  | 0 => 0
  | i + 1 => if jo_hb s i = true then jo_ex E S s i + ((E i : Int) - (jo_xs S s i i : Int)) else jo_ex E S s i
def jo_sz (E S : Nat → Nat) (s : Nat) : Nat := if jo_ex E S s 5 < 0 then 1 else 2 ^ (jo_ex E S s 5).toNat
theorem js_xs {S : Nat → Nat} (hS : ∀ p, p < 25 → S p ≤ 6) (s : Nat) {i : Nat} (hi : i < 5) : ∀ j, j ≤ i → jo_xs S s i j ≤ 6 * j := by
  intro j
  induction j with
  | zero => intro _; exact Nat.le_refl _
  | succ j ih =>
    intro hj
    have h1 := ih (by omega)
    have h2 := hS (i * 5 + j) (by omega)
    rw [jo_xs]
    split <;> omega
theorem js_ex {E S : Nat → Nat} (hE : ∀ i, i < 5 → E i ≤ 6) (hS : ∀ p, p < 25 → S p ≤ 6) (s : Nat) : ∀ i : Nat, i ≤ 5 → -(24 * (i : Int)) ≤ jo_ex E S s i ∧ jo_ex E S s i ≤ 6 * (jo_cn s i : Int) ∧ jo_cn s i ≤ i := by
  intro i
  induction i with
  | zero => intro _; exact ⟨Int.le_refl _, Int.le_refl _, Nat.le_refl _⟩
  | succ i ih =>
    intro hi
    obtain ⟨h1, h2, h3⟩ := ih (by omega)
    have h4 := hE i (by omega)
    have h5 := js_xs hS s (i := i) (by omega) i (Nat.le_refl _)
    rw [jo_ex, jo_cn]
    split <;> omega
theorem js_sz {E S : Nat → Nat} (hE : ∀ i, i < 5 → E i ≤ 6) (hS : ∀ p, p < 25 → S p ≤ 6) (s : Nat) : jo_sz E S s ≤ 64 ^ (jo_m s) := by
  obtain ⟨h1, h2, h3⟩ := js_ex hE hS s 5 (by omega)
  unfold jo_sz
  split
  · exact Nat.one_le_pow _ _ (by omega)
  · have : (jo_ex E S s 5).toNat ≤ 6 * jo_m s := by
      unfold jo_m; omega
    have h64 : 64 ^ (jo_m s) = 2 ^ (6 * jo_m s) := by rw [Nat.pow_mul]
    rw [h64]
    exact Nat.pow_le_pow_right (by omega) this
theorem js_oi {e : Int} (h1 : -1000 ≤ e) (h2 : e ≤ 1000) : (Int32.ofInt e).toInt = e := by
  rw [Int32.toInt_ofInt, show Int32.size = 4294967296 from rfl]
  exact Int.bmod_eq_of_le (by omega) (by omega)
theorem js_nI (n : Nat) : nI n = Int32.ofInt (n : Int) := rfl
theorem js_pos {e : Int} (h1 : -1000 ≤ e) (h2 : e ≤ 1000) : (0 : Int32) ≤ Int32.ofInt e ↔ 0 ≤ e := by
  rw [Int32.le_iff_toInt_le, js_oi h1 h2, Int32.toInt_zero]
theorem js_toNat {e : Int} (h : 0 ≤ e) : Int32.ofInt e = nI e.toNat := by
  rw [js_nI]; congr 1; omega
/-- the end of both sizeOf: what is answered of the exponent -/
theorem js_end {E S : Nat → Nat} (hE : ∀ i, i < 5 → E i ≤ 6) (hS : ∀ p, p < 25 → S p ≤ 6) (s : Nat) {post : Int32 → Prop} (hp : post (nI (jo_sz E S s))) :
    (0 ≤ Int32.ofInt (jo_ex E S s 5) → post ((1 : Int32) <<< (Int32.ofInt (jo_ex E S s 5) &&& 31))) ∧ (¬ 0 ≤ Int32.ofInt (jo_ex E S s 5) → post 1) := by
  obtain ⟨h1, h2, h3⟩ := js_ex hE hS s 5 (by omega)
  rw [js_pos (by omega) (by omega)]
  unfold jo_sz at hp
  constructor
  · intro h0
    rw [if_neg (by omega)] at hp
    rw [js_toNat h0, jb_shl _ (by omega)]
    exact hp
  · intro h0
    rw [if_pos (by omega)] at hp
    exact hp
/-! links -/
theorem js_tb (s i : Nat) : jo_hb s i = s.testBit i := by
  show Nat.beq ((s >>> i) &&& 1) 1 = ((1 &&& (s >>> i)) != 0)
  rw [Nat.and_one_is_mod, Nat.and_comm, Nat.and_one_is_mod]
  rcases Nat.mod_two_eq_zero_or_one (s >>> i) with h | h <;> rw [h] <;> rfl
theorem js_or (a b j : Nat) : jo_hb (a ||| b) j = (jo_hb a j || jo_hb b j) := by simp only [js_tb, Nat.testBit_or]
theorem js_and (a b j : Nat) : jo_hb (a &&& b) j = (jo_hb a j && jo_hb b j) := by simp only [js_tb, Nat.testBit_and]
theorem js_xor (a b j : Nat) : jo_hb (a ^^^ b) j = (jo_hb a j ^^ jo_hb b j) := by simp only [js_tb, Nat.testBit_xor]
theorem js_ext : ∀ a, a < 32 → ∀ b, b < 32 → (∀ j, j < 5 → jo_hb a j = jo_hb b j) → a = b := by decide +kernel
theorem js_sub : ∀ a, a < 32 → ∀ b, b < 32 → (jo_part a b = true ↔ ∀ j, j < 5 → jo_hb a j = true → jo_hb b j = true) := by decide +kernel
theorem js_dis : ∀ a, a < 32 → ∀ b, b < 32 → (a &&& b = 0 ↔ ∀ j, j < 5 → jo_hb a j = true → jo_hb b j = false) := by decide +kernel
theorem js_grow : ∀ a, a < 32 → ∀ b, b < 32 → jo_part a b = true → a ≠ b → (jo_m a < jo_m b ∧ a < b) := by decide +kernel
theorem js_m5 : ∀ a, a < 32 → jo_m a ≤ 5 := by decide +kernel
theorem js_m1 : ∀ a, a < 32 → 1 ≤ a → 1 ≤ jo_m a := by decide +kernel
theorem js_b1 : ∀ i, i < 5 → jo_m (2 ^ i) = 1 := by decide +kernel
theorem js_bb : ∀ i, i < 5 → ∀ j, j < 5 → (jo_hb (2 ^ i) j = true ↔ j = i) := by decide +kernel
theorem js_h0 : ∀ j, j < 5 → jo_hb 0 j = false := by decide +kernel
def jo_lk (K : Nat → Bool) (a b : Nat) : Bool := (List.range 25).any (fun p => K p && (jo_hb a (p / 5) && jo_hb b (p % 5)))
theorem js_lk (K : Nat → Bool) (a b : Nat) : jo_lk K a b = true ↔ ∃ i j, i < 5 ∧ j < 5 ∧ K (5 * i + j) = true ∧ jo_hb a i = true ∧ jo_hb b j = true := by
  unfold jo_lk
  rw [List.any_eq_true]
  simp only [List.mem_range, Bool.and_eq_true]
  constructor
  · rintro ⟨p, hp, h1, h2, h3⟩
    refine ⟨p / 5, p % 5, by omega, by omega, ?_, h2, h3⟩
    rwa [show 5 * (p / 5) + p % 5 = p from by omega]
  · rintro ⟨i, j, hi, hj, h1, h2, h3⟩
    refine ⟨5 * i + j, by omega, h1, ?_, ?_⟩
    · rwa [show (5 * i + j) / 5 = i from by omega]
    · rwa [show (5 * i + j) % 5 = j from by omega]
def jo_N (L : Nat → Nat) (r : Nat) : Nat → Nat
  | 0 => 0
  | i + 1 => if jo_hb r i = true then jo_N L r i ||| L i else jo_N L r i
theorem js_N_lt {L : Nat → Nat} (hL : ∀ i, i < 5 → L i < 32) (r : Nat) : ∀ n, n ≤ 5 → jo_N L r n < 32 := by
  intro n
  induction n with
  | zero => intro _; exact Nat.zero_lt_succ _
  | succ n ih =>
    intro hn
    rw [jo_N]
    split
    · exact jb_orlt (ih (by omega)) (hL n (by omega))
    · exact ih (by omega)
theorem js_N {L : Nat → Nat} (r j : Nat) (hj : j < 5) : ∀ n, jo_hb (jo_N L r n) j = true ↔ ∃ i, i < n ∧ jo_hb r i = true ∧ jo_hb (L i) j = true := by
  intro n
  induction n with
  | zero =>
    rw [jo_N, js_h0 j hj]
    constructor
    · intro h; exact nomatch h
    · rintro ⟨i, hi, _⟩; omega
  | succ n ih =>
    rw [jo_N]
    by_cases hb : jo_hb r n = true
    · rw [if_pos hb, js_or, Bool.or_eq_true, ih]
      constructor
      · rintro (⟨i, hi, h⟩ | h)
        · exact ⟨i, by omega, h⟩
        · exact ⟨n, by omega, hb, h⟩
      · rintro ⟨i, hi, h1, h2⟩
        by_cases e : i = n
        · subst e; exact Or.inr h2
        · exact Or.inl ⟨i, by omega, h1, h2⟩
    · rw [if_neg hb, ih]
      constructor
      · rintro ⟨i, hi, h⟩; exact ⟨i, by omega, h⟩
      · rintro ⟨i, hi, h1, h2⟩
        by_cases e : i = n
        · subst e; exact absurd h1 hb
        · exact ⟨i, by omega, h1, h2⟩
/-- the links of the class hold K -/
def jo_Lk (K : Nat → Bool) (L : Nat → Nat) : Prop := ∀ i, i < 5 → L i < 32 ∧ ∀ j, j < 5 → jo_hb (L i) j = K (5 * i + j)
theorem js_are {K : Nat → Bool} {L : Nat → Nat} (hL : jo_Lk K L) {a b : Nat} (ha : a < 32) (hb : b < 32) : (jo_N L a 5 &&& b = 0 ↔ jo_lk K a b = false) := by
  rw [js_dis _ (js_N_lt (fun i hi => (hL i hi).1) a 5 (Nat.le_refl _)) b hb, Bool.eq_false_iff, Ne, js_lk]
  constructor
  · rintro h ⟨i, j, hi, hj, h1, h2, h3⟩
    have := h j hj ((js_N a j hj 5).mpr ⟨i, hi, h2, by rw [(hL i hi).2 j hj]; exact h1⟩)
    rw [h3] at this; exact nomatch this
  · intro h j hj h1
    obtain ⟨i, hi, h2, h3⟩ := (js_N a j hj 5).mp h1
    rw [(hL i hi).2 j hj] at h3
    cases hbj : jo_hb b j with
    | false => rfl
    | true => exact absurd ⟨i, j, hi, hj, h3, h2, hbj⟩ h
/-! connected -/
def jo_rch (L : Nat → Nat) (s r : Nat) : Nat := r ||| (jo_N L r 5 &&& s)
def jo_it (L : Nat → Nat) (s r : Nat) : Nat → Nat
  | 0 => r
  | k + 1 => jo_rch L s (jo_it L s r k)
section
variable {K : Nat → Bool} {L : Nat → Nat} {s i0 : Nat}
theorem js_rlt (hL : jo_Lk K L) (hs : s < 32) {r : Nat} (hr : r < 32) : jo_rch L s r < 32 :=
  jb_orlt hr (Nat.lt_of_le_of_lt Nat.and_le_right hs)
theorem js_itlt (hL : jo_Lk K L) (hs : s < 32) (h0 : i0 < 5) : ∀ k, jo_it L s (2 ^ i0) k < 32 := by
  intro k
  induction k with
  | zero => exact jb_bit h0
  | succ k ih => exact js_rlt hL hs ih
theorem js_rb (hL : jo_Lk K L) {r j : Nat} (hj : j < 5) : jo_hb (jo_rch L s r) j = true ↔ (jo_hb r j = true ∨ (jo_hb s j = true ∧ ∃ i, i < 5 ∧ jo_hb r i = true ∧ K (5 * i + j) = true)) := by
  unfold jo_rch
  rw [js_or, Bool.or_eq_true, js_and, Bool.and_eq_true, js_N r j hj]
  constructor
  · rintro (h | ⟨⟨i, hi, h1, h2⟩, h3⟩)
    · exact Or.inl h
    · exact Or.inr ⟨h3, i, hi, h1, by rw [← (hL i hi).2 j hj]; exact h2⟩
  · rintro (h | ⟨h3, i, hi, h1, h2⟩)
    · exact Or.inl h
    · exact Or.inr ⟨⟨i, hi, h1, by rw [(hL i hi).2 j hj]; exact h2⟩, h3⟩
theorem js_it5 (hL : jo_Lk K L) (hs : s < 32) (h0 : i0 < 5) : ∀ k, jo_it L s (2 ^ i0) (k + 1) = jo_it L s (2 ^ i0) k ∨ k + 1 ≤ jo_m (jo_it L s (2 ^ i0) k) := by
  intro k
  induction k with
  | zero => right; show 1 ≤ jo_m (2 ^ i0); rw [js_b1 i0 h0]; exact Nat.le_refl _
  | succ k ih =>
    rcases ih with e | h
    · left
      show jo_rch L s (jo_it L s (2 ^ i0) (k + 1)) = jo_rch L s (jo_it L s (2 ^ i0) k)
      rw [e]
    · by_cases e : jo_it L s (2 ^ i0) (k + 1) = jo_it L s (2 ^ i0) k
      · left
        show jo_rch L s (jo_it L s (2 ^ i0) (k + 1)) = jo_rch L s (jo_it L s (2 ^ i0) k)
        rw [e]
      · right
        have hp : jo_part (jo_it L s (2 ^ i0) k) (jo_it L s (2 ^ i0) (k + 1)) = true :=
          (js_sub _ (js_itlt hL hs h0 k) _ (js_itlt hL hs h0 (k + 1))).mpr fun j hj hb => (js_rb hL hj).mpr (Or.inl hb)
        have := (js_grow _ (js_itlt hL hs h0 k) _ (js_itlt hL hs h0 (k + 1)) hp (fun q => e q.symm)).1
        omega
theorem js_in {c : Nat} (hL : jo_Lk K L) (hs : s < 32) (hc : c < 32) (h0 : i0 < 5) (hc0 : jo_hb c i0 = true) (hn : jo_lk K c (s ^^^ c) = false) : ∀ k j, j < 5 → jo_hb (jo_it L s (2 ^ i0) k) j = true → jo_hb c j = true := by
  intro k
  induction k with
  | zero =>
    intro j hj h
    rw [(js_bb i0 h0 j hj).mp h]; exact hc0
  | succ k ih =>
    intro j hj h
    rcases (js_rb hL hj).mp h with h | ⟨h3, i, hi, h1, h2⟩
    · exact ih j hj h
    · cases hcj : jo_hb c j with
      | true => rfl
      | false =>
        have : jo_lk K c (s ^^^ c) = true := (js_lk K _ _).mpr ⟨i, j, hi, hj, h2, ih i hi h1, by rw [js_xor, h3, hcj]; rfl⟩
        rw [hn] at this; exact nomatch this
theorem js_sym (hK : ∀ i j, i < 5 → j < 5 → K (5 * i + j) = K (5 * j + i)) (a b : Nat) : jo_lk K a b = jo_lk K b a := by
  rw [Bool.eq_iff_iff, js_lk, js_lk]
  constructor
  · rintro ⟨i, j, hi, hj, h1, h2, h3⟩; exact ⟨j, i, hj, hi, by rw [← hK i j hi hj]; exact h1, h3, h2⟩
  · rintro ⟨i, j, hi, hj, h1, h2, h3⟩; exact ⟨j, i, hj, hi, by rw [← hK i j hi hj]; exact h1, h3, h2⟩
theorem js_ps : ∀ k j, jo_Lk K L → s < 32 → i0 < 5 → jo_hb s i0 = true → j < 5 → jo_hb (jo_it L s (2 ^ i0) k) j = true → jo_hb s j = true := by
  intro k
  induction k with
  | zero =>
    intro j hL hs h0 hb hj h
    rw [(js_bb i0 h0 j hj).mp h]; exact hb
  | succ k ih =>
    intro j hL hs h0 hb hj h
    rcases (js_rb hL hj).mp h with h | ⟨h3, _⟩
    · exact ih j hL hs h0 hb hj h
    · exact h3
theorem js_i0 (hL : jo_Lk K L) (h0 : i0 < 5) : ∀ k, jo_hb (jo_it L s (2 ^ i0) k) i0 = true := by
  intro k
  induction k with
  | zero => exact (js_bb i0 h0 i0 h0).mpr rfl
  | succ k ih => exact (js_rb hL h0).mpr (Or.inl ih)
theorem js_conn (hK : ∀ i j, i < 5 → j < 5 → K (5 * i + j) = K (5 * j + i)) (hL : jo_Lk K L) (hs : s < 32) (h0 : i0 < 5) (hb : jo_hb s i0 = true) :
    jo_it L s (2 ^ i0) 5 = s ↔ ∀ a, 1 ≤ a → a < s → jo_part a s = true → jo_lk K a (s ^^^ a) = true := by
  have hr := js_itlt hL hs h0 5
  constructor
  · intro e a a1 a2 a3
    cases hl : jo_lk K a (s ^^^ a) with
    | true => rfl
    | false =>
      exfalso
      obtain ⟨p1, p2, p3, p4, p5⟩ := jb_pt s hs a a2 a1 a3
      have ha : a < 32 := by omega
      have hx : s ^^^ a < 32 := by omega
      cases h : jo_hb a i0 with
      | true =>
        have hin := js_in hL hs ha h0 h hl 5
        rw [e] at hin
        have q := (js_sub s hs a ha).mpr hin
        have : a = s := js_ext a ha s hs fun j hj => by
          rw [Bool.eq_iff_iff]
          exact ⟨(js_sub a ha s hs).mp a3 j hj, hin j hj⟩
        omega
      | false =>
        have hc : jo_hb (s ^^^ a) i0 = true := by rw [js_xor, hb, h]; rfl
        have hn : jo_lk K (s ^^^ a) (s ^^^ (s ^^^ a)) = false := by
          rw [← Nat.xor_assoc, Nat.xor_self, Nat.zero_xor, js_sym hK]; exact hl
        have hin := js_in hL hs hx h0 hc hn 5
        rw [e] at hin
        have : s ^^^ a = s := js_ext _ hx s hs fun j hj => by
          rw [Bool.eq_iff_iff]
          exact ⟨(js_sub _ hx s hs).mp p3 j hj, hin j hj⟩
        omega
  · intro H
    refine Decidable.byContradiction fun ne => ?_
    have hp : jo_part (jo_it L s (2 ^ i0) 5) s = true := (js_sub _ hr s hs).mpr fun j hj => js_ps 5 j hL hs h0 hb hj
    have hlt := (js_grow _ hr s hs hp ne).2
    have h1 : 1 ≤ jo_it L s (2 ^ i0) 5 := by
      refine Decidable.byContradiction fun q => ?_
      have z : jo_it L s (2 ^ i0) 5 = 0 := by omega
      have := js_i0 (s := s) hL h0 5
      rw [z, js_h0 i0 h0] at this
      exact nomatch this
    obtain ⟨i, j, hi, hj, k1, k2, k3⟩ := (js_lk K _ _).mp (H _ h1 hlt hp)
    have e6 : jo_it L s (2 ^ i0) 6 = jo_it L s (2 ^ i0) 5 := by
      rcases js_it5 hL hs h0 5 with e | h
      · exact e
      · have := js_m5 _ hr; omega
    have hsj : jo_hb s j = true := by
      cases h : jo_hb s j with
      | true => rfl
      | false =>
        cases h2 : jo_hb (jo_it L s (2 ^ i0) 5) j with
        | true => rw [js_ps 5 j hL hs h0 hb hj h2] at h; exact nomatch h
        | false => rw [js_xor, h, h2] at k3; exact nomatch k3
    have h6 : jo_hb (jo_it L s (2 ^ i0) 6) j = true := (js_rb hL hj).mpr (Or.inr ⟨hsj, i, hi, k2, k1⟩)
    rw [e6] at h6
    rw [js_xor, hsj, h6] at k3
    exact nomatch k3
end
end
section
/-! the values that both sides answer -/
theorem jv_min {α : Type} (f : α → Nat) : ∀ l : List α, l ≠ [] → ∃ p, p ∈ l ∧ ∀ q, q ∈ l → f p ≤ f q := by
  intro l
  induction l with
  | nil => intro h; exact absurd rfl h
  | cons x l ih =>
    intro _
    by_cases e : l = []
    · subst e
      refine ⟨x, List.mem_cons_self .., fun q hq => ?_⟩
      rw [List.mem_singleton] at hq
      subst hq; exact Nat.le_refl _
    · obtain ⟨p, hp, H⟩ := ih e
      by_cases hx : f x ≤ f p
      · refine ⟨x, List.mem_cons_self .., fun q hq => ?_⟩
        rcases List.mem_cons.mp hq with rfl | hq
        · exact Nat.le_refl _
        · exact Nat.le_trans hx (H q hq)
      · refine ⟨p, List.mem_cons_of_mem _ hp, fun q hq => ?_⟩
        rcases List.mem_cons.mp hq with rfl | hq
        · omega
        · exact H q hq
theorem jv_max {α : Type} (f : α → Nat) : ∀ l : List α, l ≠ [] → ∃ p, p ∈ l ∧ ∀ q, q ∈ l → f q ≤ f p := by
  intro l
  induction l with
  | nil => intro h; exact absurd rfl h
  | cons x l ih =>
    intro _
    by_cases e : l = []
    · subst e
      refine ⟨x, List.mem_cons_self .., fun q hq => ?_⟩
      rw [List.mem_singleton] at hq
      subst hq; exact Nat.le_refl _
    · obtain ⟨p, hp, H⟩ := ih e
      by_cases hx : f p ≤ f x
      · refine ⟨x, List.mem_cons_self .., fun q hq => ?_⟩
        rcases List.mem_cons.mp hq with rfl | hq
        · exact Nat.le_refl _
        · exact Nat.le_trans (H q hq) hx
      · refine ⟨p, List.mem_cons_of_mem _ hp, fun q hq => ?_⟩
        rcases List.mem_cons.mp hq with rfl | hq
        · omega
        · exact H q hq
theorem jv_psne : ∀ s, s < 32 → 1 ≤ s → jo_one s = false → jo_ps s s ≠ [] := by decide +kernel
theorem jv_pmne : ∀ s, s < 32 → ∀ j, j < 32 → jo_part j s = true → jo_pm 5 j s ≠ [] := by decide +kernel
theorem jv_ne : ∀ s, 1 ≤ s → s < 32 → jo_P s ≠ [] := by
  refine jm_ind (fun s h1 h ho => ?_) (fun s h1 h ho ih => ?_)
  · rw [jm_P_one ho]; exact fun e => nomatch e
  · obtain ⟨a, ha⟩ := List.exists_mem_of_ne_nil _ (jv_psne s h h1 (by simpa using ho))
    obtain ⟨p, hp⟩ := List.exists_mem_of_ne_nil _ (ih a ha).1
    obtain ⟨q, hq⟩ := List.exists_mem_of_ne_nil _ (ih a ha).2
    exact List.ne_nil_of_mem ((jm_mem h1 h ho).mpr ⟨a, ha, p, hp, q, hq, rfl⟩)
noncomputable def jo_lv (z : Nat → Nat) (s : Nat) : Nat := Classical.epsilon (fun v => jo_Lst z s v)
noncomputable def jo_gv (z : Nat → Nat) (s : Nat) : Nat := Classical.epsilon (fun v => jo_Grt z s v)
noncomputable def jo_kv (z : Nat → Nat) (lk : Nat → Nat → Bool) (s : Nat) : Option Nat := Classical.epsilon (fun v => jo_LsL z lk s v)
noncomputable def jo_ll (z : Nat → Nat) (s j : Nat) : Nat := Classical.epsilon (fun v => jo_LL z s j v)
section
variable {z : Nat → Nat} {lk : Nat → Nat → Bool} {s : Nat}
theorem jv_l (h1 : 1 ≤ s) (h : s < 32) : jo_Lst z s (jo_lv z s) := by
  refine Classical.epsilon_spec (p := fun v => jo_Lst z s v) ?_
  obtain ⟨p, hp, H⟩ := jv_min (jo_c z) _ (jv_ne s h1 h)
  exact ⟨_, ⟨p, hp, rfl⟩, H⟩
theorem jv_lu (h1 : 1 ≤ s) (h : s < 32) {v : Nat} (H : jo_Lst z s v) : jo_lv z s = v := jm_Lst_u (jv_l h1 h) H
theorem jv_g (h1 : 1 ≤ s) (h : s < 32) : jo_Grt z s (jo_gv z s) := by
  refine Classical.epsilon_spec (p := fun v => jo_Grt z s v) ?_
  obtain ⟨p, hp, H⟩ := jv_max (jo_c z) _ (jv_ne s h1 h)
  exact ⟨_, ⟨p, hp, rfl⟩, H⟩
theorem jv_gu (h1 : 1 ≤ s) (h : s < 32) {v : Nat} (H : jo_Grt z s v) : jo_gv z s = v := jm_Grt_u (jv_g h1 h) H
theorem jv_k (h1 : 1 ≤ s) (h : s < 32) : jo_LsL z lk s (jo_kv z lk s) := by
  refine Classical.epsilon_spec (p := fun v => jo_LsL z lk s v) ?_
  by_cases e : (jo_P s).filter (jo_lkd lk) = []
  · refine ⟨none, fun _ p hp => ?_, fun v q => nomatch q⟩
    cases hl : jo_lkd lk p with
    | false => rfl
    | true =>
      have := List.mem_filter.mpr ⟨hp, hl⟩
      rw [e] at this; exact nomatch this
  · obtain ⟨p, hp, H⟩ := jv_min (jo_c z) _ e
    obtain ⟨hp1, hp2⟩ := List.mem_filter.mp hp
    refine ⟨some (jo_c z p), (fun q => nomatch q), fun v q => ?_⟩
    cases q
    exact ⟨⟨p, hp1, hp2, rfl⟩, fun q hq hl => H q (List.mem_filter.mpr ⟨hq, hl⟩)⟩
theorem jv_ku (h1 : 1 ≤ s) (h : s < 32) {o : Option Nat} (H : jo_LsL z lk s o) : jo_kv z lk s = o := by
  have G := jv_k (z := z) (lk := lk) h1 h
  generalize jo_kv z lk s = w at G
  cases o with
  | none =>
    cases w with
    | none => rfl
    | some v =>
      obtain ⟨⟨p, hp, hl, _⟩, _⟩ := G.2 v rfl
      rw [H.1 rfl p hp] at hl; exact nomatch hl
  | some x =>
    obtain ⟨⟨p, hp, hl, e⟩, H2⟩ := H.2 x rfl
    cases w with
    | none => rw [G.1 rfl p hp] at hl; exact nomatch hl
    | some v =>
      obtain ⟨⟨q, hq, hl', e'⟩, G2⟩ := G.2 v rfl
      have := H2 q hq hl'
      have := G2 p hp hl
      congr 1; omega
theorem jv_ll {j : Nat} (h : s < 32) (hj : j < 32) (hp : jo_part j s = true) : jo_LL z s j (jo_ll z s j) := by
  refine Classical.epsilon_spec (p := fun v => jo_LL z s j v) ?_
  obtain ⟨p, hp, H⟩ := jv_min (jo_lc z j) _ (jv_pmne s h j hj hp)
  exact ⟨_, ⟨p, hp, rfl⟩, H⟩
theorem jv_llu {j : Nat} (h : s < 32) (hj : j < 32) (hp : jo_part j s = true) {v : Nat} (H : jo_LL z s j v) : jo_ll z s j = v := jm_LL_u (jv_ll h hj hp) H
end
end
section
/-! the class: its small methods -/
theorem jx_r0 {A B : Prop} (a : A) : ((0 : Int32) = 0 → A) ∧ (¬ (0 : Int32) = 0 → B) := br_t rfl a
theorem jx_r1 {A B : Prop} (b : B) : ((1 : Int32) = 0 → A) ∧ (¬ (1 : Int32) = 0 → B) := br_f (by decide) b
theorem jx_bf {b : Bool} (h : ¬ b = true) : b = false := by cases b with | false => rfl | true => exact absurd rfl h
theorem jx_bt {b : Bool} (h : ¬ b = false) : b = true := by cases b with | true => rfl | false => exact absurd rfl h
theorem jx_has {s i : Nat} {A B : Prop} (hs : s < 32) (hi : i < 5) (f : jo_hb s i = false → A) (t : jo_hb s i = true → B) : wpX_hasTable (fun r => (r = 0 → A) ∧ (¬ r = 0 → B)) (nI s) (nI i) :=
  ⟨fun h => jx_r0 (f ((jb_hx s hs i hi).mp h)), fun h => jx_r1 (t (jx_bt fun e => h ((jb_hx s hs i hi).mpr e)))⟩
theorem jx_part {a s : Nat} {A B : Prop} (ha : a < 32) (hs : s < 32) (f : ¬ jo_part a s = true → A) (t : jo_part a s = true → B) : wpX_isPart (fun r => (r = 0 → A) ∧ (¬ r = 0 → B)) (nI a) (nI s) :=
  ⟨fun h => jx_r1 (t ((jb_part a ha s hs).mp h)), fun h => jx_r0 (f fun e => h ((jb_part a ha s hs).mpr e))⟩
theorem jx_one {s : Nat} {A B : Prop} (hs : s < 32) (f : ¬ jo_one s = true → A) (t : jo_one s = true → B) : wpX_needsNoJoin (fun r => (r = 0 → A) ∧ (¬ r = 0 → B)) (nI s) :=
  ⟨fun h => jx_r1 (t ((jb_one s hs).mp h)), fun h => jx_r0 (f fun e => h ((jb_one s hs).mpr e))⟩
/-- an int is a set, or it is none -/
def jo_isS (x : Int32) : Prop := ¬ x < 1 ∧ ¬ 31 < x
theorem jx_isS {x : Int32} (h : jo_isS x) : ∃ s, 1 ≤ s ∧ s < 32 ∧ x = nI s := by
  obtain ⟨h1, h2⟩ := h
  have h0 : ¬ x < 0 := fun q => h1 (Int32.lt_trans q (by decide))
  obtain ⟨j, hj, rfl⟩ := nI_of h0
  have a1 : ¬ j < 1 := fun q => h1 ((nI_ltI (b := 1) hj (by decide)).mpr q)
  have a2 : ¬ 31 < j := fun q => h2 ((nI_ltI (a := 31) (by decide) hj).mpr q)
  exact ⟨j, by omega, by omega, rfl⟩
theorem jx_set {x : Int32} {A B : Prop} (f : ¬ jo_isS x → A) (t : jo_isS x → B) : wpX_isSet (fun r => (r = 0 → A) ∧ (¬ r = 0 → B)) x :=
  ⟨fun h => jx_r0 (f fun q => q.1 h), fun h => ⟨fun h' => jx_r0 (f fun q => q.2 h'), fun h' => jx_r1 (t ⟨h, h'⟩)⟩⟩
theorem jx_ix (i j : Nat) : nI i * 5 + nI j = nI (i * 5 + j) := by
  rw [show (5 : Int32) = nI 5 from rfl, pk_mul, nI_add]
section
variable {xe xs xl xc xn : Nat → Int32} {E S L : Nat → Nat} {K : Nat → Bool}
theorem jx_swe (hX : ∀ p, p < 25 → xs p = nI (S p)) {s i : Nat} (hs : s < 32) (hi : i < 5) {post : Int32 → Prop} (hp : post (nI (jo_xs S s i i))) : wpX_strengthWithEarlier post (xe, xs, xl, xc, xn) (nI s) (nI i) := by
  have key : ∀ d j, j + d = i → wX_strengthWithEarlier_5 post (nI s) (nI i) xe xs xl xc xn (d + 1) (nI (jo_xs S s i j)) (nI j) := by
    intro d
    induction d with
    | zero =>
      intro j hj
      obtain rfl : j = i := by omega
      exact br_t (nI_le (Nat.le_refl _) (by omega)) hp
    | succ d ih =>
      intro j hj
      refine br_f (nI_ge (by omega) (by omega)) (jx_has hs (by omega) (fun hb => ?_) (fun hb => ?_))
      · refine nm_r (nI_1 j) ?_
        have := ih (j + 1) (by omega)
        rw [jo_xs, if_neg (by rw [hb]; decide)] at this
        exact this
      · refine ⟨pk_in (i * 5 + j) 25 (by omega) (jx_ix i j), nm_r (e' := nI (jo_xs S s i j + S (i * 5 + j))) ?_ (nm_r (nI_1 j) ?_)⟩
        · rw [jx_ix, nI_clamp (by omega), hX _ (by omega), nI_add]
        · have := ih (j + 1) (by omega)
          rw [jo_xs, if_pos hb] at this
          exact this
  exact ⟨_, key i 0 (by omega)⟩
theorem jx_sizeOf (hE : ∀ i, i < 5 → E i ≤ 6) (hS : ∀ p, p < 25 → S p ≤ 6) (hXe : ∀ i, i < 5 → xe i = nI (E i)) (hX : ∀ p, p < 25 → xs p = nI (S p)) {s : Nat} (hs : s < 32) {post : Int32 → Prop} (hp : post (nI (jo_sz E S s))) : wpX_sizeOf post (xe, xs, xl, xc, xn) (nI s) := by
  have key : ∀ d i, i + d = 5 → wX_sizeOf_4 post (nI s) xe xs xl xc xn (d + 1) (Int32.ofInt (jo_ex E S s i)) (nI i) := by
    intro d
    induction d with
    | zero =>
      intro i hi
      obtain rfl : i = 5 := by omega
      exact br_t (nI_le (a := 5) (Nat.le_refl _) (by omega)) (js_end hE hS s hp)
    | succ d ih =>
      intro i hi
      refine br_f (nI_ge (b := 5) (by omega) (by omega)) (jx_has hs (by omega) (fun hb => ?_) (fun hb => ?_))
      · refine nm_r (nI_1 i) ?_
        have := ih (i + 1) (by omega)
        rw [jo_ex, if_neg (by rw [hb]; decide)] at this
        exact this
      · refine ⟨vp_in_nI (by omega) (by omega), jx_swe hX hs (by omega) (nm_r (e' := Int32.ofInt (jo_ex E S s i + ((E i : Int) - (jo_xs S s i i : Int)))) ?_ (nm_r (nI_1 i) ?_))⟩
        · rw [nI_clamp (by omega), hXe _ (by omega), js_nI, js_nI, ← Int32.ofInt_sub, ← Int32.ofInt_add]
        · have := ih (i + 1) (by omega)
          rw [jo_ex, if_pos hb] at this
          exact this
  exact ⟨_, key 5 0 (by omega)⟩
theorem jx_lw (hX : ∀ i, i < 5 → xl i = nI (L i)) {s : Nat} (hs : s < 32) {post : Int32 → Prop} (hp : post (nI (jo_N L s 5))) : wpX_linkedWith post (xe, xs, xl, xc, xn) (nI s) := by
  have key : ∀ d i, i + d = 5 → wX_linkedWith_4 post (nI s) xe xs xl xc xn (d + 1) (nI (jo_N L s i)) (nI i) := by
    intro d
    induction d with
    | zero =>
      intro i hi
      obtain rfl : i = 5 := by omega
      exact br_t (nI_le (a := 5) (Nat.le_refl _) (by omega)) hp
    | succ d ih =>
      intro i hi
      refine br_f (nI_ge (b := 5) (by omega) (by omega)) (jx_has hs (by omega) (fun hb => ?_) (fun hb => ?_))
      · refine nm_r (nI_1 i) ?_
        have := ih (i + 1) (by omega)
        rw [jo_N, if_neg (by rw [hb]; decide)] at this
        exact this
      · refine ⟨vp_in_nI (by omega) (by omega), nm_r (e' := nI (jo_N L s i ||| L i)) ?_ (nm_r (nI_1 i) ?_)⟩
        · rw [nI_clamp (by omega), hX _ (by omega), nx_or]
        · have := ih (i + 1) (by omega)
          rw [jo_N, if_pos hb] at this
          exact this
  exact ⟨_, key 5 0 (by omega)⟩
theorem jx_are (hX : ∀ i, i < 5 → xl i = nI (L i)) (hL : jo_Lk K L) {a b : Nat} (ha : a < 32) (hb : b < 32) {A B : Prop} (f : jo_lk K a b = false → A) (t : jo_lk K a b = true → B) : wpX_areLinked (fun r => (r = 0 → A) ∧ (¬ r = 0 → B)) (xe, xs, xl, xc, xn) (nI a) (nI b) := by
  unfold wpX_areLinked
  refine jx_lw hX ha ?_
  have hN := js_N_lt (fun i hi => (hL i hi).1) a 5 (Nat.le_refl _)
  have e : (nI (jo_N L a 5) &&& nI b) = 0 ↔ jo_lk K a b = false := by
    rw [nx_and, ← nI_0, nI_eq (Nat.lt_of_le_of_lt Nat.and_le_right (by omega)) (by omega), js_are hL ha hb]
  exact ⟨fun h => jx_r0 (f (e.mp h)), fun h => jx_r1 (t (jx_bt fun q => h (e.mpr q)))⟩
end
end
section
/-! the class: connected, the least and the greatest cost -/
section
variable {xe xs xl xc xn : Nat → Int32} {E S L : Nat → Nat} {K : Nat → Bool}
theorem jx_conn (hX : ∀ i, i < 5 → xl i = nI (L i)) (hL : jo_Lk K L) {s i0 : Nat} (hs : s < 32) (h0 : i0 < 5) {post : Int32 → Prop} (ht : jo_it L s (2 ^ i0) 5 = s → post 1) (hf : jo_it L s (2 ^ i0) 5 ≠ s → post 0) :
    ∃ n, wX_connected_16 post (nI s) xe xs xl xc xn n (nI (2 ^ i0)) 0 := by
  have hlt := js_itlt hL hs h0
  have key : ∀ d k, k + d = 5 → wX_connected_16 post (nI s) xe xs xl xc xn (d + 1) (nI (jo_it L s (2 ^ i0) k)) (nI k) := by
    intro d
    induction d with
    | zero =>
      intro k hk
      obtain rfl : k = 5 := by omega
      have := hlt 5
      refine br_t (nI_le (a := 5) (Nat.le_refl _) (by omega)) (pk_eq _ _ ht hf rfl rfl (by omega) (by omega))
    | succ d ih =>
      intro k hk
      refine br_f (nI_ge (b := 5) (by omega) (by omega)) (jx_lw hX (hlt k) (nm_r (e' := nI (jo_it L s (2 ^ i0) (k + 1))) ?_ (nm_r (nI_1 k) (ih (k + 1) (by omega)))))
      rw [nx_and, nx_or]; rfl
  exact ⟨_, key 5 0 (by omega)⟩
/-- the sums that the class's loops over the parts look at -/
theorem jx_sum {s a : Nat} (hs : s < 32) (ha : a < s) (h1 : 1 ≤ a) (hp : jo_part a s = true) {x y : Nat} (hx : xc a = nI x) (hy : xc (s ^^^ a) = nI y) : xc (nI a).toNatClampNeg + xc (nI s ^^^ nI a).toNatClampNeg = nI (x + y) := by
  have := jb_pt s hs a ha h1 hp
  rw [nx_xor, nI_clamp (by omega), nI_clamp (by omega), hx, hy, nI_add]
theorem jx_vx {s a : Nat} (hs : s < 32) (ha : a < s) (h1 : 1 ≤ a) (hp : jo_part a s = true) : vp_in (nI s ^^^ nI a) 32 := by
  have := jb_pt s hs a ha h1 hp
  rw [nx_xor]; exact vp_in_nI (by omega) (by omega)
theorem jx_lcp {s : Nat} (h1 : 1 ≤ s) (hs : s < 32) {cc : Nat → Nat} (hc : ∀ a, a ∈ jo_ps s s → xc a = nI (cc a) ∧ xc (s ^^^ a) = nI (cc (s ^^^ a)) ∧ cc a + cc (s ^^^ a) < 2147483647) (hn : jo_ps s s ≠ []) {post : Int32 → Prop}
    (hp : ∀ m, (∃ a, a ∈ jo_ps s s ∧ cc a + cc (s ^^^ a) = m) → (∀ a, a ∈ jo_ps s s → m ≤ cc a + cc (s ^^^ a)) → post (nI m)) : wpX_leastCostOfParts post (xe, xs, xl, xc, xn) (nI s) := by
  have key : ∀ d a v, 1 ≤ a → a + d = s → v ≤ 2147483647 → ((v = 2147483647 ∧ jo_ps s a = []) ∨ ∃ b, b ∈ jo_ps s a ∧ cc b + cc (s ^^^ b) = v) → (∀ b, b ∈ jo_ps s a → v ≤ cc b + cc (s ^^^ b)) →
      wX_leastCostOfParts_5 post (nI s) xe xs xl xc xn (d + 1) (nI v) (nI a) := by
    intro d
    induction d with
    | zero =>
      intro a v a1 ad vM he hm
      obtain rfl : a = s := by omega
      refine br_t (nI_le (Nat.le_refl _) (by omega)) (hp v ?_ hm)
      rcases he with ⟨_, e⟩ | h
      · exact absurd e hn
      · exact h
    | succ d ih =>
      intro a v a1 ad vM he hm
      refine br_f (nI_ge (by omega) (by omega)) (jx_part (by omega) hs (fun pf => nm_r (nI_1 a) ?_) (fun pt => ?_))
      · exact ih (a + 1) v (by omega) (by omega) vM (by rw [jm_ps_f a1 pf]; exact he) (by rw [jm_ps_f a1 pf]; exact hm)
      · have hain : a ∈ jo_ps s s := (jm_ps s s a).mpr ⟨a1, by omega, pt⟩
        obtain ⟨c1, c2, c3⟩ := hc a hain
        have hsum := jx_sum hs (by omega) a1 pt c1 c2
        have v1 : vp_in (nI a) 32 := vp_in_nI (by omega) (by omega)
        have v2 := jx_vx hs (by omega) a1 pt
        have hmem : ∀ b, b ∈ jo_ps s (a + 1) ↔ b ∈ jo_ps s a ∨ b = a := by
          intro b; rw [jm_ps_t a1 pt, List.mem_append, List.mem_singleton]
        refine ⟨v1, v2, pk_le v (cc a + cc (s ^^^ a)) (fun hle => nm_r (nI_1 a) ?_) (fun hlt => ⟨v1, v2, nm_r hsum (nm_r (nI_1 a) ?_)⟩) rfl hsum (by omega) (by omega)⟩
        · refine ih (a + 1) v (by omega) (by omega) vM (Or.inr ?_) (fun b hb => ?_)
          · rcases he with ⟨e, _⟩ | ⟨b, hb, e⟩
            · omega
            · exact ⟨b, (hmem b).mpr (Or.inl hb), e⟩
          · rcases (hmem b).mp hb with hb | rfl
            · exact hm b hb
            · exact hle
        · refine ih (a + 1) _ (by omega) (by omega) (by omega) (Or.inr ⟨a, (hmem a).mpr (Or.inr rfl), rfl⟩) (fun b hb => ?_)
          rcases (hmem b).mp hb with hb | rfl
          · have := hm b hb; omega
          · exact Nat.le_refl _
  exact ⟨_, key (s - 1) 1 2147483647 (Nat.le_refl _) (by omega) (Nat.le_refl _) (Or.inl ⟨rfl, rfl⟩) (fun b hb => nomatch hb)⟩
theorem jx_upd {f g : Nat → Int32} {t : Nat} (H : ∀ a, 1 ≤ a → a < t → f a = g a) : ∀ a, 1 ≤ a → a < t + 1 → upd f t (g t) a = g a := by
  intro a a1 a2
  by_cases e : a = t
  · subst e; exact pk_us
  · rw [pk_un e]; exact H a a1 (by omega)
theorem jv_two {z : Nat → Nat} (hz : ∀ s, s < 32 → z s ≤ 64 ^ (jo_m s)) {s a : Nat} (h1 : 1 ≤ s) (h : s < 32) (ho : ¬ jo_one s = true) (ha : a ∈ jo_ps s s) {p q : List (Nat × Nat)} (hp : p ∈ jo_P a) (hq : q ∈ jo_P (s ^^^ a)) : jo_c z p + jo_c z q + z s ≤ 1090785280 := by
  have := jm_cb' hz h1 h ((jm_mem h1 h ho).mpr ⟨a, ha, p, hp, q, hq, rfl⟩)
  rwa [jm_c_join, jm_or h ha] at this
theorem jv_lv2 {z : Nat → Nat} (hz : ∀ s, s < 32 → z s ≤ 64 ^ (jo_m s)) {s a : Nat} (h1 : 1 ≤ s) (h : s < 32) (ho : ¬ jo_one s = true) (ha : a ∈ jo_ps s s) :
    (jo_Lst z a (jo_lv z a) ∧ jo_Lst z (s ^^^ a) (jo_lv z (s ^^^ a))) ∧ jo_lv z a + jo_lv z (s ^^^ a) + z s ≤ 1090785280 ∧ a < s ∧ 1 ≤ a ∧ s ^^^ a < s ∧ 1 ≤ s ^^^ a := by
  obtain ⟨a1, a2, a3⟩ := (jm_ps s s a).mp ha
  obtain ⟨b1, b2, b3, b4, b5⟩ := jb_pt s h a a2 a1 a3
  have l1 := jv_l (z := z) a1 (by omega : a < 32)
  have l2 := jv_l (z := z) b1 (by omega : s ^^^ a < 32)
  refine ⟨⟨l1, l2⟩, ?_, a2, a1, b2, b1⟩
  obtain ⟨⟨p, hp, e1⟩, _⟩ := l1
  obtain ⟨⟨q, hq, e2⟩, _⟩ := l2
  have := jv_two hz h1 h ho ha hp hq
  omega
theorem jx_lcpv (hE : ∀ i, i < 5 → E i ≤ 6) (hS : ∀ p, p < 25 → S p ≤ 6) {t : Nat} (t1 : 1 ≤ t) (ht : t < 32) (ho : ¬ jo_one t = true) (hc : ∀ a, 1 ≤ a → a < t → xc a = nI (jo_lv (jo_sz E S) a)) {post : Int32 → Prop}
    (hp : ∀ m, (∃ a, a ∈ jo_ps t t ∧ jo_lv (jo_sz E S) a + jo_lv (jo_sz E S) (t ^^^ a) = m) → (∀ a, a ∈ jo_ps t t → m ≤ jo_lv (jo_sz E S) a + jo_lv (jo_sz E S) (t ^^^ a)) → m + jo_sz E S t = jo_lv (jo_sz E S) t → post (nI m)) : wpX_leastCostOfParts post (xe, xs, xl, xc, xn) (nI t) := by
  have hz : ∀ s, s < 32 → jo_sz E S s ≤ 64 ^ (jo_m s) := fun s _ => js_sz hE hS s
  refine jx_lcp t1 ht (cc := jo_lv (jo_sz E S)) (fun a ha => ?_) (jv_psne t ht t1 (jx_bf ho)) (fun m he hm => hp m he hm ?_)
  · obtain ⟨_, b, a1, a2, a3, a4⟩ := jv_lv2 hz t1 ht ho ha
    exact ⟨hc a a2 a1, hc _ a4 a3, by omega⟩
  · exact (jv_lu t1 ht (jm_Lst_step t1 ht ho _ (fun a ha => (jv_lv2 hz t1 ht ho ha).1) he hm)).symm
theorem jx_fill (hE : ∀ i, i < 5 → E i ≤ 6) (hS : ∀ p, p < 25 → S p ≤ 6) (hXe : ∀ i, i < 5 → xe i = nI (E i)) (hX : ∀ p, p < 25 → xs p = nI (S p)) {s : Nat} (hs : s < 32) {post : SX → Prop}
    (hp : ∀ xc', (∀ a, 1 ≤ a → a < s + 1 → xc' a = nI (jo_lv (jo_sz E S) a)) → post (xe, xs, xl, xc', xn)) : wpX_fillLeastCosts post (xe, xs, xl, xc, xn) (nI s) := by
  have key : ∀ d t xc, 1 ≤ t → t + d = s + 1 → (∀ a, 1 ≤ a → a < t → xc a = nI (jo_lv (jo_sz E S) a)) → wX_fillLeastCosts_2 post (nI s) (d + 1) (nI t) xe xs xl xc xn := by
    intro d
    induction d with
    | zero =>
      intro t xc t1 td hc
      obtain rfl : t = s + 1 := by omega
      exact br_t (nI_lt (by omega) (by omega)) (hp xc hc)
    | succ d ih =>
      intro t xc t1 td hc
      have v1 : vp_in (nI t) 32 := vp_in_nI (by omega) (by omega)
      refine br_f (nI_nlt (by omega) (by omega)) (jx_one (by omega) (fun ho => ?_) (fun ho => ?_))
      · refine jx_lcpv hE hS t1 (by omega) ho hc (fun m _ _ e => jx_sizeOf hE hS hXe hX (by omega) ⟨v1, nm_r (e' := upd xc t (nI (jo_lv (jo_sz E S) t))) ?_ (nm_r (nI_1 t) (ih (t + 1) _ (by omega) (by omega) (jx_upd hc)))⟩)
        rw [nI_clamp (by omega), nI_add, e]
      · refine ⟨v1, nm_r (e' := upd xc t (nI (jo_lv (jo_sz E S) t))) ?_ (nm_r (nI_1 t) (ih (t + 1) _ (by omega) (by omega) (jx_upd hc)))⟩
        rw [nI_clamp (by omega), jv_lu t1 (by omega) (jm_Lst_one ho)]; rfl
  exact ⟨_, key s 1 xc (Nat.le_refl _) (by omega) (fun a a1 a2 => by omega)⟩
theorem jv_gv2 {z : Nat → Nat} (hz : ∀ s, s < 32 → z s ≤ 64 ^ (jo_m s)) {s a : Nat} (h1 : 1 ≤ s) (h : s < 32) (ho : ¬ jo_one s = true) (ha : a ∈ jo_ps s s) :
    (jo_Grt z a (jo_gv z a) ∧ jo_Grt z (s ^^^ a) (jo_gv z (s ^^^ a))) ∧ jo_gv z a + jo_gv z (s ^^^ a) + z s ≤ 1090785280 ∧ a < s ∧ 1 ≤ a ∧ s ^^^ a < s ∧ 1 ≤ s ^^^ a := by
  obtain ⟨a1, a2, a3⟩ := (jm_ps s s a).mp ha
  obtain ⟨b1, b2, b3, b4, b5⟩ := jb_pt s h a a2 a1 a3
  have l1 := jv_g (z := z) a1 (by omega : a < 32)
  have l2 := jv_g (z := z) b1 (by omega : s ^^^ a < 32)
  refine ⟨⟨l1, l2⟩, ?_, a2, a1, b2, b1⟩
  obtain ⟨⟨p, hp, e1⟩, _⟩ := l1
  obtain ⟨⟨q, hq, e2⟩, _⟩ := l2
  have := jv_two hz h1 h ho ha hp hq
  omega
theorem jx_gcp (hE : ∀ i, i < 5 → E i ≤ 6) (hS : ∀ p, p < 25 → S p ≤ 6) (hXe : ∀ i, i < 5 → xe i = nI (E i)) (hX : ∀ p, p < 25 → xs p = nI (S p)) {s : Nat} (h1 : 1 ≤ s) (hs : s < 32) (ho : ¬ jo_one s = true) (hc : ∀ a, 1 ≤ a → a < s → xc a = nI (jo_gv (jo_sz E S) a)) {post : Int32 → Prop}
    (hp : post (nI (jo_gv (jo_sz E S) s))) : wpX_greatestCost post (xe, xs, xl, xc, xn) (nI s) := by
  have hz : ∀ s, s < 32 → jo_sz E S s ≤ 64 ^ (jo_m s) := fun s _ => js_sz hE hS s
  have hn := jv_psne s hs h1 (jx_bf ho)
  have key : ∀ d a v, 1 ≤ a → a + d = s → v ≤ 1090785280 → ((v = 0 ∧ jo_ps s a = []) ∨ ∃ b, b ∈ jo_ps s a ∧ jo_gv (jo_sz E S) b + jo_gv (jo_sz E S) (s ^^^ b) = v) → (∀ b, b ∈ jo_ps s a → jo_gv (jo_sz E S) b + jo_gv (jo_sz E S) (s ^^^ b) ≤ v) →
      wX_greatestCost_4 post (nI s) xe xs xl xc xn (d + 1) (nI v) (nI a) := by
    intro d
    induction d with
    | zero =>
      intro a v a1 ad vM he hm
      obtain rfl : a = s := by omega
      refine br_t (nI_le (Nat.le_refl _) (by omega)) (jx_sizeOf hE hS hXe hX hs ?_)
      have he' : ∃ b, b ∈ jo_ps a a ∧ jo_gv (jo_sz E S) b + jo_gv (jo_sz E S) (a ^^^ b) = v := by
        rcases he with ⟨_, e⟩ | h
        · exact absurd e hn
        · exact h
      rw [nI_add, ← jv_gu h1 hs (jm_Grt_step h1 hs ho _ (fun a ha => (jv_gv2 hz h1 hs ho ha).1) he' hm)]
      exact hp
    | succ d ih =>
      intro a v a1 ad vM he hm
      refine br_f (nI_ge (by omega) (by omega)) (jx_part (by omega) hs (fun pf => nm_r (nI_1 a) ?_) (fun pt => ?_))
      · exact ih (a + 1) v (by omega) (by omega) vM (by rw [jm_ps_f a1 pf]; exact he) (by rw [jm_ps_f a1 pf]; exact hm)
      · have hain : a ∈ jo_ps s s := (jm_ps s s a).mpr ⟨a1, by omega, pt⟩
        obtain ⟨_, c0, c1, c2, c3, c4⟩ := jv_gv2 hz h1 hs ho hain
        have hsum := jx_sum hs (by omega) a1 pt (hc a c2 c1) (hc _ c4 c3)
        have v1 : vp_in (nI a) 32 := vp_in_nI (by omega) (by omega)
        have v2 := jx_vx hs (by omega) a1 pt
        have hmem : ∀ b, b ∈ jo_ps s (a + 1) ↔ b ∈ jo_ps s a ∨ b = a := by
          intro b; rw [jm_ps_t a1 pt, List.mem_append, List.mem_singleton]
        refine ⟨v1, v2, pk_le (jo_gv (jo_sz E S) a + jo_gv (jo_sz E S) (s ^^^ a)) v (fun hle => nm_r (nI_1 a) ?_) (fun hlt => ⟨v1, v2, nm_r hsum (nm_r (nI_1 a) ?_)⟩) hsum rfl (by omega) (by omega)⟩
        · refine ih (a + 1) v (by omega) (by omega) vM (Or.inr ?_) (fun b hb => ?_)
          · rcases he with ⟨e, _⟩ | ⟨b, hb, e⟩
            · exact ⟨a, (hmem a).mpr (Or.inr rfl), by omega⟩
            · exact ⟨b, (hmem b).mpr (Or.inl hb), e⟩
          · rcases (hmem b).mp hb with hb | rfl
            · exact hm b hb
            · exact hle
        · refine ih (a + 1) _ (by omega) (by omega) (by omega) (Or.inr ⟨a, (hmem a).mpr (Or.inr rfl), rfl⟩) (fun b hb => ?_)
          rcases (hmem b).mp hb with hb | rfl
          · have := hm b hb; omega
          · exact Nat.le_refl _
  exact ⟨_, key (s - 1) 1 0 (Nat.le_refl _) (by omega) (by omega) (Or.inl ⟨rfl, rfl⟩) (fun b hb => nomatch hb)⟩
theorem jx_worst (hE : ∀ i, i < 5 → E i ≤ 6) (hS : ∀ p, p < 25 → S p ≤ 6) (hXe : ∀ i, i < 5 → xe i = nI (E i)) (hX : ∀ p, p < 25 → xs p = nI (S p)) {s : Nat} (h1 : 1 ≤ s) (hs : s < 32) {post : Int32 → SX → Prop}
    (hp : ∀ xc', post (nI (jo_gv (jo_sz E S) s)) (xe, xs, xl, xc', xn)) : ∃ n, wX_worst_11 post (nI s) n 1 xe xs xl xc xn := by
  have key : ∀ d t xc, 1 ≤ t → t + d = s + 1 → (∀ a, 1 ≤ a → a < t → xc a = nI (jo_gv (jo_sz E S) a)) → wX_worst_11 post (nI s) (d + 1) (nI t) xe xs xl xc xn := by
    intro d
    induction d with
    | zero =>
      intro t xc t1 td hc
      obtain rfl : t = s + 1 := by omega
      refine br_t (nI_lt (by omega) (by omega)) ⟨vp_in_nI (by omega) (by omega), ?_⟩
      rw [nI_clamp (by omega), hc s h1 (by omega)]
      exact hp xc
    | succ d ih =>
      intro t xc t1 td hc
      have v1 : vp_in (nI t) 32 := vp_in_nI (by omega) (by omega)
      refine br_f (nI_nlt (by omega) (by omega)) (jx_one (by omega) (fun ho => ?_) (fun ho => ?_))
      · refine jx_gcp hE hS hXe hX t1 (by omega) ho hc ⟨v1, nm_r (e' := upd xc t (nI (jo_gv (jo_sz E S) t))) ?_ (nm_r (nI_1 t) (ih (t + 1) _ (by omega) (by omega) (jx_upd hc)))⟩
        rw [nI_clamp (by omega)]
      · refine ⟨v1, nm_r (e' := upd xc t (nI (jo_gv (jo_sz E S) t))) ?_ (nm_r (nI_1 t) (ih (t + 1) _ (by omega) (by omega) (jx_upd hc)))⟩
        rw [nI_clamp (by omega), jv_gu t1 (by omega) (jm_Grt_one ho)]; rfl
  exact ⟨_, key s 1 xc (Nat.le_refl _) (by omega) (fun a a1 a2 => by omega)⟩
end
end
section
/-! the class: the least linked cost, the counts -/
def jo_ki : Option Nat → Int32
  | none => -4
  | some v => nI v
theorem jx_n4 {x : Nat} (h : x < 2 ^ 31) : ¬ nI x = -4 := by
  intro e
  have := congrArg Int32.toInt e
  rw [nI_toInt h, show (-4 : Int32).toInt = -4 from by decide] at this
  omega
section
variable {xe xs xl xc xn : Nat → Int32} {E S L : Nat → Nat} {K : Nat → Bool}
theorem jv_kv2 {z : Nat → Nat} {lk : Nat → Nat → Bool} (hz : ∀ s, s < 32 → z s ≤ 64 ^ (jo_m s)) {s a : Nat} (h1 : 1 ≤ s) (h : s < 32) (ho : ¬ jo_one s = true) (ha : a ∈ jo_ps s s) :
    (jo_LsL z lk a (jo_kv z lk a) ∧ jo_LsL z lk (s ^^^ a) (jo_kv z lk (s ^^^ a))) ∧ (∀ x y, jo_kv z lk a = some x → jo_kv z lk (s ^^^ a) = some y → x + y + z s ≤ 1090785280) ∧ (∀ x, jo_kv z lk a = some x → x ≤ 1090785280) ∧ (∀ y, jo_kv z lk (s ^^^ a) = some y → y ≤ 1090785280) ∧ a < s ∧ 1 ≤ a ∧ s ^^^ a < s ∧ 1 ≤ s ^^^ a := by
  obtain ⟨a1, a2, a3⟩ := (jm_ps s s a).mp ha
  obtain ⟨b1, b2, b3, b4, b5⟩ := jb_pt s h a a2 a1 a3
  have l1 := jv_k (z := z) (lk := lk) a1 (by omega : a < 32)
  have l2 := jv_k (z := z) (lk := lk) b1 (by omega : s ^^^ a < 32)
  refine ⟨⟨l1, l2⟩, fun x y ex ey => ?_, fun x ex => ?_, fun y ey => ?_, a2, a1, b2, b1⟩
  · obtain ⟨⟨p, hp, _, e1⟩, _⟩ := l1.2 x ex
    obtain ⟨⟨q, hq, _, e2⟩, _⟩ := l2.2 y ey
    have := jv_two hz h1 h ho ha hp hq
    omega
  · obtain ⟨⟨p, hp, _, e1⟩, _⟩ := l1.2 x ex
    rw [← e1]; exact jm_cb' hz a1 (by omega) hp
  · obtain ⟨⟨p, hp, _, e1⟩, _⟩ := l2.2 y ey
    rw [← e1]; exact jm_cb' hz b1 (by omega) hp
theorem jx_llc (hE : ∀ i, i < 5 → E i ≤ 6) (hS : ∀ p, p < 25 → S p ≤ 6) (hXe : ∀ i, i < 5 → xe i = nI (E i)) (hX : ∀ p, p < 25 → xs p = nI (S p)) (hXl : ∀ i, i < 5 → xl i = nI (L i)) (hL : jo_Lk K L) {s : Nat} (h1 : 1 ≤ s) (hs : s < 32) (ho : ¬ jo_one s = true)
    (hc : ∀ a, 1 ≤ a → a < s → xc a = jo_ki (jo_kv (jo_sz E S) (jo_lk K) a)) {post : Int32 → Prop} (hp : post (jo_ki (jo_kv (jo_sz E S) (jo_lk K) s))) : wpX_leastLinkedCost post (xe, xs, xl, xc, xn) (nI s) := by
  have hz : ∀ s, s < 32 → jo_sz E S s ≤ 64 ^ (jo_m s) := fun s _ => js_sz hE hS s
  have key : ∀ d a v, 1 ≤ a → a + d = s → v ≤ 2147483647 →
      (v = 2147483647 ∨ ∃ b x y, b ∈ jo_ps s a ∧ jo_kv (jo_sz E S) (jo_lk K) b = some x ∧ jo_kv (jo_sz E S) (jo_lk K) (s ^^^ b) = some y ∧ jo_lk K b (s ^^^ b) = true ∧ x + y = v) →
      (∀ b x y, b ∈ jo_ps s a → jo_kv (jo_sz E S) (jo_lk K) b = some x → jo_kv (jo_sz E S) (jo_lk K) (s ^^^ b) = some y → jo_lk K b (s ^^^ b) = true → v ≤ x + y) →
      wX_leastLinkedCost_5 post (nI s) xe xs xl xc xn (d + 1) (nI v) (nI a) := by
    intro d
    induction d with
    | zero =>
      intro a v a1 ad vM he hm
      obtain rfl : a = s := by omega
      refine br_t (nI_le (Nat.le_refl _) (by omega)) (pk_eq v 2147483647 (fun e => ?_) (fun e => jx_sizeOf hE hS hXe hX hs ?_) rfl rfl (by omega) (by omega))
      · have : jo_kv (jo_sz E S) (jo_lk K) a = none := jv_ku h1 hs (jm_LsL_none h1 hs ho _ (fun b hb => (jv_kv2 hz h1 hs ho hb).1) fun b hb => by
          obtain ⟨_, k1, _⟩ := jv_kv2 (lk := jo_lk K) hz h1 hs ho hb
          cases ex : jo_kv (jo_sz E S) (jo_lk K) b with
          | none => exact Or.inl rfl
          | some x =>
            cases ey : jo_kv (jo_sz E S) (jo_lk K) (a ^^^ b) with
            | none => exact Or.inr (Or.inl rfl)
            | some y =>
              refine Or.inr (Or.inr (jx_bf fun hl => ?_))
              have := hm b x y hb ex ey hl
              have := k1 x y ex ey
              omega)
        rw [this] at hp
        exact hp
      · have : jo_kv (jo_sz E S) (jo_lk K) a = some (v + jo_sz E S a) := jv_ku h1 hs (jm_LsL_some h1 hs ho _ (fun b hb => (jv_kv2 hz h1 hs ho hb).1) (by
          rcases he with q | h
          · exact absurd q e
          · exact h) hm)
        rw [this] at hp
        rw [nI_add]
        exact hp
    | succ d ih =>
      intro a v a1 ad vM he hm
      refine br_f (nI_ge (by omega) (by omega)) (nm_r (nx_xor s a) (jx_part (by omega) hs (fun pf => nm_r (nI_1 a) ?_) (fun pt => ?_)))
      · exact ih (a + 1) v (by omega) (by omega) vM (by rw [jm_ps_f a1 pf]; exact he) (by rw [jm_ps_f a1 pf]; exact hm)
      · have hain : a ∈ jo_ps s s := (jm_ps s s a).mpr ⟨a1, by omega, pt⟩
        obtain ⟨_, k1, k2, k3, c1, c2, c3, c4⟩ := jv_kv2 (lk := jo_lk K) hz h1 hs ho hain
        have v1 : vp_in (nI a) 32 := vp_in_nI (by omega) (by omega)
        have v2 : vp_in (nI (s ^^^ a)) 32 := vp_in_nI (by omega) (by omega)
        have hmem : ∀ b, b ∈ jo_ps s (a + 1) ↔ b ∈ jo_ps s a ∨ b = a := by
          intro b; rw [jm_ps_t a1 pt, List.mem_append, List.mem_singleton]
        have q1 : xc (nI a).toNatClampNeg = jo_ki (jo_kv (jo_sz E S) (jo_lk K) a) := by rw [nI_clamp (by omega)]; exact hc a c2 c1
        have q2 : xc (nI (s ^^^ a)).toNatClampNeg = jo_ki (jo_kv (jo_sz E S) (jo_lk K) (s ^^^ a)) := by rw [nI_clamp (by omega)]; exact hc _ c4 c3
        have keep : (jo_kv (jo_sz E S) (jo_lk K) a = none ∨ jo_kv (jo_sz E S) (jo_lk K) (s ^^^ a) = none ∨ jo_lk K a (s ^^^ a) = false) → wX_leastLinkedCost_5 post (nI s) xe xs xl xc xn (d + 1) (nI v) (nI (a + 1)) := by
          intro hno
          refine ih (a + 1) v (by omega) (by omega) vM ?_ (fun b x y hb ex ey hl => ?_)
          · rcases he with e | ⟨b, x, y, hb, r⟩
            · exact Or.inl e
            · exact Or.inr ⟨b, x, y, (hmem b).mpr (Or.inl hb), r⟩
          · rcases (hmem b).mp hb with hb | rfl
            · exact hm b x y hb ex ey hl
            · rcases hno with e | e | e
              · rw [e] at ex; exact nomatch ex
              · rw [e] at ey; exact nomatch ey
              · rw [e] at hl; exact nomatch hl
        refine ⟨v1, ?_⟩
        rw [q1, q2]
        cases ex : jo_kv (jo_sz E S) (jo_lk K) a with
        | none => exact br_t rfl (nm_r (nI_1 a) (keep (Or.inl ex)))
        | some x =>
          have kx := k2 x ex
          refine br_f (jx_n4 (by omega)) ⟨v2, ?_⟩
          cases ey : jo_kv (jo_sz E S) (jo_lk K) (s ^^^ a) with
          | none => exact br_t rfl (nm_r (nI_1 a) (keep (Or.inr (Or.inl ey))))
          | some y =>
            have ky := k3 y ey
            have kxy := k1 x y ex ey
            refine br_f (jx_n4 (by omega)) (jx_are hXl hL (by omega) (by omega) (fun hl => nm_r (nI_1 a) (keep (Or.inr (Or.inr hl)))) (fun hl => ⟨v1, v2, ?_⟩))
            refine pk_le v (x + y) (fun hle => nm_r (nI_1 a) ?_) (fun hlt => ⟨v1, v2, nm_r (nI_add x y) (nm_r (nI_1 a) ?_)⟩) rfl (nI_add x y) (by omega) (by omega)
            · refine ih (a + 1) v (by omega) (by omega) vM ?_ (fun b x' y' hb ex' ey' hl' => ?_)
              · rcases he with e | ⟨b, x', y', hb, r⟩
                · exact Or.inl e
                · exact Or.inr ⟨b, x', y', (hmem b).mpr (Or.inl hb), r⟩
              · rcases (hmem b).mp hb with hb | rfl
                · exact hm b x' y' hb ex' ey' hl'
                · rw [ex] at ex'; rw [ey] at ey'; cases ex'; cases ey'; exact hle
            · refine ih (a + 1) _ (by omega) (by omega) (by omega) (Or.inr ⟨a, x, y, (hmem a).mpr (Or.inr rfl), ex, ey, hl, rfl⟩) (fun b x' y' hb ex' ey' hl' => ?_)
              rcases (hmem b).mp hb with hb | rfl
              · have := hm b x' y' hb ex' ey' hl'; omega
              · rw [ex] at ex'; rw [ey] at ey'; cases ex'; cases ey'; exact Nat.le_refl _
  exact ⟨_, key (s - 1) 1 2147483647 (Nat.le_refl _) (by omega) (Nat.le_refl _) (Or.inl rfl) (fun b _ _ hb => nomatch hb)⟩
theorem jx_linkedCost (hE : ∀ i, i < 5 → E i ≤ 6) (hS : ∀ p, p < 25 → S p ≤ 6) (hXe : ∀ i, i < 5 → xe i = nI (E i)) (hX : ∀ p, p < 25 → xs p = nI (S p)) (hXl : ∀ i, i < 5 → xl i = nI (L i)) (hL : jo_Lk K L) {s : Nat} (h1 : 1 ≤ s) (hs : s < 32) {post : Int32 → SX → Prop}
    (hp : ∀ xc', post (jo_ki (jo_kv (jo_sz E S) (jo_lk K) s)) (xe, xs, xl, xc', xn)) : ∃ n, wX_linkedCost_11 post (nI s) n 1 xe xs xl xc xn := by
  have key : ∀ d t xc, 1 ≤ t → t + d = s + 1 → (∀ a, 1 ≤ a → a < t → xc a = jo_ki (jo_kv (jo_sz E S) (jo_lk K) a)) → wX_linkedCost_11 post (nI s) (d + 1) (nI t) xe xs xl xc xn := by
    intro d
    induction d with
    | zero =>
      intro t xc t1 td hc
      obtain rfl : t = s + 1 := by omega
      refine br_t (nI_lt (by omega) (by omega)) ⟨vp_in_nI (by omega) (by omega), ?_⟩
      rw [nI_clamp (by omega), hc s h1 (by omega)]
      exact hp xc
    | succ d ih =>
      intro t xc t1 td hc
      have v1 : vp_in (nI t) 32 := vp_in_nI (by omega) (by omega)
      refine br_f (nI_nlt (by omega) (by omega)) (jx_one (by omega) (fun ho => ?_) (fun ho => ?_))
      · refine jx_llc hE hS hXe hX hXl hL t1 (by omega) ho hc ⟨v1, nm_r (e' := upd xc t (jo_ki (jo_kv (jo_sz E S) (jo_lk K) t))) ?_ (nm_r (nI_1 t) (ih (t + 1) _ (by omega) (by omega) (jx_upd hc)))⟩
        rw [nI_clamp (by omega)]
      · refine ⟨v1, nm_r (e' := upd xc t (jo_ki (jo_kv (jo_sz E S) (jo_lk K) t))) ?_ (nm_r (nI_1 t) (ih (t + 1) _ (by omega) (by omega) (jx_upd hc)))⟩
        rw [nI_clamp (by omega), jv_ku t1 (by omega) (jm_LsL_one ho)]; rfl
  exact ⟨_, key s 1 xc (Nat.le_refl _) (by omega) (fun a a1 a2 => by omega)⟩
/-! counts -/
theorem jx_sumt {F : Nat → Nat} {s a : Nat} (a1 : 1 ≤ a) (pt : jo_part a s = true) : ((jo_ps s (a + 1)).map F).sum = ((jo_ps s a).map F).sum + F a := by
  rw [jm_ps_t a1 pt, List.map_append, List.sum_append]; simp
theorem jx_cp (hXl : ∀ i, i < 5 → xl i = nI (L i)) (hL : jo_Lk K L) {x2 : Int32} {e : Nat → Nat → Bool} (hx : (x2 = 0 ∧ ∀ a b, e a b = true) ∨ (x2 = 1 ∧ e = jo_lk K)) {s : Nat} (h1 : 1 ≤ s) (hs : s < 32) {g : Nat → Nat} (hc : ∀ a, 1 ≤ a → a < s → xn a = nI (g a)) {post : Int32 → Prop}
    (hp : post (nI ((jo_ps s s).map fun a => if e a (s ^^^ a) = true then g a * g (s ^^^ a) else 0).sum)) : wpX_countPairs post (xe, xs, xl, xc, xn) (nI s) x2 := by
  have key : ∀ d a, 1 ≤ a → a + d = s → wX_countPairs_5 post (nI s) x2 xe xs xl xc xn (d + 1) (nI ((jo_ps s a).map fun a => if e a (s ^^^ a) = true then g a * g (s ^^^ a) else 0).sum) (nI a) := by
    intro d
    induction d with
    | zero =>
      intro a a1 ad
      obtain rfl : a = s := by omega
      exact br_t (nI_le (Nat.le_refl _) (by omega)) hp
    | succ d ih =>
      intro a a1 ad
      have hi := ih (a + 1) (by omega) (by omega)
      refine br_f (nI_ge (by omega) (by omega)) (nm_r (nx_xor s a) (jx_part (by omega) hs (fun pf => nm_r (nI_1 a) ?_) (fun pt => ?_)))
      · rw [jm_ps_f a1 pf] at hi
        exact hi
      · obtain ⟨b1, b2, b3, b4, b5⟩ := jb_pt s hs a (by omega) a1 pt
        have v1 : vp_in (nI a) 32 := vp_in_nI (by omega) (by omega)
        have v2 : vp_in (nI (s ^^^ a)) 32 := vp_in_nI (by omega) (by omega)
        rw [jx_sumt a1 pt] at hi
        have add : e a (s ^^^ a) = true → wX_countPairs_41 post (wX_countPairs_5 post (nI s) x2 xe xs xl xc xn (d + 1)) (nI s) x2 (nI ((jo_ps s a).map fun a => if e a (s ^^^ a) = true then g a * g (s ^^^ a) else 0).sum) (nI a) (nI (s ^^^ a)) xe xs xl xc xn := by
          intro he
          rw [if_pos he] at hi
          refine ⟨v1, v2, nm_r (e' := nI (((jo_ps s a).map fun a => if e a (s ^^^ a) = true then g a * g (s ^^^ a) else 0).sum + g a * g (s ^^^ a))) ?_ (nm_r (nI_1 a) hi)⟩
          rw [nI_clamp (by omega), nI_clamp (by omega), hc a a1 (by omega), hc _ b1 b2, pk_mul, nI_add]
        rcases hx with ⟨e2, he⟩ | ⟨e2, he⟩
        · exact br_t e2 (add (he _ _))
        · subst e2
          refine br_f (by decide) (jx_are hXl hL (by omega) (by omega) (fun hl => nm_r (nI_1 a) ?_) (fun hl => add (by rw [he]; exact hl)))
          rw [if_neg (by rw [he, hl]; decide)] at hi
          exact hi
  exact ⟨_, key (s - 1) 1 (Nat.le_refl _) (by omega)⟩
theorem jx_countPlans (hXl : ∀ i, i < 5 → xl i = nI (L i)) (hL : jo_Lk K L) {x2 : Int32} {e : Nat → Nat → Bool} (hx : (x2 = 0 ∧ ∀ a b, e a b = true) ∨ (x2 = 1 ∧ e = jo_lk K)) {g : Nat → Nat} (g1 : ∀ t, jo_one t = true → g t = 1)
    (g2 : ∀ t, 1 ≤ t → t < 32 → ¬ jo_one t = true → g t = ((jo_ps t t).map fun a => if e a (t ^^^ a) = true then g a * g (t ^^^ a) else 0).sum) {s : Nat} (h1 : 1 ≤ s) (hs : s < 32) {post : Int32 → SX → Prop}
    (hp : ∀ xn', post (nI (g s)) (xe, xs, xl, xc, xn')) : wpX_countPlans post (xe, xs, xl, xc, xn) (nI s) x2 := by
  have key : ∀ d t xn, 1 ≤ t → t + d = s + 1 → (∀ a, 1 ≤ a → a < t → xn a = nI (g a)) → wX_countPlans_2 post (nI s) x2 (d + 1) (nI t) xe xs xl xc xn := by
    intro d
    induction d with
    | zero =>
      intro t xn t1 td hc
      obtain rfl : t = s + 1 := by omega
      refine br_t (nI_lt (by omega) (by omega)) ⟨vp_in_nI (by omega) (by omega), ?_⟩
      rw [nI_clamp (by omega), hc s h1 (by omega)]
      exact hp xn
    | succ d ih =>
      intro t xn t1 td hc
      have v1 : vp_in (nI t) 32 := vp_in_nI (by omega) (by omega)
      refine br_f (nI_nlt (by omega) (by omega)) (jx_one (by omega) (fun ho => ?_) (fun ho => ?_))
      · refine jx_cp hXl hL hx t1 (by omega) hc ⟨v1, nm_r (e' := upd xn t (nI (g t))) ?_ (nm_r (nI_1 t) (ih (t + 1) _ (by omega) (by omega) (jx_upd hc)))⟩
        rw [nI_clamp (by omega), ← g2 t t1 (by omega) ho]
      · refine ⟨v1, nm_r (e' := upd xn t (nI (g t))) ?_ (nm_r (nI_1 t) (ih (t + 1) _ (by omega) (by omega) (jx_upd hc)))⟩
        rw [nI_clamp (by omega), g1 t ho]; rfl
  exact ⟨_, key s 1 xn (Nat.le_refl _) (by omega) (fun a a1 a2 => by omega)⟩
/-- how many plans have the least cost -/
noncomputable def jo_ch (z : Nat → Nat) (s : Nat) : Nat := (jo_P s).countP (fun p => jo_c z p == jo_lv z s)
theorem jx_ch1 {z : Nat → Nat} {t : Nat} (t1 : 1 ≤ t) (ht : t < 32) (ho : jo_one t = true) : jo_ch z t = 1 := by
  unfold jo_ch
  rw [jm_P_one ho, jv_lu t1 ht (jm_Lst_one ho)]; rfl
theorem jx_cc (hE : ∀ i, i < 5 → E i ≤ 6) (hS : ∀ p, p < 25 → S p ≤ 6) {s : Nat} (h1 : 1 ≤ s) (hs : s < 32) (ho : ¬ jo_one s = true) (hv : ∀ a, 1 ≤ a → a < s → xc a = nI (jo_lv (jo_sz E S) a)) (hc : ∀ a, 1 ≤ a → a < s → xn a = nI (jo_ch (jo_sz E S) a)) {post : Int32 → Prop}
    (hp : post (nI (jo_ch (jo_sz E S) s))) : wpX_countCheapest post (xe, xs, xl, xc, xn) (nI s) := by
  have hz : ∀ s, s < 32 → jo_sz E S s ≤ 64 ^ (jo_m s) := fun s _ => js_sz hE hS s
  unfold wpX_countCheapest
  refine jx_lcpv hE hS h1 hs ho hv (fun m he hm em => ?_)
  have eF : jo_ch (jo_sz E S) s = ((jo_ps s s).map fun a => if jo_lv (jo_sz E S) a + jo_lv (jo_sz E S) (s ^^^ a) = m then jo_ch (jo_sz E S) a * jo_ch (jo_sz E S) (s ^^^ a) else 0).sum := by
    have := jm_cnt_ch h1 hs ho _ (fun a ha => (jv_lv2 hz h1 hs ho ha).1) hm
    rw [em] at this
    exact this
  have mM : m ≤ 1090785280 := by
    obtain ⟨b, hb, e⟩ := he
    obtain ⟨_, q, _⟩ := jv_lv2 hz h1 hs ho hb
    omega
  have key : ∀ d a, 1 ≤ a → a + d = s → wX_countCheapest_11 post (nI s) (nI m) xe xs xl xc xn (d + 1) (nI ((jo_ps s a).map fun a => if jo_lv (jo_sz E S) a + jo_lv (jo_sz E S) (s ^^^ a) = m then jo_ch (jo_sz E S) a * jo_ch (jo_sz E S) (s ^^^ a) else 0).sum) (nI a) := by
    intro d
    induction d with
    | zero =>
      intro a a1 ad
      obtain rfl : a = s := by omega
      refine br_t (nI_le (Nat.le_refl _) (by omega)) ?_
      rw [← eF]; exact hp
    | succ d ih =>
      intro a a1 ad
      have hi := ih (a + 1) (by omega) (by omega)
      refine br_f (nI_ge (by omega) (by omega)) (nm_r (nx_xor s a) (jx_part (by omega) hs (fun pf => nm_r (nI_1 a) ?_) (fun pt => ?_)))
      · rw [jm_ps_f a1 pf] at hi
        exact hi
      · obtain ⟨b1, b2, b3, b4, b5⟩ := jb_pt s hs a (by omega) a1 pt
        have v1 : vp_in (nI a) 32 := vp_in_nI (by omega) (by omega)
        have v2 : vp_in (nI (s ^^^ a)) 32 := vp_in_nI (by omega) (by omega)
        obtain ⟨_, q, _⟩ := jv_lv2 hz h1 hs ho ((jm_ps s s a).mpr ⟨a1, by omega, pt⟩)
        rw [jx_sumt a1 pt] at hi
        have hsum : xc (nI a).toNatClampNeg + xc (nI (s ^^^ a)).toNatClampNeg = nI (jo_lv (jo_sz E S) a + jo_lv (jo_sz E S) (s ^^^ a)) := by
          rw [nI_clamp (by omega), nI_clamp (by omega), hv a a1 (by omega), hv _ b1 b2, nI_add]
        refine ⟨v1, v2, pk_eq (jo_lv (jo_sz E S) a + jo_lv (jo_sz E S) (s ^^^ a)) m (fun hq => ⟨v1, v2, ?_⟩) (fun hq => nm_r (nI_1 a) ?_) hsum rfl (by omega) (by omega)⟩
        · rw [if_pos hq] at hi
          refine nm_r (e' := nI (((jo_ps s a).map fun a => if jo_lv (jo_sz E S) a + jo_lv (jo_sz E S) (s ^^^ a) = m then jo_ch (jo_sz E S) a * jo_ch (jo_sz E S) (s ^^^ a) else 0).sum + jo_ch (jo_sz E S) a * jo_ch (jo_sz E S) (s ^^^ a))) ?_ (nm_r (nI_1 a) hi)
          rw [nI_clamp (by omega), nI_clamp (by omega), hc a a1 (by omega), hc _ b1 b2, pk_mul, nI_add]
        · rw [if_neg hq] at hi
          exact hi
  exact ⟨_, key (s - 1) 1 (Nat.le_refl _) (by omega)⟩
theorem jx_cheapest (hE : ∀ i, i < 5 → E i ≤ 6) (hS : ∀ p, p < 25 → S p ≤ 6) {s : Nat} (h1 : 1 ≤ s) (hs : s < 32) (hv : ∀ a, 1 ≤ a → a < s + 1 → xc a = nI (jo_lv (jo_sz E S) a)) {post : Int32 → SX → Prop}
    (hp : ∀ xn', post (nI (jo_ch (jo_sz E S) s)) (xe, xs, xl, xc, xn')) : ∃ n, wX_cheapest_16 post (nI s) n 1 xe xs xl xc xn := by
  have key : ∀ d t xn, 1 ≤ t → t + d = s + 1 → (∀ a, 1 ≤ a → a < t → xn a = nI (jo_ch (jo_sz E S) a)) → wX_cheapest_16 post (nI s) (d + 1) (nI t) xe xs xl xc xn := by
    intro d
    induction d with
    | zero =>
      intro t xn t1 td hc
      obtain rfl : t = s + 1 := by omega
      refine br_t (nI_lt (by omega) (by omega)) ⟨vp_in_nI (by omega) (by omega), ?_⟩
      rw [nI_clamp (by omega), hc s h1 (by omega)]
      exact hp xn
    | succ d ih =>
      intro t xn t1 td hc
      have v1 : vp_in (nI t) 32 := vp_in_nI (by omega) (by omega)
      refine br_f (nI_nlt (by omega) (by omega)) (jx_one (by omega) (fun ho => ?_) (fun ho => ?_))
      · refine jx_cc hE hS t1 (by omega) ho (fun a a1 a2 => hv a a1 (by omega)) hc ⟨v1, nm_r (e' := upd xn t (nI (jo_ch (jo_sz E S) t))) ?_ (nm_r (nI_1 t) (ih (t + 1) _ (by omega) (by omega) (jx_upd hc)))⟩
        rw [nI_clamp (by omega)]
      · refine ⟨v1, nm_r (e' := upd xn t (nI (jo_ch (jo_sz E S) t))) ?_ (nm_r (nI_1 t) (ih (t + 1) _ (by omega) (by omega) (jx_upd hc)))⟩
        rw [nI_clamp (by omega), jx_ch1 t1 (by omega) ho]; rfl
  exact ⟨_, key s 1 xn (Nat.le_refl _) (by omega) (fun a a1 a2 => by omega)⟩
end
end
section
/-! the class: left, the linear plans -/
/-- the least left set of a plan of the least cost -/
def jo_LF (z : Nat → Nat) (s a : Nat) : Prop := a ∈ jo_ps s s ∧ jo_lv z a + jo_lv z (s ^^^ a) + z s = jo_lv z s ∧ ∀ b, b ∈ jo_ps s s → b < a → jo_lv z b + jo_lv z (s ^^^ b) + z s ≠ jo_lv z s
theorem jx_LFu {z : Nat → Nat} {s a b : Nat} (h : jo_LF z s a) (g : jo_LF z s b) : a = b := by
  rcases Nat.lt_trichotomy a b with q | q | q
  · exact absurd h.2.1 (g.2.2 a h.1 q)
  · exact q
  · exact absurd g.2.1 (h.2.2 b g.1 q)
theorem jl_nxne : ∀ s, s < 32 → ∀ j, j < 32 → jo_part j s = true → j ≠ s → jo_nx j s ≠ [] := by decide +kernel
theorem jl_g1 : ∀ s, s < 32 → ∀ j, j < 32 → jo_part j s = true → ∀ i, i < 5 → jo_hb (s ^^^ j) i = true → jo_part (j ||| 2 ^ i) s = true := by decide +kernel
theorem jl_g2a : ∀ s, s < 32 → ∀ j, j < 32 → jo_part j s = true → ∀ i, i < 5 → jo_hb (s ^^^ j) i = true → jo_hb j i = false := by decide +kernel
theorem jl_g2b : ∀ s, s < 32 → ∀ j, j < 32 → jo_part j s = true → ∀ i, i < 5 → jo_hb (s ^^^ j) i = true → j < (j ||| 2 ^ i) := by decide +kernel
theorem jl_g2 (s : Nat) (hs : s < 32) (j : Nat) (hj : j < 32) (hp : jo_part j s = true) (i : Nat) (hi : i < 5) (hb : jo_hb (s ^^^ j) i = true) : jo_hb j i = false ∧ j < (j ||| 2 ^ i) := ⟨jl_g2a s hs j hj hp i hi hb, jl_g2b s hs j hj hp i hi hb⟩
theorem jl_le : ∀ s, s < 32 → ∀ j, j < 32 → jo_part j s = true → j ≤ s := by decide +kernel
theorem jl_self : ∀ s, s < 32 → jo_part s s = true := by decide +kernel
theorem jl_zero : ∀ s, s < 32 → jo_part 0 s = true := by decide +kernel
theorem jl_D {z : Nat → Nat} (hz : ∀ s, s < 32 → z s ≤ 64 ^ (jo_m s)) {s : Nat} (hs : s < 32) : ∀ n j, j < 32 → jo_part j s = true → ∀ l, l ∈ jo_pm n j s → jo_lc z j l ≤ jo_D (jo_m j) := by
  have hend : ∀ j, j < 32 → jo_lc z j [] ≤ jo_D (jo_m j) := by
    intro j hj
    rw [jm_lc_nil]
    exact Nat.le_trans (jm_wle hz hj) (jm_De j hj)
  intro n
  induction n with
  | zero =>
    intro j hj hp l hl
    rw [jo_pm] at hl
    split at hl
    · rw [List.mem_singleton] at hl; subst hl; exact hend j hj
    · exact nomatch hl
  | succ n ih =>
    intro j hj hp l hl
    rw [jm_pm_eq] at hl
    split at hl
    · rw [List.mem_singleton] at hl; subst hl; exact hend j hj
    · simp only [List.mem_flatMap, List.mem_map] at hl
      obtain ⟨i, hi, l', hl', rfl⟩ := hl
      obtain ⟨i5, ib⟩ := jm_nx.mp hi
      have h1 := ih (j ||| 2 ^ i) (jb_orlt hj (jb_bit i5)) (jl_g1 s hs j hj hp i i5 ib) l' hl'
      have h2 := jm_Ds j hj i i5 (jl_g2 s hs j hj hp i i5 ib).1
      have h3 := jm_wle hz hj
      rw [jm_lc_cons]
      omega
theorem jl_llD {z : Nat → Nat} (hz : ∀ s, s < 32 → z s ≤ 64 ^ (jo_m s)) {s j : Nat} (hs : s < 32) (hj : j < 32) (hp : jo_part j s = true) : jo_ll z s j ≤ 1090785280 := by
  obtain ⟨⟨l, hl, e⟩, _⟩ := jv_ll (z := z) hs hj hp
  rw [← e]
  exact Nat.le_trans (jl_D hz hs 5 j hj hp l hl) (jm_Dt j hj)
theorem jl_fst {z : Nat → Nat} {s j : Nat} (hs : s < 32) (hj : j < 32) (hp : jo_part j s = true) : ∃ l, jo_Fst z s j (jo_ll z s j) l := by
  obtain ⟨⟨l, hl, e⟩, _⟩ := jv_ll (z := z) hs hj hp
  have : ((jo_Pm j s).find? (fun l => jo_lc z j l == jo_ll z s j)).isSome = true := List.find?_isSome.mpr ⟨l, hl, by rw [e]; simp⟩
  exact Option.isSome_iff_exists.mp this
theorem jl_fu {z : Nat → Nat} {s j v : Nat} {l l' : List Nat} (h : jo_Fst z s j v l) (g : jo_Fst z s j v l') : l = l' := Option.some.inj (h.symm.trans g)
def jo_nth (l : List Nat) (q : Nat) : Int32 := match l[q]? with
  | some t => nI t
  | none => -4
theorem jl_n0 (q : Nat) : jo_nth [] q = -4 := by simp [jo_nth]
theorem jl_nz (t : Nat) (l : List Nat) : jo_nth (t :: l) 0 = nI t := by simp [jo_nth]
theorem jl_ns (t : Nat) (l : List Nat) (q : Nat) : jo_nth (t :: l) (q + 1) = jo_nth l q := by simp [jo_nth]
section
variable {xe xs xl xc xn : Nat → Int32} {E S L : Nat → Nat} {K : Nat → Bool}
theorem jx_left (hE : ∀ i, i < 5 → E i ≤ 6) (hS : ∀ p, p < 25 → S p ≤ 6) {s : Nat} (h1 : 1 ≤ s) (hs : s < 32) (ho : ¬ jo_one s = true) (hv : ∀ a, 1 ≤ a → a < s + 1 → xc a = nI (jo_lv (jo_sz E S) a)) {post : Int32 → SX → Prop}
    (hp : ∀ a, jo_LF (jo_sz E S) s a → post (nI a) (xe, xs, xl, xc, xn)) : wpX_leastCostOfParts (fun r => ∃ n, wX_left_32 post (nI s) r xe xs xl xc xn n 1) (xe, xs, xl, xc, xn) (nI s) := by
  have hz : ∀ s, s < 32 → jo_sz E S s ≤ 64 ^ (jo_m s) := fun s _ => js_sz hE hS s
  refine jx_lcpv hE hS h1 hs ho (fun a a1 a2 => hv a a1 (by omega)) (fun m he hm em => ?_)
  have mM : m ≤ 1090785280 := by
    obtain ⟨b, hb, e⟩ := he
    obtain ⟨_, q, _⟩ := jv_lv2 hz h1 hs ho hb
    omega
  have key : ∀ d a, 1 ≤ a → a + d = s → (∀ b, b ∈ jo_ps s a → jo_lv (jo_sz E S) b + jo_lv (jo_sz E S) (s ^^^ b) ≠ m) → wX_left_32 post (nI s) (nI m) xe xs xl xc xn (d + 1) (nI a) := by
    intro d
    induction d with
    | zero =>
      intro a a1 ad hno
      obtain rfl : a = s := by omega
      obtain ⟨b, hb, e⟩ := he
      exact absurd e (hno b hb)
    | succ d ih =>
      intro a a1 ad hno
      refine br_f (nI_ge (by omega) (by omega)) (jx_part (by omega) hs (fun pf => nm_r (nI_1 a) ?_) (fun pt => ?_))
      · exact ih (a + 1) (by omega) (by omega) (by rw [jm_ps_f a1 pf]; exact hno)
      · have hain : a ∈ jo_ps s s := (jm_ps s s a).mpr ⟨a1, by omega, pt⟩
        obtain ⟨_, c0, c1, c2, c3, c4⟩ := jv_lv2 hz h1 hs ho hain
        have hsum := jx_sum hs (by omega) a1 pt (hv a c2 (by omega)) (hv _ c4 (by omega))
        have v1 : vp_in (nI a) 32 := vp_in_nI (by omega) (by omega)
        have v2 := jx_vx hs (by omega) a1 pt
        refine ⟨v1, v2, pk_eq (jo_lv (jo_sz E S) a + jo_lv (jo_sz E S) (s ^^^ a)) m (fun hq => hp a ⟨hain, by omega, fun b hb hlt => ?_⟩) (fun hq => nm_r (nI_1 a) ?_) hsum rfl (by omega) (by omega)⟩
        · obtain ⟨b1, b2, b3⟩ := (jm_ps s s b).mp hb
          have := hno b ((jm_ps s a b).mpr ⟨b1, hlt, b3⟩)
          omega
        · refine ih (a + 1) (by omega) (by omega) (fun b hb => ?_)
          rw [jm_ps_t a1 pt, List.mem_append, List.mem_singleton] at hb
          rcases hb with hb | rfl
          · exact hno b hb
          · exact hq
  exact ⟨_, key (s - 1) 1 (Nat.le_refl _) (by omega) (fun b hb => nomatch hb)⟩
theorem jx_next {s j : Nat} (hs : s < 32) (hj : j < 32) (hpt : jo_part j s = true) (hn : j ≠ s) {cc : Nat → Nat} (hc : ∀ i, i ∈ jo_nx j s → xc (j ||| 2 ^ i) = nI (cc i) ∧ cc i < 2147483647) {post : Int32 → Prop}
    (hp : ∀ t, t ∈ jo_nx j s → (∀ i, i ∈ jo_nx j s → cc t ≤ cc i) → (∀ i, i ∈ jo_nx j s → i < t → cc t < cc i) → post (nI t)) : wpX_nextTable post (xe, xs, xl, xc, xn) (nI j) (nI s) := by
  have key : ∀ d i t v, i + d = 5 → v ≤ 2147483647 → ((v = 2147483647 ∧ ∀ i', i' ∈ jo_nx j s → ¬ i' < i) ∨ (t ∈ jo_nx j s ∧ t < i ∧ cc t = v ∧ ∀ i', i' ∈ jo_nx j s → i' < t → cc t < cc i')) → (∀ i', i' ∈ jo_nx j s → i' < i → v ≤ cc i') →
      wX_nextTable_9 post (nI j) (nI s) xe xs xl xc xn (d + 1) (nI t) (nI v) (nI i) := by
    intro d
    induction d with
    | zero =>
      intro i t v hi vM he hm
      obtain rfl : i = 5 := by omega
      refine br_t (nI_le (a := 5) (Nat.le_refl _) (by omega)) ?_
      rcases he with ⟨_, e⟩ | ⟨t1, t2, t3, t4⟩
      · obtain ⟨i, hi⟩ := List.exists_mem_of_ne_nil _ (jl_nxne s hs j hj hpt hn)
        exact absurd (jm_nx.mp hi).1 (e i hi)
      · refine hp t t1 (fun i hi => ?_) t4
        rw [t3]; exact hm i hi (jm_nx.mp hi).1
    | succ d ih =>
      intro i t v hi vM he hm
      have i5 : i < 5 := by omega
      have hg : j ||| 2 ^ i < 32 := jb_orlt hj (jb_bit i5)
      refine br_f (nI_ge (b := 5) (by omega) (by omega)) (nm_r (e' := nI (j ||| 2 ^ i)) ?_ ?_)
      · rw [jb_shl i (by omega), nx_or]
      · rw [nx_xor]
        refine jx_has (jb_xorlt hs hj) i5 (fun hb => nm_r (nI_1 i) ?_) (fun hb => ?_)
        · have hne : ∀ i', i' ∈ jo_nx j s → i' < i + 1 → i' < i := by
            intro i' hi' hlt
            refine Decidable.byContradiction fun q => ?_
            obtain rfl : i' = i := by omega
            rw [(jm_nx.mp hi').2] at hb; exact nomatch hb
          refine ih (i + 1) t v (by omega) vM ?_ (fun i' hi' hlt => hm i' hi' (hne i' hi' hlt))
          rcases he with ⟨e1, e2⟩ | ⟨t1, t2, t3, t4⟩
          · exact Or.inl ⟨e1, fun i' hi' hlt => e2 i' hi' (hne i' hi' hlt)⟩
          · exact Or.inr ⟨t1, by omega, t3, t4⟩
        · have hin : i ∈ jo_nx j s := jm_nx.mpr ⟨i5, hb⟩
          obtain ⟨c1, c2⟩ := hc i hin
          have v1 : vp_in (nI (j ||| 2 ^ i)) 32 := vp_in_nI hg (by omega)
          have hcv : xc (nI (j ||| 2 ^ i)).toNatClampNeg = nI (cc i) := by rw [nI_clamp (by omega)]; exact c1
          refine ⟨v1, pk_le v (cc i) (fun hle => nm_r (nI_1 i) ?_) (fun hlt => ⟨v1, nm_r hcv (nm_r (nI_1 i) ?_)⟩) rfl hcv (by omega) (by omega)⟩
          · refine ih (i + 1) t v (by omega) vM ?_ (fun i' hi' hlt => ?_)
            · rcases he with ⟨e1, e2⟩ | ⟨t1, t2, t3, t4⟩
              · omega
              · exact Or.inr ⟨t1, by omega, t3, t4⟩
            · by_cases q : i' = i
              · subst q; exact hle
              · exact hm i' hi' (by omega)
          · refine ih (i + 1) i (cc i) (by omega) (by omega) (Or.inr ⟨hin, by omega, rfl, fun i' hi' hl => ?_⟩) (fun i' hi' hl => ?_)
            · have := hm i' hi' hl; omega
            · by_cases q : i' = i
              · subst q; exact Nat.le_refl _
              · have := hm i' hi' (by omega); omega
  exact ⟨_, key 5 0 0 2147483647 (by omega) (Nat.le_refl _) (Or.inl ⟨rfl, fun i' _ h => by omega⟩) (fun i' _ h => by omega)⟩
/-- the next table when the costs are the least ones of the linear plans -/
theorem jx_nextv (hE : ∀ i, i < 5 → E i ≤ 6) (hS : ∀ p, p < 25 → S p ≤ 6) {s j : Nat} (hs : s < 32) (hj : j < 32) (hpt : jo_part j s = true) (hn : j ≠ s) (hc : ∀ i, j < i → i < 32 → jo_part i s = true → xc i = nI (jo_ll (jo_sz E S) s i)) {post : Int32 → Prop}
    (hp : ∀ t, t < 5 → jo_part (j ||| 2 ^ t) s = true → j < j ||| 2 ^ t → jo_ll (jo_sz E S) s j = jo_w (jo_sz E S) j + jo_ll (jo_sz E S) s (j ||| 2 ^ t) → (∀ l, jo_Fst (jo_sz E S) s (j ||| 2 ^ t) (jo_ll (jo_sz E S) s (j ||| 2 ^ t)) l → jo_Fst (jo_sz E S) s j (jo_ll (jo_sz E S) s j) (t :: l)) → post (nI t)) :
    wpX_nextTable post (xe, xs, xl, xc, xn) (nI j) (nI s) := by
  have hz : ∀ s, s < 32 → jo_sz E S s ≤ 64 ^ (jo_m s) := fun s _ => js_sz hE hS s
  have hb : ∀ i, i ∈ jo_nx j s → j ||| 2 ^ i < 32 ∧ jo_part (j ||| 2 ^ i) s = true ∧ j < j ||| 2 ^ i := by
    intro i hi
    obtain ⟨i5, ib⟩ := jm_nx.mp hi
    exact ⟨jb_orlt hj (jb_bit i5), jl_g1 s hs j hj hpt i i5 ib, (jl_g2 s hs j hj hpt i i5 ib).2⟩
  refine jx_next hs hj hpt hn (cc := fun i => jo_ll (jo_sz E S) s (j ||| 2 ^ i)) (fun i hi => ?_) (fun t ht hm hf => ?_)
  · obtain ⟨b1, b2, b3⟩ := hb i hi
    refine ⟨hc _ b3 b1 b2, ?_⟩
    have := jl_llD hz hs b1 b2
    show jo_ll (jo_sz E S) s (j ||| 2 ^ i) < _
    omega
  · obtain ⟨b1, b2, b3⟩ := hb t ht
    have hcc : ∀ i, i ∈ jo_nx j s → jo_LL (jo_sz E S) s (j ||| 2 ^ i) (jo_ll (jo_sz E S) s (j ||| 2 ^ i)) := fun i hi => jv_ll hs (hb i hi).1 (hb i hi).2.1
    have e := jv_llu hs hj hpt (jm_LL_step hs hj hpt hn (fun i => jo_ll (jo_sz E S) s (j ||| 2 ^ i)) hcc ht hm)
    refine hp t (jm_nx.mp ht).1 b2 b3 e (fun l hl => ?_)
    rw [e]
    exact jm_Fst_step hs hj hpt hn (fun i => jo_ll (jo_sz E S) s (j ||| 2 ^ i)) hcc ht hf hl
theorem jx_flc (hE : ∀ i, i < 5 → E i ≤ 6) (hS : ∀ p, p < 25 → S p ≤ 6) (hXe : ∀ i, i < 5 → xe i = nI (E i)) (hX : ∀ p, p < 25 → xs p = nI (S p)) {s : Nat} (h1 : 1 ≤ s) (hs : s < 32) {post : SX → Prop}
    (hp : ∀ xc', (∀ j, j < 32 → jo_part j s = true → xc' j = nI (jo_ll (jo_sz E S) s j)) → post (xe, xs, xl, xc', xn)) : wpX_fillLinearCosts post (xe, xs, xl, xc, xn) (nI s) := by
  have key : ∀ k xc, k ≤ s → (∀ j, k ≤ j → j < 32 → jo_part j s = true → xc j = nI (jo_ll (jo_sz E S) s j)) → wX_fillLinearCosts_26 post (nI s) (k + 1) (nI k + (-1)) xe xs xl xc xn := by
    intro k
    induction k with
    | zero =>
      intro xc _ hc
      exact br_t (by decide) (hp xc fun j hj hpj => hc j (Nat.zero_le _) hj hpj)
    | succ k ih =>
      intro xc hk hc
      rw [pk_m1]
      have hstep : ∀ v, v = nI (jo_ll (jo_sz E S) s k) → ∀ j, k ≤ j → j < 32 → jo_part j s = true → upd xc k v j = nI (jo_ll (jo_sz E S) s j) := by
        intro v hv j h1 h2 h3
        by_cases e : j = k
        · subst e; rw [pk_us]; exact hv
        · rw [pk_un e]; exact hc j (by omega) h2 h3
      have v1 : vp_in (nI k) 32 := vp_in_nI (by omega) (by omega)
      refine br_f (nI_pos (by omega)) (jx_part (by omega) hs (fun pf => nm_e ?_) (fun pt => ?_))
      · refine ih xc (by omega) (fun j h1 h2 h3 => ?_)
        by_cases e : j = k
        · subst e; exact absurd h3 pf
        · exact hc j (by omega) h2 h3
      · refine jx_nextv hE hS hs (by omega) pt (by omega) (fun i i1 i2 i3 => hc i i1 i2 i3) (fun t t5 tp tl te _ => ?_)
        have hg : k ||| 2 ^ t < 32 := jb_orlt (by omega) (jb_bit t5)
        have e1 : nI k ||| ((1 : Int32) <<< (nI t &&& 31)) = nI (k ||| 2 ^ t) := by rw [jb_shl t (by omega), nx_or]
        refine ⟨?_, nm_r (e' := nI (jo_ll (jo_sz E S) s (k ||| 2 ^ t))) ?_ (jx_one (by omega) (fun ho => ?_) (fun ho => ?_))⟩
        · rw [e1]; exact vp_in_nI hg (by omega)
        · rw [e1, nI_clamp (by omega)]; exact hc _ tl hg tp
        · refine jx_sizeOf hE hS hXe hX (by omega) ⟨v1, nm_r (e' := upd xc k (nI (jo_ll (jo_sz E S) s k))) ?_ (nm_e (ih _ (by omega) (hstep _ rfl)))⟩
          rw [nI_clamp (by omega), nI_add, te, jo_w, if_neg ho, Nat.add_comm]
        · refine ⟨v1, nm_r (e' := upd xc k (nI (jo_ll (jo_sz E S) s k))) ?_ (nm_e (ih _ (by omega) (hstep _ rfl)))⟩
          rw [nI_clamp (by omega), te, jo_w, if_pos ho, Nat.zero_add]
  have hlast : jo_ll (jo_sz E S) s s = jo_w (jo_sz E S) s := jv_llu hs hs (jl_self s hs) jm_LL_end
  have hinv : ∀ v, v = nI (jo_w (jo_sz E S) s) → ∀ j, s ≤ j → j < 32 → jo_part j s = true → upd xc s v j = nI (jo_ll (jo_sz E S) s j) := by
    intro v hv j h1 h2 h3
    have := jl_le s hs j h2 h3
    obtain rfl : j = s := by omega
    rw [pk_us, hv, hlast]
  have e1 : nI s - 1 = nI s + (-1) := by
    obtain ⟨k, rfl⟩ : ∃ k, s = k + 1 := ⟨s - 1, by omega⟩
    rw [nI_pred, pk_m1]
  have v1 : vp_in (nI s) 32 := vp_in_nI (by omega) (by omega)
  refine jx_one hs (fun ho => ?_) (fun ho => ?_)
  · refine jx_sizeOf hE hS hXe hX hs ⟨v1, nm_r (e' := upd xc s (nI (jo_w (jo_sz E S) s))) ?_ (nm_r e1 ⟨_, key s _ (Nat.le_refl _) (hinv _ rfl)⟩)⟩
    rw [nI_clamp (by omega), jo_w, if_neg ho]
  · refine ⟨v1, nm_r (e' := upd xc s (nI (jo_w (jo_sz E S) s))) ?_ (nm_r e1 ⟨_, key s _ (Nat.le_refl _) (hinv _ rfl)⟩)⟩
    rw [nI_clamp (by omega), jo_w, if_pos ho]; rfl
theorem jx_linTab (hE : ∀ i, i < 5 → E i ≤ 6) (hS : ∀ p, p < 25 → S p ≤ 6) {s k : Nat} (hs : s < 32) (hk : k < 5) (hc : ∀ i, i < 32 → jo_part i s = true → xc i = nI (jo_ll (jo_sz E S) s i)) {post : Int32 → SX → Prop} {l0 : List Nat}
    (hl0 : jo_Fst (jo_sz E S) s 0 (jo_ll (jo_sz E S) s 0) l0) (hp0 : post (jo_nth l0 k) (xe, xs, xl, xc, xn)) : ∃ n, wX_linearTable_31 post (nI s) (nI k) xe xs xl xc xn n 0 0 := by
  have key : ∀ d p j l, p + d = k → j < 32 → jo_part j s = true → jo_Fst (jo_sz E S) s j (jo_ll (jo_sz E S) s j) l → post (jo_nth l d) (xe, xs, xl, xc, xn) → wX_linearTable_31 post (nI s) (nI k) xe xs xl xc xn (d + 1) (nI j) (nI p) := by
    have hend : ∀ {l : List Nat}, jo_Fst (jo_sz E S) s s (jo_ll (jo_sz E S) s s) l → l = [] := by
      intro l hl
      rw [jv_llu hs hs (jl_self s hs) jm_LL_end] at hl
      exact jl_fu hl jm_Fst_end
    intro d
    induction d with
    | zero =>
      intro p j l hpd hj hpt hl hp
      obtain rfl : p = k := by omega
      refine br_t (nI_le (Nat.le_refl _) (by omega)) (pk_eq j s (fun e => ?_) (fun e => ?_) rfl rfl (by omega) (by omega))
      · subst e
        rw [hend hl, jl_n0] at hp
        exact hp
      · refine jx_nextv hE hS hs hj hpt e (fun i _ i2 i3 => hc i i2 i3) (fun t t5 tp tl te hf => ?_)
        obtain ⟨l', hl'⟩ := jl_fst (z := jo_sz E S) hs (jb_orlt hj (jb_bit t5)) tp
        rw [jl_fu hl (hf l' hl'), jl_nz] at hp
        exact hp
    | succ d ih =>
      intro p j l hpd hj hpt hl hp
      refine br_f (nI_ge (by omega) (by omega)) (pk_eq j s (fun e => nm_r (nI_1 p) ?_) (fun e => ?_) rfl rfl (by omega) (by omega))
      · refine ih (p + 1) j l (by omega) hj hpt hl ?_
        subst e
        have e0 := hend hl
        subst e0
        rw [jl_n0] at hp ⊢
        exact hp
      · refine jx_nextv hE hS hs hj hpt e (fun i _ i2 i3 => hc i i2 i3) (fun t t5 tp tl te hf => ?_)
        obtain ⟨l', hl'⟩ := jl_fst (z := jo_sz E S) hs (jb_orlt hj (jb_bit t5)) tp
        rw [jl_fu hl (hf l' hl'), jl_ns] at hp
        refine nm_r (e' := nI (j ||| 2 ^ t)) ?_ (nm_r (nI_1 p) (ih (p + 1) _ l' (by omega) (jb_orlt hj (jb_bit t5)) tp hl' hp))
        rw [jb_shl t (by omega), nx_or]
  exact ⟨_, key k 0 0 l0 (by omega) (by omega) (jl_zero s hs) hl0 hp0⟩
end
end
section
/-! the reference: its small methods, sizes, links -/
theorem jy_b : ∀ b : Bool, narrow .boolean (.int (if b = true then 1 else 0)) = .int (if b = true then 1 else 0) ∧ fits .boolean (.int (if b = true then 1 else 0)) = true := by
  intro b
  cases b with
  | false => exact ⟨rfl, by decide⟩
  | true => exact ⟨rfl, by decide⟩
theorem jy_ix (i j : Nat) : (5 : Int32) * nI i + nI j = nI (i * 5 + j) := by
  rw [show (5 : Int32) = nI 5 from rfl, pk_mul, nI_add, Nat.mul_comm]
theorem jy_div {p : Nat} (h : p < 25) : nI p / 5 = nI (p / 5) := pk_div (d := 5) (by omega) (by omega) (by omega)
theorem jy_rem {p : Nat} (h : p < 25) : nI p - nI p / 5 * 5 = nI (p % 5) := pk_rem (d := 5) (by omega) (by omega) (by omega)
/-- what the reference's arrays hold -/
def jo_YT (E : Nat → Nat) (yt : Nat → Int32) : Prop := ∀ i, i < 5 → yt i = nI (E i)
def jo_YF (S : Nat → Nat) (K : Nat → Bool) (yf : Nat → Int32) : Prop := ∀ p, p < 25 → (K p = true → yf p = nI (S p)) ∧ (K p = false → yf p = -1 ∧ S p = 0)
section
variable {fn fo ft fk fi : Int32} {yt yf yz ym yr yk : Nat → Int32} {E S : Nat → Nat} {K : Nat → Bool}
theorem jy_has {s i : Nat} {A B : Prop} (hs : s < 32) (hi : i < 5) (f : jo_hb s i = false → A) (t : jo_hb s i = true → B) : wpY_has (fun r => (r = 0 → A) ∧ (¬ r = 0 → B)) (fn, fo, ft, fk, fi, yt, yf, yz, ym, yr, yk) (nI s) (nI i) :=
  ⟨fun h => jx_r1 (t ((jb_hy s hs i hi).mp h)), fun h => jx_r0 (f (jx_bf fun e => h ((jb_hy s hs i hi).mpr e)))⟩
theorem jy_set {x : Int32} {A B : Prop} (f : ¬ jo_isS x → A) (t : jo_isS x → B) : wpY_isSet (fun r => (r = 0 → A) ∧ (¬ r = 0 → B)) (fn, fo, ft, fk, fi, yt, yf, yz, ym, yr, yk) x :=
  ⟨fun h => jx_r0 (f fun q => q.1 h), fun h => ⟨fun h' => jx_r0 (f fun q => q.2 h'), fun h' => jx_r1 (t ⟨h, h'⟩)⟩⟩
theorem jy_f0 (hS : ∀ p, p < 25 → S p ≤ 6) (hF : jo_YF S K yf) {p : Nat} (hp : p < 25) {A B : Prop} (f : S p = 0 → A) (t : yf p = nI (S p) → B) : (yf p ≤ 0 → A) ∧ (¬ yf p ≤ 0 → B) := by
  have h6 := hS p hp
  cases hk : K p with
  | true =>
    have e := (hF p hp).1 hk
    constructor
    · intro h
      refine f (Decidable.byContradiction fun q => ?_)
      rw [e] at h
      exact nI_nle (by omega) (by omega) h
    · intro _; exact t e
  | false =>
    obtain ⟨e1, e2⟩ := (hF p hp).2 hk
    constructor
    · intro _; exact f e2
    · intro h; rw [e1] at h; exact absurd (by decide) h
theorem jy_sz1 (hS : ∀ p, p < 25 → S p ≤ 6) (hF : jo_YF S K yf) {s i : Nat} (hs : s < 32) (hi : i < 5) (hb : jo_hb s i = true) {post : Int32 → Prop} {J : Int32 → Int32 → Prop} {B : Int} (hJ : J (Int32.ofInt (B - (jo_xs S s i i : Int))) (nI (i + 1))) :
    ∃ n, wY_sizeOf_34 post J (nI s) (nI i) fn fo ft fk fi yt yf yz ym yr yk n (Int32.ofInt B) 0 := by
  have key : ∀ d j, j + d = i → wY_sizeOf_34 post J (nI s) (nI i) fn fo ft fk fi yt yf yz ym yr yk (d + 1) (Int32.ofInt (B - (jo_xs S s i j : Int))) (nI j) := by
    intro d
    induction d with
    | zero =>
      intro j hj
      obtain rfl : j = i := by omega
      exact br_t (nI_le (Nat.le_refl _) (by omega)) (nm_r (nI_1 j) hJ)
    | succ d ih =>
      intro j hj
      have hi1 := ih (j + 1) (by omega)
      rw [jo_xs] at hi1
      refine br_f (nI_ge (by omega) (by omega)) (jy_has hs hi (fun q => absurd hb (by rw [q]; decide)) (fun _ => jy_has hs (by omega) (fun hb' => nm_r (nI_1 j) ?_) (fun hb' => ?_)))
      · rw [if_neg (by rw [hb']; decide)] at hi1
        exact hi1
      · rw [if_pos hb'] at hi1
        have v1 : vp_in ((5 : Int32) * nI i + nI j) 25 := by rw [jy_ix]; exact vp_in_nI (by omega) (by omega)
        refine ⟨v1, ?_⟩
        rw [jy_ix, nI_clamp (by omega)]
        refine jy_f0 hS hF (p := i * 5 + j) (by omega) (fun e => nm_r (nI_1 j) ?_) (fun e => ⟨by rw [jy_ix] at v1; exact v1, nm_r (e' := Int32.ofInt (B - ((jo_xs S s i j + S (i * 5 + j) : Nat) : Int))) ?_ (nm_r (nI_1 j) hi1)⟩)
        · rw [e] at hi1; exact hi1
        · rw [e, js_nI, ← Int32.ofInt_sub]; congr 1; omega
  have h0 := key i 0 (by omega)
  rw [show B - (jo_xs S s i 0 : Int) = B from by show B - ((0 : Nat) : Int) = B; omega] at h0
  exact ⟨_, h0⟩
theorem jy_sz0 {s i : Nat} (hs : s < 32) (hi : i < 5) (hb : jo_hb s i = false) {post : Int32 → Prop} {J : Int32 → Int32 → Prop} {x : Int32} (hJ : J x (nI (i + 1))) :
    ∃ n, wY_sizeOf_34 post J (nI s) (nI i) fn fo ft fk fi yt yf yz ym yr yk n x 0 := by
  have key : ∀ d j, j + d = i → wY_sizeOf_34 post J (nI s) (nI i) fn fo ft fk fi yt yf yz ym yr yk (d + 1) x (nI j) := by
    intro d
    induction d with
    | zero =>
      intro j hj
      obtain rfl : j = i := by omega
      exact br_t (nI_le (Nat.le_refl _) (by omega)) (nm_r (nI_1 j) hJ)
    | succ d ih =>
      intro j hj
      exact br_f (nI_ge (by omega) (by omega)) (jy_has hs hi (fun _ => nm_r (nI_1 j) (ih (j + 1) (by omega))) (fun q => absurd hb (by rw [q]; decide)))
  exact ⟨_, key i 0 (by omega)⟩
theorem jy_sizeOf (hE : ∀ i, i < 5 → E i ≤ 6) (hS : ∀ p, p < 25 → S p ≤ 6) (hT : jo_YT E yt) (hF : jo_YF S K yf) {s : Nat} (hs : s < 32) {post : Int32 → Prop} (hp : post (nI (jo_sz E S s))) : wpY_sizeOf post (fn, fo, ft, fk, fi, yt, yf, yz, ym, yr, yk) (nI s) := by
  have key : ∀ d i, i + d = 5 → wY_sizeOf_4 post (nI s) fn fo ft fk fi yt yf yz ym yr yk (d + 1) (Int32.ofInt (jo_ex E S s i)) (nI i) := by
    intro d
    induction d with
    | zero =>
      intro i hi
      obtain rfl : i = 5 := by omega
      exact br_t (nI_le (a := 5) (Nat.le_refl _) (by omega)) (js_end hE hS s hp)
    | succ d ih =>
      intro i hi
      have hi1 := ih (i + 1) (by omega)
      rw [jo_ex] at hi1
      refine br_f (nI_ge (b := 5) (by omega) (by omega)) (jy_has hs (by omega) (fun hb => ?_) (fun hb => ?_))
      · rw [if_neg (by rw [hb]; decide)] at hi1
        exact jy_sz0 hs (by omega) hb hi1
      · rw [if_pos hb] at hi1
        refine ⟨vp_in_nI (by omega) (by omega), nm_r (e' := Int32.ofInt (jo_ex E S s i + (E i : Int))) ?_ (jy_sz1 hS hF hs (by omega) hb ?_)⟩
        · rw [nI_clamp (by omega), hT _ (by omega), js_nI, ← Int32.ofInt_add]
        · rw [show jo_ex E S s i + (E i : Int) - (jo_xs S s i i : Int) = jo_ex E S s i + ((E i : Int) - (jo_xs S s i i : Int)) from by omega]
          exact hi1
  exact ⟨_, key 5 0 (by omega)⟩
theorem jy_lnk (hS : ∀ p, p < 25 → S p ≤ 6) (hF : jo_YF S K yf) {a b : Nat} (ha : a < 32) (hb : b < 32) {post : Int32 → Prop} (f : jo_lk K a b = false → post 0) (t : jo_lk K a b = true → post 1) : wpY_isLinked post (fn, fo, ft, fk, fi, yt, yf, yz, ym, yr, yk) (nI a) (nI b) := by
  have key : ∀ d p, p + d = 25 → (∀ q, q < p → ¬ (K q = true ∧ jo_hb a (q / 5) = true ∧ jo_hb b (q % 5) = true)) → wY_isLinked_2 post (nI a) (nI b) fn fo ft fk fi yt yf yz ym yr yk (d + 1) (nI p) := by
    intro d
    induction d with
    | zero =>
      intro p hp hno
      obtain rfl : p = 25 := by omega
      refine br_t (nI_le (a := 25) (Nat.le_refl _) (by omega)) (f (jx_bf fun q => ?_))
      unfold jo_lk at q
      obtain ⟨x, hx, h⟩ := List.any_eq_true.mp q
      simp only [Bool.and_eq_true] at h
      exact hno x (List.mem_range.mp hx) h
    | succ d ih =>
      intro p hp hno
      have p25 : p < 25 := by omega
      have next : ¬ (K p = true ∧ jo_hb a (p / 5) = true ∧ jo_hb b (p % 5) = true) → wY_isLinked_2 post (nI a) (nI b) fn fo ft fk fi yt yf yz ym yr yk (d + 1) (nI (p + 1)) := by
        intro h
        refine ih (p + 1) (by omega) (fun q hq => ?_)
        by_cases e : q = p
        · subst e; exact h
        · exact hno q (by omega)
      refine br_f (nI_ge (b := 25) (by omega) (by omega)) ⟨vp_in_nI (by omega) (by omega), ?_⟩
      rw [nI_clamp (by omega)]
      cases hk : K p with
      | false =>
        rw [((hF p p25).2 hk).1]
        exact br_t (by decide) (nm_r (nI_1 p) (next (fun q => by rw [hk] at q; exact nomatch q.1)))
      | true =>
        have h6 := hS p p25
        rw [(hF p p25).1 hk]
        refine br_f (nI_pos (by omega)) ⟨by decide, ?_⟩
        rw [jy_rem p25, jy_div p25]
        refine jy_has ha (by omega) (fun h1 => nm_r (nI_1 p) (next (fun q => by rw [h1] at q; exact nomatch q.2.1))) (fun h1 => ⟨by decide, jy_has hb (by omega) (fun h2 => nm_r (nI_1 p) (next (fun q => by rw [h2] at q; exact nomatch q.2.2))) (fun h2 => t ?_)⟩)
        unfold jo_lk
        refine List.any_eq_true.mpr ⟨p, List.mem_range.mpr p25, ?_⟩
        rw [hk, h1, h2]; rfl
  exact ⟨_, key 25 0 (by omega) (fun q hq => by omega)⟩
theorem jy_conn (hS : ∀ p, p < 25 → S p ≤ 6) (hF : jo_YF S K yf) {s : Nat} (h1 : 1 ≤ s) (hs : s < 32) {post : Int32 → Prop} (t : (∀ a, 1 ≤ a → a < s → jo_part a s = true → jo_lk K a (s ^^^ a) = true) → post 1) (f : (¬ ∀ a, 1 ≤ a → a < s → jo_part a s = true → jo_lk K a (s ^^^ a) = true) → post 0) :
    ∃ n, wY_connected_12 post (nI s) fn fo ft fk fi yt yf yz ym yr yk n 1 := by
  have key : ∀ d a, 1 ≤ a → a + d = s → (∀ b, 1 ≤ b → b < a → jo_part b s = true → jo_lk K b (s ^^^ b) = true) → wY_connected_12 post (nI s) fn fo ft fk fi yt yf yz ym yr yk (d + 1) (nI a) := by
    intro d
    induction d with
    | zero =>
      intro a a1 ad hy
      obtain rfl : a = s := by omega
      exact br_t (nI_le (Nat.le_refl _) (by omega)) (t hy)
    | succ d ih =>
      intro a a1 ad hy
      have next : (jo_part a s = true → jo_lk K a (s ^^^ a) = true) → wY_connected_12 post (nI s) fn fo ft fk fi yt yf yz ym yr yk (d + 1) (nI (a + 1)) := by
        intro h
        refine ih (a + 1) (by omega) (by omega) (fun b b1 b2 b3 => ?_)
        by_cases e : b = a
        · subst e; exact h b3
        · exact hy b b1 (by omega) b3
      refine br_f (nI_ge (by omega) (by omega)) ⟨fun h => ?_, fun h => nm_r (nI_1 a) (next (fun q => absurd ((jb_part a (by omega) s hs).mpr q) h))⟩
      have pt := (jb_part a (by omega) s hs).mp h
      have b := jb_pt s hs a (by omega) a1 pt
      rw [jb_less a (by omega) s hs pt]
      exact jy_lnk hS hF (by omega) (by omega) (fun q => jx_r0 (f (fun H => by rw [H a a1 (by omega) pt] at q; exact nomatch q))) (fun q => jx_r1 (nm_r (nI_1 a) (next (fun _ => q))))
  exact ⟨_, key (s - 1) 1 (Nat.le_refl _) (by omega) (fun b b1 b2 => by omega)⟩
theorem jy_count {s : Nat} (hs : s < 32) {post : Int32 → Prop} (hp : post (nI (jo_m s))) : wpY_count post (fn, fo, ft, fk, fi, yt, yf, yz, ym, yr, yk) (nI s) := by
  have key : ∀ d i, i + d = 5 → wY_count_4 post (nI s) fn fo ft fk fi yt yf yz ym yr yk (d + 1) (nI (jo_cn s i)) (nI i) := by
    intro d
    induction d with
    | zero =>
      intro i hi
      obtain rfl : i = 5 := by omega
      exact br_t (nI_le (a := 5) (Nat.le_refl _) (by omega)) hp
    | succ d ih =>
      intro i hi
      have hi1 := ih (i + 1) (by omega)
      rw [jo_cn] at hi1
      refine br_f (nI_ge (b := 5) (by omega) (by omega)) (jy_has hs (by omega) (fun hb => nm_r (nI_1 i) ?_) (fun hb => nm_r (nI_1 _) (nm_r (nI_1 i) ?_)))
      · rw [if_neg (by rw [hb]; decide)] at hi1; exact hi1
      · rw [if_pos hb] at hi1; exact hi1
  exact ⟨_, key 5 0 (by omega)⟩
theorem jy_2m {m : Nat} (h : 1 ≤ m) : (2 : Int32) * nI m - 1 = nI (2 * m - 1) := by
  rw [show (2 : Int32) = nI 2 from rfl, pk_mul]
  exact pk_sub (b := 1) (by omega)
theorem jy_isForm {f m : Nat} (hf : f < 512) (m1 : 1 ≤ m) (m5 : m ≤ 5) {post : Int32 → Prop} (hp0 : jo_isF f (2 * m - 1) 0 0 = false → post 0) (hp1 : jo_isF f (2 * m - 1) 0 0 = true → post 1) : wpY_isForm post (fn, fo, ft, fk, fi, yt, yf, yz, ym, yr, yk) (nI f) (nI m) := by
  have key : ∀ k i h, i + k = 2 * m - 1 → h ≤ i → (jo_isF f k i h = false → post 0) → (jo_isF f k i h = true → post 1) → wY_isForm_5 post (nI f) (nI m) fn fo ft fk fi yt yf yz ym yr yk (k + 1) (nI h) (nI i) := by
    intro k
    induction k with
    | zero =>
      intro i h hi hh f0 f1
      refine br_t (by rw [jy_2m m1]; exact nI_le (by omega) (by omega)) (pk_eq h 1 (fun e => f1 ?_) (fun e => f0 ?_) rfl rfl (by omega) (by omega))
      · subst e; rfl
      · rw [jo_isF]; exact jx_bf fun q => e (Nat.eq_of_beq_eq_true q)
    | succ k ih =>
      intro i h hi hh f0 f1
      rw [jo_isF] at f0 f1
      refine br_f (by rw [jy_2m m1]; exact nI_ge (by omega) (by omega)) ⟨fun q => ?_, fun q => ?_⟩
      · have hb := (jb_hf f hf i (by omega)).mp q
        rw [if_pos hb] at f0 f1
        rw [nI_1]
        exact br_t (nI_le (a := 1) (by omega) (by omega)) (nm_r (nI_1 i) (ih (i + 1) (h + 1) (by omega) (by omega) f0 f1))
      · have hb : ¬ jo_hb f i = true := fun e => q ((jb_hf f hf i (by omega)).mpr e)
        rw [if_neg hb] at f0 f1
        by_cases h1 : h ≤ 1
        · rw [if_pos (Nat.ble_eq_true_of_le h1)] at f0
          refine br_f ?_ (f0 rfl)
          rcases (by omega : h = 0 ∨ h = 1) with rfl | rfl <;> decide
        · have hb1 : ¬ Nat.ble h 1 = true := fun e => h1 (Nat.le_of_ble_eq_true e)
          rw [if_neg hb1] at f0 f1
          have e1 : nI h - 1 = nI (h - 1) := pk_sub (b := 1) (by omega)
          rw [e1]
          exact br_t (nI_le (a := 1) (by omega) (by omega)) (nm_r (nI_1 i) (ih (i + 1) (h - 1) (by omega) (by omega) f0 f1))
  exact ⟨_, key (2 * m - 1) 0 0 (by omega) (Nat.le_refl _) hp0 hp1⟩
end
end
section
/-! the reference: prepare, order, follow -/
theorem jp_FM14 : ∀ m, m < 6 → 1 ≤ m → (jo_FM m).length ≤ 14 := by decide +kernel
theorem jp_FM0 : ∀ m, m < 6 → 1 ≤ m → 1 ≤ (jo_FM m).length := by decide +kernel
theorem jp_FM512 : ∀ m, m < 6 → 1 ≤ m → ∀ k, k < 14 → (jo_FM m).getD k 0 < 512 := by decide +kernel
theorem jp_flen (m : Nat) : ∀ d n, (jo_fl m n).length ≤ (jo_fl m (n + d)).length := by
  intro d
  induction d with
  | zero => intro n; exact Nat.le_refl _
  | succ d ih =>
    intro n
    refine Nat.le_trans (ih n) ?_
    rw [← Nat.add_assoc, jo_fl]
    split
    · rw [List.length_append]; exact Nat.le_add_right _ _
    · exact Nat.le_refl _
/-- the forms that prepare has found -/
def jo_Fm (l : List Nat) (ym : Nat → Int32) : Prop := ∀ k, k < l.length → ym k = nI (l.getD k 0)
theorem jp_Fm_add {l : List Nat} {ym : Nat → Int32} {x : Nat} (h : jo_Fm l ym) : jo_Fm (l ++ [x]) (upd ym l.length (nI x)) := by
  intro k hk
  rw [List.length_append] at hk
  by_cases e : k = l.length
  · subst e
    rw [pk_us, List.getD_eq_getElem?_getD, List.getElem?_append_right (Nat.le_refl _)]
    simp
  · have hk' : k < l.length := by simp at hk; omega
    rw [pk_un e, h k hk', List.getD_eq_getElem?_getD, List.getD_eq_getElem?_getD, List.getElem?_append_left hk']
section
variable {fn fo ft fk fi : Int32} {yt yf yz ym yr yk : Nat → Int32} {E S : Nat → Nat} {K : Nat → Bool}
theorem jp_96 {m : Nat} (m1 : 1 ≤ m) (m5 : m ≤ 5) {post : Int32 → SY → Prop} (hp : post (nI (jo_fact m)) (fn, fo, ft, fk, fi, yt, yf, yz, ym, yr, yk)) : ∃ n, wY_prepare_96 post (nI m) fn fo ft fk fi yt yf yz ym yr yk n 1 2 := by
  have key : ∀ d i, 1 ≤ i → i + d = m → wY_prepare_96 post (nI m) fn fo ft fk fi yt yf yz ym yr yk (d + 1) (nI (jo_fact i)) (nI (i + 1)) := by
    intro d
    induction d with
    | zero =>
      intro i i1 hi
      obtain rfl : i = m := by omega
      exact br_t (nI_lt (by omega) (by omega)) hp
    | succ d ih =>
      intro i i1 hi
      exact br_f (nI_nlt (by omega) (by omega)) (nm_r (pk_mul _ _) (nm_r (nI_1 _) (ih (i + 1) (by omega) (by omega))))
  exact ⟨_, key (m - 1) 1 (Nat.le_refl _) (by omega)⟩
theorem jp_38 {m : Nat} (m1 : 1 ≤ m) (m5 : m ≤ 5) {post : Int32 → SY → Prop} (hp : ∀ ym', jo_Fm (jo_FM m) ym' → post (nI (jo_fact m)) (nI (jo_FM m).length, fo, ft, fk, fi, yt, yf, yz, ym', yr, yk)) :
    ∃ n, wY_prepare_38 post (nI m) fo ft fk fi n 0 0 yt yf yz ym yr yk := by
  have e2 : ((1 : Int32) <<< (((2 : Int32) * nI m - 1) &&& 31)) = nI (2 ^ (2 * m - 1)) := by rw [jy_2m m1, jb_shl _ (by omega)]
  have hpw : 2 ^ (2 * m - 1) ≤ 2 ^ 9 := Nat.pow_le_pow_right (by omega) (by omega)
  have key : ∀ d f ym, f + d = 512 → jo_Fm (jo_fl m f) ym → wY_prepare_38 post (nI m) fo ft fk fi (d + 1) (nI f) (nI (jo_fl m f).length) yt yf yz ym yr yk := by
    intro d
    induction d with
    | zero =>
      intro f ym hf hym
      obtain rfl : f = 512 := by omega
      rw [jo_fl_ok m (by omega) m1] at hym ⊢
      exact br_t (nI_le (a := 512) (Nat.le_refl _) (by omega)) (jp_96 m1 m5 (hp ym hym))
    | succ d ih =>
      intro f ym hf hym
      have next : jo_frm m f = false → wY_prepare_38 post (nI m) fo ft fk fi (d + 1) (nI (f + 1)) (nI (jo_fl m f).length) yt yf yz ym yr yk := by
        intro h
        have := ih (f + 1) ym (by omega) (by rw [jo_fl, h]; exact hym)
        rw [jo_fl, h] at this
        exact this
      refine br_f (nI_ge (b := 512) (by omega) (by omega)) ?_
      refine pk_le (2 ^ (2 * m - 1)) f (fun hle => nm_r (nI_1 f) (next ?_)) (fun hlt => jy_isForm (by omega) m1 m5 (fun h => jx_r0 (nm_r (nI_1 f) (next ?_))) (fun h => jx_r1 ?_)) e2 rfl (by omega) (by omega)
      · rw [jo_frm, if_pos (Nat.ble_eq_true_of_le hle)]
      · rw [jo_frm, if_neg (fun q => absurd (Nat.le_of_ble_eq_true q) (by omega))]; exact h
      · have hfr : jo_frm m f = true := by
          rw [jo_frm, if_neg (fun q => absurd (Nat.le_of_ble_eq_true q) (by omega))]; exact h
        have hl : (jo_fl m (f + 1)).length = (jo_fl m f).length + 1 := by
          rw [jo_fl, if_pos hfr, List.length_append]; rfl
        have h14 : (jo_fl m (f + 1)).length ≤ 14 := by
          refine Nat.le_trans (jp_flen m d (f + 1)) ?_
          rw [show f + 1 + d = 512 from by omega, jo_fl_ok m (by omega) m1]
          exact jp_FM14 m (by omega) m1
        have hi1 := ih (f + 1) (upd ym (jo_fl m f).length (nI f)) (by omega) (by rw [jo_fl, if_pos hfr]; exact jp_Fm_add hym)
        rw [hl] at hi1
        refine ⟨vp_in_nI (by omega) (by omega), nm_r ?_ (nm_r (nI_1 _) (nm_r (nI_1 f) hi1))⟩
        rw [nI_clamp (by omega)]
  exact ⟨_, key 512 0 ym (by omega) (fun k hk => by exact absurd hk (Nat.not_lt_zero k))⟩
theorem jp_prepare (hE : ∀ i, i < 5 → E i ≤ 6) (hS : ∀ p, p < 25 → S p ≤ 6) (hT : jo_YT E yt) (hF : jo_YF S K yf) {s : Nat} (h1 : 1 ≤ s) (hs : s < 32) {post : Int32 → SY → Prop}
    (hp : ∀ yz' ym', (∀ t, t < 32 → yz' t = nI (jo_sz E S t)) → jo_Fm (jo_FM (jo_m s)) ym' → post (nI (jo_fact (jo_m s))) (nI (jo_fc s), fo, ft, fk, fi, yt, yf, yz', ym', yr, yk)) : wpY_prepare post (fn, fo, ft, fk, fi, yt, yf, yz, ym, yr, yk) (nI s) := by
  have key : ∀ d t yz, t + d = 32 → (∀ a, a < t → yz a = nI (jo_sz E S a)) → wY_prepare_2 post (nI s) fn fo ft fk fi (d + 1) (nI t) yt yf yz ym yr yk := by
    intro d
    induction d with
    | zero =>
      intro t yz ht hz
      obtain rfl : t = 32 := by omega
      exact br_t (nI_le (a := 32) (Nat.le_refl _) (by omega)) (jy_count hs (jp_38 (js_m1 s hs h1) (js_m5 s hs) (fun ym' hm => hp yz ym' hz hm)))
    | succ d ih =>
      intro t yz ht hz
      refine br_f (nI_ge (b := 32) (by omega) (by omega)) (jy_sizeOf hE hS hT hF (by omega) ⟨vp_in_nI (by omega) (by omega), nm_r (e' := upd yz t (nI (jo_sz E S t))) ?_ (nm_r (nI_1 t) (ih (t + 1) _ (by omega) (fun a ha => ?_)))⟩)
      · rw [nI_clamp (by omega)]
      · by_cases e : a = t
        · subst e; exact pk_us
        · rw [pk_un e]; exact hz a (by omega)
  exact ⟨_, key 32 0 yz (by omega) (fun a ha => by omega)⟩
theorem jp_find {left : Nat} (hl : left < 32) : ∀ n sk t r, t + n ≤ 5 → sk < 2 ^ 31 → jo_find left n sk t = some r → r < 5 ∧ jo_hb left r = true ∧
    ∀ {fn fo ft fk fi : Int32} {yt yf yz ym yr yk : Nat → Int32} {post : SY → Prop} {J : Int32 → Int32 → Int32 → Int32 → (Nat → Int32) → (Nat → Int32) → (Nat → Int32) → (Nat → Int32) → (Nat → Int32) → (Nat → Int32) → Prop} {x4 x5 x7 : Int32} {i : Nat}, i < 5 →
      J x4 x5 (nI (left ^^^ 2 ^ r)) (nI (i + 1)) yt yf yz ym (upd yr i (nI r)) yk → wY_order_53 post J x4 x5 (nI left) x7 (nI i) fn fo ft fk fi yt yf yz ym yr yk n (nI sk) (nI t) := by
  intro n
  induction n with
  | zero => intro sk t r ht hsk h; exact nomatch h
  | succ n ih =>
    intro sk t r ht hsk h
    rw [jo_find] at h
    by_cases hb : jo_hb left t = true
    · rw [if_pos hb] at h
      by_cases h0 : sk = 0
      · subst h0
        rw [if_pos (show Nat.beq 0 0 = true from rfl)] at h
        cases h
        refine ⟨by omega, hb, fun {fn fo ft fk fi yt yf yz ym yr yk post J x4 x5 x7 i} hi hJ => ?_⟩
        refine jy_has (fn := fn) (fo := fo) (ft := ft) (fk := fk) (fi := fi) (yt := yt) (yf := yf) (yz := yz) (ym := ym) (yr := yr) (yk := yk) hl (by omega) (fun q => absurd hb (by rw [q]; decide)) (fun _ => br_t (by decide) ⟨vp_in_nI hi (by omega), nm_r ?_ (nm_r (e' := nI (left ^^^ 2 ^ t)) ?_ (nm_r (nI_1 _) hJ))⟩)
        · rw [nI_clamp (by omega)]
        · rw [jb_clr left hl t (by omega), if_pos hb]
      · rw [if_neg (fun q => h0 (Nat.eq_of_beq_eq_true q))] at h
        obtain ⟨r5, rb, H⟩ := ih (sk - 1) (t + 1) r (by omega) (by omega) h
        refine ⟨r5, rb, fun {fn fo ft fk fi yt yf yz ym yr yk post J x4 x5 x7 i} hi hJ => ?_⟩
        refine jy_has (fn := fn) (fo := fo) (ft := ft) (fk := fk) (fi := fi) (yt := yt) (yf := yf) (yz := yz) (ym := ym) (yr := yr) (yk := yk) hl (by omega) (fun q => absurd hb (by rw [q]; decide)) (fun _ => br_f (nI_nle (by omega) hsk) (jy_has (fn := fn) (fo := fo) (ft := ft) (fk := fk) (fi := fi) (yt := yt) (yf := yf) (yz := yz) (ym := ym) (yr := yr) (yk := yk) hl (by omega) (fun q => absurd hb (by rw [q]; decide)) (fun _ => nm_r (e' := nI (sk - 1)) (pk_sub (b := 1) (by omega)) (nm_r (nI_1 t) (H hi hJ)))))
    · rw [if_neg hb] at h
      obtain ⟨r5, rb, H⟩ := ih sk (t + 1) r (by omega) hsk h
      refine ⟨r5, rb, fun {fn fo ft fk fi yt yf yz ym yr yk post J x4 x5 x7 i} hi hJ => ?_⟩
      exact jy_has (fn := fn) (fo := fo) (ft := ft) (fk := fk) (fi := fi) (yt := yt) (yf := yf) (yz := yz) (ym := ym) (yr := yr) (yk := yk) hl (by omega) (fun _ => jy_has (fn := fn) (fo := fo) (ft := ft) (fk := fk) (fi := fi) (yt := yt) (yf := yf) (yz := yz) (ym := ym) (yr := yr) (yk := yk) hl (by omega) (fun _ => nm_r (nI_1 t) (H hi hJ)) (fun q => absurd q hb)) (fun q => absurd q hb)
/-- the row holds this list from a place on -/
def jo_Row (yr : Nat → Int32) : Nat → List Nat → Prop
  | _, [] => True
  | i, t :: l => yr i = nI t ∧ jo_Row yr (i + 1) l
theorem jp_ord : ∀ k rest unit left l, left < 32 → rest < 2 ^ 31 → unit < 2 ^ 31 → jo_ord k rest unit left = some l → l.length = k ∧ (∀ t, t ∈ l → t < 5) ∧
    ∀ {fn fo ft fk fi : Int32} {yt yf yz ym yr yk : Nat → Int32} {post : SY → Prop} {m i : Nat}, i + k = m → m ≤ 5 →
      (∀ yr', (∀ j, j < i → yr' j = yr j) → jo_Row yr' i l → post (fn, fo, ft, fk, fi, yt, yf, yz, ym, yr', yk)) → wY_order_19 post (nI m) fn fo ft fk fi (k + 1) (nI rest) (nI unit) (nI left) (nI i) yt yf yz ym yr yk := by
  intro k
  induction k with
  | zero =>
    intro rest unit left l hl hr hu h
    cases h
    refine ⟨rfl, (fun t ht => nomatch ht), fun hi hm hp => ?_⟩
    exact br_t (nI_le (by omega) (by omega)) (hp _ (fun _ _ => rfl) trivial)
  | succ k ih =>
    intro rest unit left l hl hr hu h
    rw [jo_ord] at h
    by_cases h0 : unit / (k + 1) = 0
    · rw [if_pos (by rw [h0]; rfl)] at h; exact nomatch h
    · rw [if_neg (fun q => h0 (Nat.eq_of_beq_eq_true q))] at h
      have hu0 : 0 < unit / (k + 1) := Nat.pos_of_ne_zero h0
      have hu' : unit / (k + 1) < 2 ^ 31 := Nat.lt_of_le_of_lt (Nat.div_le_self _ _) hu
      have hq : rest / (unit / (k + 1)) < 2 ^ 31 := Nat.lt_of_le_of_lt (Nat.div_le_self _ _) hr
      obtain ⟨r, hf, h⟩ := Option.bind_eq_some_iff.mp h
      obtain ⟨l', ho, h⟩ := Option.bind_eq_some_iff.mp h
      cases h
      obtain ⟨r5, rb, H⟩ := jp_find hl 5 _ 0 r (by omega) hq hf
      obtain ⟨e1, e2, G⟩ := ih _ _ _ l' (jb_xorlt hl (jb_bit r5)) (Nat.lt_of_le_of_lt (Nat.mod_le _ _) hr) hu' ho
      refine ⟨by rw [List.length_cons, e1], fun t ht => ?_, fun {fn fo ft fk fi yt yf yz ym yr yk post m i} hi hm hp => ?_⟩
      · rcases List.mem_cons.mp ht with rfl | ht
        · exact r5
        · exact e2 t ht
      · have e3 : nI m - nI i = nI (k + 1) := by
          rw [pk_sub (by omega)]; congr 1; omega
        refine br_f (nI_ge (by omega) (by omega)) ⟨by rw [e3]; exact nI_ne0 (by omega) (by omega), nm_r (e' := nI (unit / (k + 1))) ?_ ⟨nI_ne0 hu0 hu', nm_r (e' := nI (rest / (unit / (k + 1)))) ?_ ⟨nI_ne0 hu0 hu', nm_r (e' := nI (rest % (unit / (k + 1)))) ?_ ⟨5, H (by omega) (G (by omega) hm ?_)⟩⟩⟩⟩
        · rw [e3, pk_div hu (by omega) (by omega)]
        · rw [pk_div hr hu0 hu']
        · rw [pk_rem hr hu0 hu']
        · intro yr' hk hrow
          refine hp yr' (fun j hj => ?_) ⟨?_, hrow⟩
          · rw [hk j (by omega), pk_un (by omega)]
          · rw [hk i (by omega), pk_us]
/-- the stack, its top first -/
def jo_Stk (yk : Nat → Int32) : List Nat → Prop
  | [] => True
  | x :: st => yk st.length = nI x ∧ jo_Stk yk st
theorem jp_Stk_upd {q : Nat} {v : Int32} : ∀ st, st.length ≤ q → jo_Stk yk st → jo_Stk (upd yk q v) st := by
  intro st
  induction st with
  | nil => intro _ _; trivial
  | cons x st ih =>
    intro h hs
    rw [List.length_cons] at h
    exact ⟨by rw [pk_un (by omega)]; exact hs.1, ih (by omega) hs.2⟩
def jo_bI (b : Bool) : Int32 := if b = true then 1 else 0
def jo_lft (p : List (Nat × Nat)) : Int32 := match p.getLast? with
  | none => -4
  | some x => nI x.1
theorem jp_b (b : Bool) : narrow .boolean (.int (jo_bI b)) = .int (jo_bI b) ∧ fits .boolean (.int (jo_bI b)) = true := jy_b b
theorem jp_bz {b : Bool} {A B : Prop} (f : b = false → A) (t : b = true → B) : (jo_bI b = 0 → A) ∧ (¬ jo_bI b = 0 → B) := by
  cases b with
  | false => exact br_t rfl (f rfl)
  | true => exact br_f (by decide) (t rfl)
theorem jp_148 {m l r : Nat} (hl : l < 32) (hr : r < 32) {post : SY → Prop} {J : Int32 → Int32 → Int32 → Int32 → Int32 → Int32 → Int32 → (Nat → Int32) → (Nat → Int32) → (Nat → Int32) → (Nat → Int32) → (Nat → Int32) → (Nat → Int32) → Prop} {x1 x2 x4 : Int32} {q i c : Nat} {b : Bool} {z : Nat → Nat} (hq : q < 5) (hz : ∀ t, t < 32 → yz t = nI (z t))
    (hJ : J (nI (q + 1)) x4 (nI (i + 1)) (nI (c + z (l ||| r))) (nI l) fk (jo_bI b) yt yf yz ym yr (upd yk q (nI (l ||| r)))) :
    wY_follow_148 post J x1 x2 (nI (q + 1)) x4 (nI i) (nI r) (jo_bI b) fn (nI c) (nI l) fk fi yt yf yz ym yr yk := by
  have e1 : nI (q + 1) - 1 = nI q := nI_pred q
  have hlr := jb_orlt hl hr
  refine ⟨(jp_b b).1, (jp_b b).2, by rw [e1]; exact vp_in_nI hq (by omega), nm_r (e' := upd yk q (nI (l ||| r))) ?_ ⟨by rw [nx_or]; exact vp_in_nI hlr (by omega), nm_r (e' := nI (c + z (l ||| r))) ?_ (nm_r (nI_1 i) hJ)⟩⟩
  · rw [e1, nI_clamp (by omega), nx_or]
  · rw [nx_or, nI_clamp (by omega), hz _ hlr, nI_add]
theorem jp_122 {l r : Nat} (hl : l < 32) (hr : r < 32) {post : SY → Prop} {J : Int32 → Int32 → Int32 → Int32 → Int32 → Int32 → Int32 → (Nat → Int32) → (Nat → Int32) → (Nat → Int32) → (Nat → Int32) → (Nat → Int32) → (Nat → Int32) → Prop} {x1 x2 x4 : Int32} {q i c : Nat} {b b' : Bool} {z : Nat → Nat} (hq : q < 5) (hz : ∀ t, t < 32 → yz t = nI (z t))
    (hJ : J (nI (q + 1)) x4 (nI (i + 1)) (nI (c + z (l ||| r))) (nI l) (jo_bI b) (jo_bI (b' && jo_one r)) yt yf yz ym yr (upd yk q (nI (l ||| r)))) :
    wY_follow_122 post J x1 x2 (nI (q + 1)) x4 (nI i) (nI r) (jo_bI b) fn (nI c) (nI l) fk (jo_bI b') yt yf yz ym yr yk := by
  refine ⟨(jp_b b).1, (jp_b b).2, jp_bz (fun e => ?_) (fun e => ?_)⟩
  · subst e
    exact jp_148 (m := 0) (b := false) hl hr hq hz hJ
  · subst e
    refine ⟨fun h => ?_, fun h => ?_⟩
    · rw [(jb_one r hr).mp h] at hJ
      exact jp_148 (m := 0) (b := true) hl hr hq hz hJ
    · rw [jx_bf fun q => h ((jb_one r hr).mpr q)] at hJ
      exact jp_148 (m := 0) (b := false) hl hr hq hz hJ
theorem jp_lft (p : List (Nat × Nat)) (x : Nat × Nat) : jo_lft (p ++ [x]) = nI x.1 := by
  unfold jo_lft
  rw [List.getLast?_append]
  rfl
theorem jp_fol (hS : ∀ p, p < 25 → S p ≤ 6) (hF : jo_YF S K yf) {z : Nat → Nat} (hz : ∀ t, t < 32 → yz t = nI (z t)) {form m : Nat} (hf : form < 512) (m1 : 1 ≤ m) (m5 : m ≤ 5) {post : SY → Prop} :
    ∀ k i row stk js out tk yk, jo_fol form k i row stk js = some out → i + k = 2 * m - 1 → jo_Row yr tk row → tk + row.length ≤ 5 → (∀ t, t ∈ row → t < 5) → jo_Stk yk stk → stk.length ≤ 5 → (∀ x, x ∈ stk → x < 32) →
      (∀ yk', post (fn, nI (jo_c z out), jo_lft out, jo_bI (jo_lkd (jo_lk K) out), jo_bI (jo_lin out), yt, yf, yz, ym, yr, yk')) →
      wY_follow_29 post (nI form) (nI m) fn (k + 1) (nI stk.length) (nI tk) (nI i) (nI (jo_c z js)) (jo_lft js) (jo_bI (jo_lkd (jo_lk K) js)) (jo_bI (jo_lin js)) yt yf yz ym yr yk := by
  intro k
  induction k with
  | zero =>
    intro i row stk js out tk yk h hi hrow hrl hr5 hst hsl hs32 hp
    cases h
    exact br_t (by rw [jy_2m m1]; exact nI_le (by omega) (by omega)) (hp yk)
  | succ k ih =>
    intro i row stk js out tk yk h hi hrow hrl hr5 hst hsl hs32 hp
    rw [jo_fol.eq_def] at h
    dsimp only at h
    refine br_f (by rw [jy_2m m1]; exact nI_ge (by omega) (by omega)) ⟨fun q => ?_, fun q => ?_⟩
    · have hb := (jb_hf form hf i (by omega)).mp q
      rw [if_pos hb] at h
      cases row with
      | nil => exact nomatch h
      | cons t row =>
        have h' : (if Nat.ble 5 stk.length = true then none else jo_fol form k (i + 1) row (2 ^ t :: stk) js) = some out := h
        by_cases h5 : 5 ≤ stk.length
        · rw [if_pos (Nat.ble_eq_true_of_le h5)] at h'; exact nomatch h'
        · rw [if_neg (fun q => h5 (Nat.le_of_ble_eq_true q))] at h'
          have t5 : t < 5 := hr5 t (List.mem_cons_self ..)
          rw [List.length_cons] at hrl
          refine ⟨vp_in_nI (by omega) (by omega), vp_in_nI (by omega) (by omega), nm_r (e' := upd yk stk.length (nI (2 ^ t))) ?_ (nm_r (nI_1 _) (nm_r (nI_1 _) (nm_r (nI_1 _) ?_)))⟩
          · rw [nI_clamp (by omega), nI_clamp (by omega), hrow.1, jb_shl t (by omega)]
          · refine ih (i + 1) row (2 ^ t :: stk) js out (tk + 1) _ h' (by omega) hrow.2 (by omega) (fun x hx => hr5 x (List.mem_cons_of_mem _ hx)) ⟨pk_us, jp_Stk_upd stk (Nat.le_refl _) hst⟩ (by rw [List.length_cons]; omega) (fun x hx => ?_) hp
            rcases List.mem_cons.mp hx with rfl | hx
            · exact jb_bit t5
            · exact hs32 x hx
    · have hb : ¬ jo_hb form i = true := fun e => q ((jb_hf form hf i (by omega)).mpr e)
      rw [if_neg hb] at h
      match stk, h with
      | [], h => exact nomatch h
      | [_], h => exact nomatch h
      | r :: l :: st, h =>
        have h' : jo_fol form k (i + 1) row ((l ||| r) :: st) (js ++ [(l, r)]) = some out := h
        have hr : r < 32 := hs32 r (List.mem_cons_self ..)
        have hl : l < 32 := hs32 l (List.mem_cons_of_mem _ (List.mem_cons_self ..))
        have hlen : (r :: l :: st).length = st.length + 2 := rfl
        rw [hlen] at hsl ⊢
        have e1 : nI (st.length + 1) - 1 = nI st.length := nI_pred _
        have hgo := ih (i + 1) row ((l ||| r) :: st) (js ++ [(l, r)]) out tk (upd yk st.length (nI (l ||| r))) h' (by omega) hrow hrl hr5 ⟨pk_us, jp_Stk_upd st (Nat.le_refl _) hst.2.2⟩ (by rw [List.length_cons]; omega) (fun x hx => by
          rcases List.mem_cons.mp hx with rfl | hx
          · exact jb_orlt hl hr
          · exact hs32 x (List.mem_cons_of_mem _ (List.mem_cons_of_mem _ hx))) hp
        have ec : jo_c z (js ++ [(l, r)]) = jo_c z js + z (l ||| r) := by simp [jo_c]
        have ek : jo_lkd (jo_lk K) (js ++ [(l, r)]) = (jo_lkd (jo_lk K) js && jo_lk K l r) := by simp [jo_lkd]
        have ei : jo_lin (js ++ [(l, r)]) = (jo_lin js && jo_one r) := by simp [jo_lin]
        rw [ec, ek, ei, jp_lft, List.length_cons] at hgo
        refine nm_r (pk_m1 _) ⟨vp_in_nI (by omega) (by omega), nm_r (e' := nI r) ?_ ⟨by rw [e1]; exact vp_in_nI (by omega) (by omega), nm_r (e' := nI l) ?_ (jp_bz (fun e => ?_) (fun e => jy_lnk hS hF hl hr (fun g => jx_r0 ?_) (fun g => jx_r1 ?_)))⟩⟩
        · rw [nI_clamp (by omega)]; exact hst.1
        · rw [e1, nI_clamp (by omega)]; exact hst.2.1
        · rw [e] at hgo
          exact jp_122 (b := false) hl hr (by omega) hz hgo
        · rw [e, g] at hgo
          exact jp_122 (b := false) hl hr (by omega) hz hgo
        · rw [e, g] at hgo
          exact jp_122 (b := true) hl hr (by omega) hz hgo
end
end
section
/-! the reference: one run of its loops, and the loops -/
theorem jr_n : ∀ s, s < 32 → 1 ≤ s → jo_n s ≤ 1680 := by decide +kernel
theorem jr_fact : ∀ m, m < 6 → jo_fact m ≤ 120 := by decide +kernel
def jo_la (p : List (Nat × Nat)) : Nat := match p.getLast? with
  | none => 0
  | some x => x.1
theorem jr_lft {p : List (Nat × Nat)} (h : p ≠ []) : jo_lft p = nI (jo_la p) := by
  unfold jo_lft jo_la
  cases e : p.getLast? with
  | none => exact absurd (List.getLast?_eq_none_iff.mp e) h
  | some x => rfl
theorem jr_Row {yr : Nat → Int32} : ∀ (l : List Nat) (i q : Nat), jo_Row yr i l → q < l.length → yr (i + q) = jo_nth l q := by
  intro l
  induction l with
  | nil => intro i q _ h; exact absurd h (Nat.not_lt_zero q)
  | cons t l ih =>
    intro i q h hq
    cases q with
    | zero => rw [jl_nz]; exact h.1
    | succ q =>
      rw [jl_ns, show i + (q + 1) = i + 1 + q from by omega]
      exact ih (i + 1) q h.2 (by rw [List.length_cons] at hq; omega)
section
variable {fn fo ft fk fi : Int32} {yt yf yz ym yr yk : Nat → Int32} {E S : Nat → Nat} {K : Nat → Bool}
theorem jr_order {s num od : Nat} (hs : s < 32) (hn : num < 2 ^ 31) (ho : od < 2 ^ 31) {row : List Nat} (h : jo_ord (jo_m s) num od s = some row) {post : SY → Prop} (hp : ∀ yr', jo_Row yr' 0 row → post (fn, fo, ft, fk, fi, yt, yf, yz, ym, yr', yk)) : wpY_order post (fn, fo, ft, fk, fi, yt, yf, yz, ym, yr, yk) (nI s) (nI num) (nI od) := by
  unfold wpY_order
  refine jy_count hs ⟨_, (jp_ord _ _ _ _ _ hs hn ho h).2.2 (i := 0) (by omega) (js_m5 s hs) (fun yr' _ hr => hp yr' hr)⟩
theorem jr_follow (hS : ∀ p, p < 25 → S p ≤ 6) (hF : jo_YF S K yf) {z : Nat → Nat} (hz : ∀ t, t < 32 → yz t = nI (z t)) {form m : Nat} (hf : form < 512) (m1 : 1 ≤ m) (m5 : m ≤ 5) {row : List Nat} (hr : jo_Row yr 0 row) (hrl : row.length ≤ 5) (hr5 : ∀ t, t ∈ row → t < 5) {js : List (Nat × Nat)} (h : jo_fol form (2 * m - 1) 0 row [] [] = some js) {post : SY → Prop}
    (hp : ∀ yk', post (fn, nI (jo_c z js), jo_lft js, jo_bI (jo_lkd (jo_lk K) js), jo_bI (jo_lin js), yt, yf, yz, ym, yr, yk')) : wpY_follow post (fn, fo, ft, fk, fi, yt, yf, yz, ym, yr, yk) (nI form) (nI m) :=
  ⟨_, jp_fol hS hF hz hf m1 m5 (2 * m - 1) 0 row [] [] js 0 yk h (by omega) hr (by omega) hr5 trivial (Nat.zero_le _) (fun x hx => nomatch hx) hp⟩
theorem jr_rem {s i : Nat} (hs : s < 32) (h1 : 1 ≤ s) (hi : i < jo_n s) : 1 ≤ jo_fc s ∧ jo_fc s ≤ 14 ∧ nI i / nI (jo_fc s) = nI (i / jo_fc s) ∧ nI i - nI i / nI (jo_fc s) * nI (jo_fc s) = nI (i % jo_fc s) ∧ i % jo_fc s < jo_fc s := by
  have a := jr_n s hs h1
  have b := jp_FM0 (jo_m s) (by have := js_m5 s hs; omega) (js_m1 s hs h1)
  have c := jp_FM14 (jo_m s) (by have := js_m5 s hs; omega) (js_m1 s hs h1)
  have b' : 1 ≤ jo_fc s := b
  have c' : jo_fc s ≤ 14 := c
  exact ⟨b', c', pk_div (by omega) (by omega) (by omega), pk_rem (by omega) (by omega) (by omega), Nat.mod_lt _ (by omega)⟩
theorem jr_step (hS : ∀ p, p < 25 → S p ≤ 6) (hF : jo_YF S K yf) {z : Nat → Nat} (hz : ∀ t, t < 32 → yz t = nI (z t)) {s i : Nat} (h1 : 1 ≤ s) (hs : s < 32) (hi : i < jo_n s) (hm : jo_Fm (jo_FM (jo_m s)) ym) {post Q : SY → Prop}
    (hl : ∀ yr', (¬ nI (jo_fc s) = 0 ∧ vp_in (nI i - nI i / nI (jo_fc s) * nI (jo_fc s)) 14 ∧ wpY_follow Q (nI (jo_fc s), fo, ft, fk, fi, yt, yf, yz, ym, yr', yk) (ym (nI i - nI i / nI (jo_fc s) * nI (jo_fc s)).toNatClampNeg) (nI (jo_m s))) → post (nI (jo_fc s), fo, ft, fk, fi, yt, yf, yz, ym, yr', yk))
    (hQ : ∀ yr' yk', jo_Row yr' 0 (jo_rw (jo_R s i)) → (jo_rw (jo_R s i)).length = jo_m s → Q (nI (jo_fc s), nI (jo_c z (jo_pj s i)), jo_lft (jo_pj s i), jo_bI (jo_lkd (jo_lk K) (jo_pj s i)), jo_bI (jo_lin (jo_pj s i)), yt, yf, yz, ym, yr', yk')) :
    wpY_order post (nI (jo_fc s), fo, ft, fk, fi, yt, yf, yz, ym, yr, yk) (nI s) (nI i / nI (jo_fc s)) (nI (jo_fact (jo_m s))) := by
  obtain ⟨row, js, e⟩ := jm_Rs h1 hs hi
  obtain ⟨c1, c14, ed, er, hlt⟩ := jr_rem hs h1 hi
  have m5 := js_m5 s hs
  have m1 := js_m1 s hs h1
  have hn := jr_n s hs h1
  have hfa := jr_fact (jo_m s) (by omega)
  have er1 : jo_rw (jo_R s i) = row := by rw [e]; rfl
  have er2 : jo_pj s i = js := by unfold jo_pj; rw [e]; rfl
  rw [er1, er2] at hQ
  unfold jo_R at e
  obtain ⟨row', e1, e⟩ := Option.bind_eq_some_iff.mp e
  obtain ⟨js', e2, e⟩ := Option.bind_eq_some_iff.mp e
  cases e
  have hnum : i / jo_fc s < 2 ^ 31 := Nat.lt_of_le_of_lt (Nat.div_le_self _ _) (by omega)
  obtain ⟨q1, q2, _⟩ := jp_ord _ _ _ _ _ hs hnum (by omega) e1
  rw [ed]
  refine jr_order hs hnum (by omega) e1 (fun yr' hr => hl yr' ⟨nI_ne0 (by omega) (by omega), ?_, ?_⟩)
  · rw [er]; exact vp_in_nI (by omega) (by omega)
  · rw [er, nI_clamp (by omega), hm _ hlt]
    exact jr_follow hS hF hz (jp_FM512 (jo_m s) (by omega) m1 _ (by omega)) m1 m5 hr (by omega) q2 e2 (fun yk' => hQ yr' yk' hr q1)
/-- which plans a loop of the reference looks at -/
def jo_Kd (K : Nat → Bool) (x : Int32) (kd : List (Nat × Nat) → Bool) : Prop := (x = 0 ∧ ∀ p, kd p = true) ∨ (x = 1 ∧ ∀ p, kd p = jo_lin p) ∨ (x = 2 ∧ ∀ p, kd p = jo_lkd (jo_lk K) p)
theorem jr_kind {x : Int32} {kd : List (Nat × Nat) → Bool} (hk : jo_Kd K x kd) {p : List (Nat × Nat)} {A B : Prop} (f : kd p = false → A) (t : kd p = true → B) :
    wpY_isKind (fun r => (r = 0 → A) ∧ (¬ r = 0 → B)) (fn, fo, ft, jo_bI (jo_lkd (jo_lk K) p), jo_bI (jo_lin p), yt, yf, yz, ym, yr, yk) x := by
  rcases hk with ⟨rfl, h⟩ | ⟨rfl, h⟩ | ⟨rfl, h⟩
  · exact br_t rfl (jx_r1 (t (h p)))
  · exact br_f (by decide) (br_t rfl (jp_bz (fun e => jx_r0 (f (by rw [h, e]))) (fun e => jx_r1 (t (by rw [h, e])))))
  · exact br_f (by decide) (br_f (by decide) (jp_bz (fun e => jx_r0 (f (by rw [h, e]))) (fun e => jx_r1 (t (by rw [h, e])))))
theorem jr_neg {x : Nat} (h : x < 2 ^ 31) : ¬ nI x ≤ -4 := by
  rw [Int32.le_iff_toInt_le, nI_toInt h, show (-4 : Int32).toInt = -4 from by decide]; omega
/-- what the loop of extreme has found among the first i runs -/
def jo_Mn (z : Nat → Nat) (kd : List (Nat × Nat) → Bool) (s i : Nat) (best : Int32) : Prop :=
  (best = -4 ∧ ∀ j, j < i → kd (jo_pj s j) = false) ∨ ∃ j, j < i ∧ kd (jo_pj s j) = true ∧ best = nI (jo_c z (jo_pj s j)) ∧ ∀ q, q < i → kd (jo_pj s q) = true → jo_c z (jo_pj s j) ≤ jo_c z (jo_pj s q)
def jo_Mx (z : Nat → Nat) (kd : List (Nat × Nat) → Bool) (s i : Nat) (best : Int32) : Prop :=
  (best = -4 ∧ ∀ j, j < i → kd (jo_pj s j) = false) ∨ ∃ j, j < i ∧ kd (jo_pj s j) = true ∧ best = nI (jo_c z (jo_pj s j)) ∧ ∀ q, q < i → kd (jo_pj s q) = true → jo_c z (jo_pj s q) ≤ jo_c z (jo_pj s j)
theorem jr_mul {s : Nat} : nI (jo_fact (jo_m s)) * nI (jo_fc s) = nI (jo_n s) := pk_mul _ _
theorem jr_105 {kd : List (Nat × Nat) → Bool} {x2 : Int32} (hk : jo_Kd K x2 kd) {post : Int32 → SY → Prop} {J : Int32 → Int32 → Int32 → Int32 → Int32 → Int32 → Int32 → (Nat → Int32) → (Nat → Int32) → (Nat → Int32) → (Nat → Int32) → (Nat → Int32) → (Nat → Int32) → Prop} {x1 x3 x4 x5 x6 z0 : Int32} {p : List (Nat × Nat)} {i : Nat}
    (f : (kd p = false ∨ z0 = 0) → J x6 (nI (i + 1)) fn fo ft (jo_bI (jo_lkd (jo_lk K) p)) (jo_bI (jo_lin p)) yt yf yz ym yr yk) (t : kd p = true → ¬ z0 = 0 → J fo (nI (i + 1)) fn fo ft (jo_bI (jo_lkd (jo_lk K) p)) (jo_bI (jo_lin p)) yt yf yz ym yr yk) :
    wY_extreme_105 post J x1 x2 x3 x4 x5 x6 (nI i) z0 fn fo ft (jo_bI (jo_lkd (jo_lk K) p)) (jo_bI (jo_lin p)) yt yf yz ym yr yk := by
  unfold wY_extreme_105
  refine jr_kind hk (fun e => nm_r (nI_1 i) (f (Or.inl e))) (fun e => ⟨fun h => nm_r (nI_1 i) (f (Or.inr h)), fun h => nm_r (nI_1 i) (t e h)⟩)
theorem jr_min (hS : ∀ p, p < 25 → S p ≤ 6) (hF : jo_YF S K yf) {z : Nat → Nat} (hzb : ∀ s, s < 32 → z s ≤ 64 ^ (jo_m s)) (hz : ∀ t, t < 32 → yz t = nI (z t)) {s : Nat} (h1 : 1 ≤ s) (hs : s < 32) (hm : jo_Fm (jo_FM (jo_m s)) ym) {x2 : Int32} {kd : List (Nat × Nat) → Bool} (hk : jo_Kd K x2 kd) {post : Int32 → SY → Prop}
    (hp : ∀ best fo ft fk fi yr yk, jo_Mn z kd s (jo_n s) best → post best (nI (jo_fc s), fo, ft, fk, fi, yt, yf, yz, ym, yr, yk)) :
    ∃ n, wY_extreme_21 post (nI s) x2 0 (nI (jo_fact (jo_m s))) (nI (jo_m s)) n (-4) 0 (nI (jo_fc s)) fo ft fk fi yt yf yz ym yr yk := by
  have hn := jr_n s hs h1
  have key : ∀ d i best fo ft fk fi yr yk, i + d = jo_n s → jo_Mn z kd s i best → wY_extreme_21 post (nI s) x2 0 (nI (jo_fact (jo_m s))) (nI (jo_m s)) (d + 1) best (nI i) (nI (jo_fc s)) fo ft fk fi yt yf yz ym yr yk := by
    intro d
    induction d with
    | zero =>
      intro i best fo ft fk fi yr yk hi hM
      obtain rfl : i = jo_n s := by omega
      exact br_t (by rw [jr_mul]; exact nI_le (Nat.le_refl _) (by omega)) (hp _ _ _ _ _ _ _ hM)
    | succ d ih =>
      intro i best fo ft fk fi yr yk hi hM
      have hi' : i < jo_n s := by omega
      obtain ⟨c1, c14, _⟩ := jr_rem hs h1 hi'
      have hcb := jm_cb' hzb h1 hs (jm_pj_in h1 hs hi')
      have keep : ∀ {fo ft fk fi yr yk}, (kd (jo_pj s i) = false ∨ ∃ j, j < i ∧ kd (jo_pj s j) = true ∧ best = nI (jo_c z (jo_pj s j)) ∧ (∀ q, q < i → kd (jo_pj s q) = true → jo_c z (jo_pj s j) ≤ jo_c z (jo_pj s q)) ∧ jo_c z (jo_pj s j) ≤ jo_c z (jo_pj s i)) →
          wY_extreme_21 post (nI s) x2 0 (nI (jo_fact (jo_m s))) (nI (jo_m s)) (d + 1) best (nI (i + 1)) (nI (jo_fc s)) fo ft fk fi yt yf yz ym yr yk := by
        intro fo ft fk fi yr yk h
        refine ih (i + 1) best _ _ _ _ _ _ (by omega) ?_
        rcases h with e | ⟨j, j1, j2, j3, j4, j5⟩
        · rcases hM with ⟨b1, b2⟩ | ⟨j, j1, j2, j3, j4⟩
          · refine Or.inl ⟨b1, fun j hj => ?_⟩
            by_cases q : j = i
            · subst q; exact e
            · exact b2 j (by omega)
          · refine Or.inr ⟨j, by omega, j2, j3, fun q hq hk => ?_⟩
            by_cases q' : q = i
            · subst q'; rw [e] at hk; exact nomatch hk
            · exact j4 q (by omega) hk
        · refine Or.inr ⟨j, by omega, j2, j3, fun q hq hk => ?_⟩
          by_cases q' : q = i
          · subst q'; exact j5
          · exact j4 q (by omega) hk
      have take : ∀ {ft fk fi yr yk}, kd (jo_pj s i) = true → (∀ q, q < i → kd (jo_pj s q) = true → jo_c z (jo_pj s i) ≤ jo_c z (jo_pj s q)) →
          wY_extreme_21 post (nI s) x2 0 (nI (jo_fact (jo_m s))) (nI (jo_m s)) (d + 1) (nI (jo_c z (jo_pj s i))) (nI (i + 1)) (nI (jo_fc s)) (nI (jo_c z (jo_pj s i))) ft fk fi yt yf yz ym yr yk := by
        intro ft fk fi yr yk e h
        refine ih (i + 1) _ _ _ _ _ _ _ (by omega) (Or.inr ⟨i, by omega, e, rfl, fun q hq hk => ?_⟩)
        by_cases q' : q = i
        · subst q'; exact Nat.le_refl _
        · exact h q (by omega) hk
      refine br_f (by rw [jr_mul]; exact nI_ge (by omega) (by omega)) ⟨nI_ne0 (by omega) (by omega), jr_step hS hF hz h1 hs hi' hm (fun _ h => h) (fun yr' yk' _ _ => br_t rfl ?_)⟩
      rcases hM with ⟨rfl, b2⟩ | ⟨j, j1, j2, rfl, j4⟩
      · refine br_t (by decide) (jr_105 hk (fun e => keep ?_) (fun e _ => take e (fun q hq hk => by rw [b2 q hq] at hk; exact nomatch hk)))
        rcases e with e | e
        · exact Or.inl e
        · exact absurd e (by decide)
      · have hcj := jm_cb' hzb h1 hs (jm_pj_in h1 hs (by omega : j < jo_n s))
        refine br_f (nI_pos (by omega)) (pk_le (jo_c z (jo_pj s j)) (jo_c z (jo_pj s i)) (fun hle => ?_) (fun hlt => ?_) rfl rfl (by omega) (by omega))
        · exact jr_105 hk (fun e => keep (Or.inr ⟨j, j1, j2, rfl, j4, hle⟩)) (fun _ e => absurd rfl e)
        · refine jr_105 hk (fun e => keep ?_) (fun e _ => take e (fun q hq hk => by have := j4 q hq hk; omega))
          rcases e with e | e
          · exact Or.inl e
          · exact absurd e (by decide)
  exact ⟨_, key (jo_n s) 0 (-4) fo ft fk fi yr yk (by omega) (Or.inl ⟨rfl, fun j hj => by omega⟩)⟩
theorem jr_max (hS : ∀ p, p < 25 → S p ≤ 6) (hF : jo_YF S K yf) {z : Nat → Nat} (hzb : ∀ s, s < 32 → z s ≤ 64 ^ (jo_m s)) (hz : ∀ t, t < 32 → yz t = nI (z t)) {s : Nat} (h1 : 1 ≤ s) (hs : s < 32) (hm : jo_Fm (jo_FM (jo_m s)) ym) {x2 : Int32} {kd : List (Nat × Nat) → Bool} (hk : jo_Kd K x2 kd) {post : Int32 → SY → Prop}
    (hp : ∀ best fo ft fk fi yr yk, jo_Mx z kd s (jo_n s) best → post best (nI (jo_fc s), fo, ft, fk, fi, yt, yf, yz, ym, yr, yk)) :
    ∃ n, wY_extreme_21 post (nI s) x2 1 (nI (jo_fact (jo_m s))) (nI (jo_m s)) n (-4) 0 (nI (jo_fc s)) fo ft fk fi yt yf yz ym yr yk := by
  have hn := jr_n s hs h1
  have key : ∀ d i best fo ft fk fi yr yk, i + d = jo_n s → jo_Mx z kd s i best → wY_extreme_21 post (nI s) x2 1 (nI (jo_fact (jo_m s))) (nI (jo_m s)) (d + 1) best (nI i) (nI (jo_fc s)) fo ft fk fi yt yf yz ym yr yk := by
    intro d
    induction d with
    | zero =>
      intro i best fo ft fk fi yr yk hi hM
      obtain rfl : i = jo_n s := by omega
      exact br_t (by rw [jr_mul]; exact nI_le (Nat.le_refl _) (by omega)) (hp _ _ _ _ _ _ _ hM)
    | succ d ih =>
      intro i best fo ft fk fi yr yk hi hM
      have hi' : i < jo_n s := by omega
      obtain ⟨c1, c14, _⟩ := jr_rem hs h1 hi'
      have hcb := jm_cb' hzb h1 hs (jm_pj_in h1 hs hi')
      have keep : ∀ {fo ft fk fi yr yk}, (kd (jo_pj s i) = false ∨ ∃ j, j < i ∧ kd (jo_pj s j) = true ∧ best = nI (jo_c z (jo_pj s j)) ∧ (∀ q, q < i → kd (jo_pj s q) = true → jo_c z (jo_pj s q) ≤ jo_c z (jo_pj s j)) ∧ jo_c z (jo_pj s i) ≤ jo_c z (jo_pj s j)) →
          wY_extreme_21 post (nI s) x2 1 (nI (jo_fact (jo_m s))) (nI (jo_m s)) (d + 1) best (nI (i + 1)) (nI (jo_fc s)) fo ft fk fi yt yf yz ym yr yk := by
        intro fo ft fk fi yr yk h
        refine ih (i + 1) best _ _ _ _ _ _ (by omega) ?_
        rcases h with e | ⟨j, j1, j2, j3, j4, j5⟩
        · rcases hM with ⟨b1, b2⟩ | ⟨j, j1, j2, j3, j4⟩
          · refine Or.inl ⟨b1, fun j hj => ?_⟩
            by_cases q : j = i
            · subst q; exact e
            · exact b2 j (by omega)
          · refine Or.inr ⟨j, by omega, j2, j3, fun q hq hk => ?_⟩
            by_cases q' : q = i
            · subst q'; rw [e] at hk; exact nomatch hk
            · exact j4 q (by omega) hk
        · refine Or.inr ⟨j, by omega, j2, j3, fun q hq hk => ?_⟩
          by_cases q' : q = i
          · subst q'; exact j5
          · exact j4 q (by omega) hk
      have take : ∀ {ft fk fi yr yk}, kd (jo_pj s i) = true → (∀ q, q < i → kd (jo_pj s q) = true → jo_c z (jo_pj s q) ≤ jo_c z (jo_pj s i)) →
          wY_extreme_21 post (nI s) x2 1 (nI (jo_fact (jo_m s))) (nI (jo_m s)) (d + 1) (nI (jo_c z (jo_pj s i))) (nI (i + 1)) (nI (jo_fc s)) (nI (jo_c z (jo_pj s i))) ft fk fi yt yf yz ym yr yk := by
        intro ft fk fi yr yk e h
        refine ih (i + 1) _ _ _ _ _ _ _ (by omega) (Or.inr ⟨i, by omega, e, rfl, fun q hq hk => ?_⟩)
        by_cases q' : q = i
        · subst q'; exact Nat.le_refl _
        · exact h q (by omega) hk
      refine br_f (by rw [jr_mul]; exact nI_ge (by omega) (by omega)) ⟨nI_ne0 (by omega) (by omega), jr_step hS hF hz h1 hs hi' hm (fun _ h => h) (fun yr' yk' _ _ => br_f (by decide) ?_)⟩
      rcases hM with ⟨rfl, b2⟩ | ⟨j, j1, j2, rfl, j4⟩
      · refine br_f (jr_neg (by omega)) (jr_105 hk (fun e => keep ?_) (fun e _ => take e (fun q hq hk => by rw [b2 q hq] at hk; exact nomatch hk)))
        rcases e with e | e
        · exact Or.inl e
        · exact absurd e (by decide)
      · have hcj := jm_cb' hzb h1 hs (jm_pj_in h1 hs (by omega : j < jo_n s))
        refine pk_le (jo_c z (jo_pj s i)) (jo_c z (jo_pj s j)) (fun hle => ?_) (fun hlt => ?_) rfl rfl (by omega) (by omega)
        · exact jr_105 hk (fun e => keep (Or.inr ⟨j, j1, j2, rfl, j4, hle⟩)) (fun _ e => absurd rfl e)
        · refine jr_105 hk (fun e => keep ?_) (fun e _ => take e (fun q hq hk => by have := j4 q hq hk; omega))
          rcases e with e | e
          · exact Or.inl e
          · exact absurd e (by decide)
  exact ⟨_, key (jo_n s) 0 (-4) fo ft fk fi yr yk (by omega) (Or.inl ⟨rfl, fun j hj => by omega⟩)⟩
end
end
section
/-! the reference: counts, left, linearTable; what extreme answers -/
theorem jr_n0 {s : Nat} (h1 : 1 ≤ s) (hs : s < 32) : 0 < jo_n s := by
  obtain ⟨p, hp⟩ := List.exists_mem_of_ne_nil _ (jv_ne s h1 hs)
  obtain ⟨i, hi, _⟩ := jm_pj_ex h1 hs hp
  omega
theorem jr_mn_lv {z : Nat → Nat} {kd : List (Nat × Nat) → Bool} {s : Nat} (h1 : 1 ≤ s) (hs : s < 32) (hk : ∀ p, kd p = true) {best : Int32} (h : jo_Mn z kd s (jo_n s) best) : best = nI (jo_lv z s) := by
  rcases h with ⟨_, h⟩ | ⟨j, j1, _, e, H⟩
  · have := h 0 (jr_n0 h1 hs); rw [hk] at this; exact nomatch this
  · rw [e, jv_lu h1 hs ⟨⟨jo_pj s j, jm_pj_in h1 hs j1, rfl⟩, fun p hp => ?_⟩]
    obtain ⟨q, hq, rfl⟩ := jm_pj_ex h1 hs hp
    exact H q hq (hk _)
theorem jr_mx_gv {z : Nat → Nat} {kd : List (Nat × Nat) → Bool} {s : Nat} (h1 : 1 ≤ s) (hs : s < 32) (hk : ∀ p, kd p = true) {best : Int32} (h : jo_Mx z kd s (jo_n s) best) : best = nI (jo_gv z s) := by
  rcases h with ⟨_, h⟩ | ⟨j, j1, _, e, H⟩
  · have := h 0 (jr_n0 h1 hs); rw [hk] at this; exact nomatch this
  · rw [e, jv_gu h1 hs ⟨⟨jo_pj s j, jm_pj_in h1 hs j1, rfl⟩, fun p hp => ?_⟩]
    obtain ⟨q, hq, rfl⟩ := jm_pj_ex h1 hs hp
    exact H q hq (hk _)
theorem jr_mn_kv {z : Nat → Nat} {lk : Nat → Nat → Bool} {kd : List (Nat × Nat) → Bool} {s : Nat} (h1 : 1 ≤ s) (hs : s < 32) (hk : ∀ p, kd p = jo_lkd lk p) {best : Int32} (h : jo_Mn z kd s (jo_n s) best) : best = jo_ki (jo_kv z lk s) := by
  rcases h with ⟨e, h⟩ | ⟨j, j1, j2, e, H⟩
  · rw [e, jv_ku (o := none) h1 hs ⟨fun _ p hp => ?_, fun v q => nomatch q⟩]
    · rfl
    · obtain ⟨q, hq, rfl⟩ := jm_pj_ex h1 hs hp
      rw [← hk]; exact h q hq
  · rw [e, jv_ku (o := some (jo_c z (jo_pj s j))) h1 hs ⟨fun q => (nomatch q), fun v q => ?_⟩]
    · rfl
    · cases q
      refine ⟨⟨jo_pj s j, jm_pj_in h1 hs j1, by rw [← hk]; exact j2, rfl⟩, fun p hp hl => ?_⟩
      obtain ⟨q, hq, rfl⟩ := jm_pj_ex h1 hs hp
      exact H q hq (by rw [hk]; exact hl)
theorem jr_mn_ll {z : Nat → Nat} {kd : List (Nat × Nat) → Bool} {s : Nat} (h1 : 1 ≤ s) (hs : s < 32) (hk : ∀ p, kd p = jo_lin p) {best : Int32} (h : jo_Mn z kd s (jo_n s) best) : best = nI (jo_ll z s 0) := by
  have hz := jl_zero s hs
  rcases h with ⟨_, h⟩ | ⟨j, j1, j2, e, H⟩
  · obtain ⟨⟨l, hl, _⟩, _⟩ := jv_ll (z := z) hs (by omega) hz
    obtain ⟨i, hi, hi1, _⟩ := jm_lin_b (z := z) h1 hs hl
    have := h i hi; rw [hk, hi1] at this; exact nomatch this
  · rw [hk] at j2
    obtain ⟨l, hl, el⟩ := jm_lin_a (z := z) h1 hs j1 j2
    rw [e, jv_llu hs (by omega) hz ⟨⟨l, hl, el.symm⟩, fun l' hl' => ?_⟩]
    obtain ⟨i, hi, hi1, hi2⟩ := jm_lin_b (z := z) h1 hs hl'
    rw [← hi2]; exact H i hi (by rw [hk]; exact hi1)
section
variable {fn fo ft fk fi : Int32} {yt yf yz ym yr yk : Nat → Int32} {E S : Nat → Nat} {K : Nat → Bool}
theorem jr_extmin (hE : ∀ i, i < 5 → E i ≤ 6) (hS : ∀ p, p < 25 → S p ≤ 6) (hT : jo_YT E yt) (hF : jo_YF S K yf) {s : Nat} (h1 : 1 ≤ s) (hs : s < 32) {x2 : Int32} {kd : List (Nat × Nat) → Bool} (hk : jo_Kd K x2 kd) {post : Int32 → SY → Prop}
    (hp : ∀ best fn fo ft fk fi yz ym yr yk, jo_Mn (jo_sz E S) kd s (jo_n s) best → post best (fn, fo, ft, fk, fi, yt, yf, yz, ym, yr, yk)) : wpY_extreme post (fn, fo, ft, fk, fi, yt, yf, yz, ym, yr, yk) (nI s) x2 0 := by
  have hz : ∀ s, s < 32 → jo_sz E S s ≤ 64 ^ (jo_m s) := fun s _ => js_sz hE hS s
  unfold wpY_extreme
  exact jp_prepare hE hS hT hF h1 hs (fun yz' ym' hz' hm => jy_count hs (jr_min hS hF hz hz' h1 hs hm hk (fun best fo ft fk fi yr yk hM => hp best _ fo ft fk fi _ _ yr yk hM)))
theorem jr_extmax (hE : ∀ i, i < 5 → E i ≤ 6) (hS : ∀ p, p < 25 → S p ≤ 6) (hT : jo_YT E yt) (hF : jo_YF S K yf) {s : Nat} (h1 : 1 ≤ s) (hs : s < 32) {x2 : Int32} {kd : List (Nat × Nat) → Bool} (hk : jo_Kd K x2 kd) {post : Int32 → SY → Prop}
    (hp : ∀ best fn fo ft fk fi yz ym yr yk, jo_Mx (jo_sz E S) kd s (jo_n s) best → post best (fn, fo, ft, fk, fi, yt, yf, yz, ym, yr, yk)) : wpY_extreme post (fn, fo, ft, fk, fi, yt, yf, yz, ym, yr, yk) (nI s) x2 1 := by
  have hz : ∀ s, s < 32 → jo_sz E S s ≤ 64 ^ (jo_m s) := fun s _ => js_sz hE hS s
  unfold wpY_extreme
  exact jp_prepare hE hS hT hF h1 hs (fun yz' ym' hz' hm => jy_count hs (jr_max hS hF hz hz' h1 hs hm hk (fun best fo ft fk fi yr yk hM => hp best _ fo ft fk fi _ _ yr yk hM)))
theorem jr_cnt_s {s i : Nat} (fb : List (Nat × Nat) → Bool) : ((List.range (i + 1)).map (jo_pj s)).countP fb = ((List.range i).map (jo_pj s)).countP fb + if fb (jo_pj s i) = true then 1 else 0 := by
  rw [List.range_succ, List.map_append, List.countP_append]
  simp [List.countP_cons]
theorem jr_countPlans (hE : ∀ i, i < 5 → E i ≤ 6) (hS : ∀ p, p < 25 → S p ≤ 6) (hT : jo_YT E yt) (hF : jo_YF S K yf) {s : Nat} (h1 : 1 ≤ s) (hs : s < 32) {x2 x3 : Int32} {kd fb : List (Nat × Nat) → Bool} (hk : jo_Kd K x2 kd)
    (hfb : (x3 = -1 ∧ ∀ p, fb p = kd p) ∨ (∃ o, x3 = nI o ∧ o < 2 ^ 31 ∧ ∀ p, fb p = (kd p && (jo_c (jo_sz E S) p == o)))) {post : Int32 → SY → Prop}
    (hp : ∀ fn fo ft fk fi yz ym yr yk, post (nI ((jo_P s).countP fb)) (fn, fo, ft, fk, fi, yt, yf, yz, ym, yr, yk)) : wpY_countPlans post (fn, fo, ft, fk, fi, yt, yf, yz, ym, yr, yk) (nI s) x2 x3 := by
  have hzb : ∀ s, s < 32 → jo_sz E S s ≤ 64 ^ (jo_m s) := fun s _ => js_sz hE hS s
  have hn := jr_n s hs h1
  unfold wpY_countPlans
  refine jp_prepare hE hS hT hF h1 hs (fun yz ym hz hm => jy_count hs ?_)
  have key : ∀ d i fo ft fk fi yr yk, i + d = jo_n s → wY_countPlans_20 post (nI s) x2 x3 (nI (jo_fact (jo_m s))) (nI (jo_m s)) (d + 1) (nI (((List.range i).map (jo_pj s)).countP fb)) (nI i) (nI (jo_fc s)) fo ft fk fi yt yf yz ym yr yk := by
    intro d
    induction d with
    | zero =>
      intro i fo ft fk fi yr yk hi
      obtain rfl : i = jo_n s := by omega
      rw [jm_pj_cnt h1 hs]
      exact br_t (by rw [jr_mul]; exact nI_le (Nat.le_refl _) (by omega)) (hp _ _ _ _ _ _ _ _ _)
    | succ d ih =>
      intro i fo ft fk fi yr yk hi
      have hi' : i < jo_n s := by omega
      obtain ⟨c1, c14, _⟩ := jr_rem hs h1 hi'
      have hcb := jm_cb' hzb h1 hs (jm_pj_in h1 hs hi')
      have no : ∀ {fo ft fk fi yr yk}, fb (jo_pj s i) = false → wY_countPlans_20 post (nI s) x2 x3 (nI (jo_fact (jo_m s))) (nI (jo_m s)) (d + 1) (nI (((List.range i).map (jo_pj s)).countP fb)) (nI (i + 1)) (nI (jo_fc s)) fo ft fk fi yt yf yz ym yr yk := by
        intro fo ft fk fi yr yk e
        have := ih (i + 1) fo ft fk fi yr yk (by omega)
        rw [jr_cnt_s, if_neg (by rw [e]; decide)] at this
        exact this
      have yes : ∀ {fo ft fk fi yr yk}, fb (jo_pj s i) = true → wY_countPlans_20 post (nI s) x2 x3 (nI (jo_fact (jo_m s))) (nI (jo_m s)) (d + 1) (nI (((List.range i).map (jo_pj s)).countP fb + 1)) (nI (i + 1)) (nI (jo_fc s)) fo ft fk fi yt yf yz ym yr yk := by
        intro fo ft fk fi yr yk e
        have := ih (i + 1) fo ft fk fi yr yk (by omega)
        rw [jr_cnt_s, if_pos e] at this
        exact this
      refine br_f (by rw [jr_mul]; exact nI_ge (by omega) (by omega)) ⟨nI_ne0 (by omega) (by omega), jr_step hS hF hz h1 hs hi' hm (fun _ h => h) (fun yr' yk' _ _ => jr_kind hk (fun e => nm_r (nI_1 i) (no ?_)) (fun e => ?_))⟩
      · rcases hfb with ⟨_, h⟩ | ⟨o, _, _, h⟩
        · rw [h, e]
        · rw [h, e]; rfl
      · rcases hfb with ⟨rfl, h⟩ | ⟨o, rfl, ho, h⟩
        · exact br_t (by decide) (nm_r (nI_1 _) (nm_r (nI_1 i) (yes (by rw [h, e]))))
        · refine br_f (nI_pos ho) (pk_eq (jo_c (jo_sz E S) (jo_pj s i)) o (fun q => nm_r (nI_1 _) (nm_r (nI_1 i) (yes ?_))) (fun q => nm_r (nI_1 i) (no ?_)) rfl rfl (by omega) ho)
          · rw [h, e, q]; simp
          · rw [h, e]; simpa using q
  exact ⟨_, key (jo_n s) 0 fo ft fk fi yr yk (by omega)⟩
theorem jr_left0 (hS : ∀ p, p < 25 → S p ≤ 6) (hF : jo_YF S K yf) {z : Nat → Nat} (hz : ∀ t, t < 32 → yz t = nI (z t)) {s : Nat} (h1 : 1 ≤ s) (hs : s < 32) (ho : jo_one s = true) (hm : jo_Fm (jo_FM (jo_m s)) ym) {x2 : Int32} {post : Int32 → SY → Prop}
    (hp : ∀ fo ft fk fi yr yk, post (-4) (nI (jo_fc s), fo, ft, fk, fi, yt, yf, yz, ym, yr, yk)) :
    ∃ n, wY_left_38 post (nI s) x2 (nI (jo_fact (jo_m s))) (nI (jo_m s)) n (-4) 0 (nI (jo_fc s)) fo ft fk fi yt yf yz ym yr yk := by
  have hn := jr_n s hs h1
  have key : ∀ d i fo ft fk fi yr yk, i + d = jo_n s → wY_left_38 post (nI s) x2 (nI (jo_fact (jo_m s))) (nI (jo_m s)) (d + 1) (-4) (nI i) (nI (jo_fc s)) fo ft fk fi yt yf yz ym yr yk := by
    intro d
    induction d with
    | zero =>
      intro i fo ft fk fi yr yk hi
      obtain rfl : i = jo_n s := by omega
      exact br_t (by rw [jr_mul]; exact nI_le (Nat.le_refl _) (by omega)) (hp _ _ _ _ _ _)
    | succ d ih =>
      intro i fo ft fk fi yr yk hi
      have hi' : i < jo_n s := by omega
      obtain ⟨c1, c14, _⟩ := jr_rem hs h1 hi'
      have e0 : jo_pj s i = [] := by
        have := jm_pj_in h1 hs hi'
        rw [jm_P_one ho, List.mem_singleton] at this
        exact this
      refine br_f (by rw [jr_mul]; exact nI_ge (by omega) (by omega)) ⟨nI_ne0 (by omega) (by omega), jr_step hS hF hz h1 hs hi' hm (fun _ h => h) (fun yr' yk' _ _ => ?_)⟩
      rw [e0]
      exact ⟨fun _ => br_t (by decide) (nm_r (nI_1 i) (ih (i + 1) _ _ _ _ _ _ (by omega))), fun _ => nm_r (nI_1 i) (ih (i + 1) _ _ _ _ _ _ (by omega))⟩
  exact ⟨_, key (jo_n s) 0 fo ft fk fi yr yk (by omega)⟩
theorem jr_la {s : Nat} (h1 : 1 ≤ s) (hs : s < 32) (ho : ¬ jo_one s = true) {p : List (Nat × Nat)} (hp : p ∈ jo_P s) : p ≠ [] ∧ jo_la p ∈ jo_ps s s ∧ ∃ p1, p1 ∈ jo_P (jo_la p) ∧ ∃ q, q ∈ jo_P (s ^^^ jo_la p) ∧ p1 ++ (q ++ [(jo_la p, s ^^^ jo_la p)]) = p := by
  obtain ⟨a, ha, p1, hp1, q, hq, rfl⟩ := (jm_mem h1 hs ho).mp hp
  have e : jo_la (p1 ++ (q ++ [(a, s ^^^ a)])) = a := by
    unfold jo_la
    rw [← List.append_assoc, List.getLast?_append]
    rfl
  rw [e]
  exact ⟨by simp, ha, p1, hp1, q, hq, rfl⟩
theorem jr_left1 (hS : ∀ p, p < 25 → S p ≤ 6) (hF : jo_YF S K yf) {z : Nat → Nat} (hzb : ∀ s, s < 32 → z s ≤ 64 ^ (jo_m s)) (hz : ∀ t, t < 32 → yz t = nI (z t)) {s : Nat} (h1 : 1 ≤ s) (hs : s < 32) (ho : ¬ jo_one s = true) (hm : jo_Fm (jo_FM (jo_m s)) ym) {post : Int32 → SY → Prop}
    (hp : ∀ a fo ft fk fi yr yk, jo_LF z s a → post (nI a) (nI (jo_fc s), fo, ft, fk, fi, yt, yf, yz, ym, yr, yk)) :
    ∃ n, wY_left_38 post (nI s) (nI (jo_lv z s)) (nI (jo_fact (jo_m s))) (nI (jo_m s)) n (-4) 0 (nI (jo_fc s)) fo ft fk fi yt yf yz ym yr yk := by
  have hn := jr_n s hs h1
  have hlv := jm_Lst_le hzb h1 hs (jv_l (z := z) h1 hs)
  have key : ∀ d i best fo ft fk fi yr yk, i + d = jo_n s → ((best = -4 ∧ ∀ j, j < i → jo_c z (jo_pj s j) ≠ jo_lv z s) ∨ ∃ j, j < i ∧ jo_c z (jo_pj s j) = jo_lv z s ∧ best = nI (jo_la (jo_pj s j)) ∧ ∀ q, q < i → jo_c z (jo_pj s q) = jo_lv z s → jo_la (jo_pj s j) ≤ jo_la (jo_pj s q)) →
      wY_left_38 post (nI s) (nI (jo_lv z s)) (nI (jo_fact (jo_m s))) (nI (jo_m s)) (d + 1) best (nI i) (nI (jo_fc s)) fo ft fk fi yt yf yz ym yr yk := by
    intro d
    induction d with
    | zero =>
      intro i best fo ft fk fi yr yk hi hM
      obtain rfl : i = jo_n s := by omega
      refine br_t (by rw [jr_mul]; exact nI_le (Nat.le_refl _) (by omega)) ?_
      rcases hM with ⟨_, h⟩ | ⟨j, j1, j2, rfl, j4⟩
      · obtain ⟨⟨p, hp, e⟩, _⟩ := jv_l (z := z) h1 hs
        obtain ⟨q, hq, rfl⟩ := jm_pj_ex h1 hs hp
        exact absurd e (h q hq)
      · refine hp _ _ _ _ _ _ _ ?_
        obtain ⟨_, ha, p1, hp1, q, hq, e⟩ := jr_la h1 hs ho (jm_pj_in h1 hs j1)
        have sum : ∀ b, b ∈ jo_ps s s → jo_lv z s ≤ jo_lv z b + jo_lv z (s ^^^ b) + z s := by
          intro b hb
          obtain ⟨⟨⟨⟨p, hp, e1⟩, _⟩, ⟨⟨q, hq, e2⟩, _⟩⟩, _⟩ := jv_lv2 hzb h1 hs ho hb
          have := (jv_l (z := z) h1 hs).2 _ ((jm_mem h1 hs ho).mpr ⟨b, hb, p, hp, q, hq, rfl⟩)
          rw [jm_c_join, jm_or hs hb] at this
          omega
        refine ⟨ha, ?_, fun b hb hlt e' => ?_⟩
        · have a1 := sum _ ha
          obtain ⟨⟨l1, l2⟩, _⟩ := jv_lv2 hzb h1 hs ho ha
          have a2 := l1.2 p1 hp1
          have a3 := l2.2 q hq
          have a4 : jo_c z (p1 ++ (q ++ [(jo_la (jo_pj s j), s ^^^ jo_la (jo_pj s j))])) = jo_lv z s := by rw [e]; exact j2
          rw [jm_c_join, jm_or hs ha] at a4
          omega
        · obtain ⟨⟨⟨⟨p, hp, e1⟩, _⟩, ⟨⟨q, hq, e2⟩, _⟩⟩, _⟩ := jv_lv2 hzb h1 hs ho hb
          have hin := (jm_mem h1 hs ho).mpr ⟨b, hb, p, hp, q, hq, rfl⟩
          obtain ⟨w, hw, ew⟩ := jm_pj_ex h1 hs hin
          have c1 : jo_c z (jo_pj s w) = jo_lv z s := by rw [ew, jm_c_join, jm_or hs hb, e1, e2, e']
          have c2 := j4 w hw c1
          have c3 : jo_la (jo_pj s w) = b := by
            rw [ew]
            unfold jo_la
            rw [← List.append_assoc, List.getLast?_append]
            rfl
          omega
    | succ d ih =>
      intro i best fo ft fk fi yr yk hi hM
      have hi' : i < jo_n s := by omega
      obtain ⟨c1, c14, _⟩ := jr_rem hs h1 hi'
      have hin := jm_pj_in h1 hs hi'
      have hcb := jm_cb' hzb h1 hs hin
      obtain ⟨hne, hla, _⟩ := jr_la h1 hs ho hin
      have hla5 := ((jm_ps s s _).mp hla).2.1
      refine br_f (by rw [jr_mul]; exact nI_ge (by omega) (by omega)) ⟨nI_ne0 (by omega) (by omega), jr_step hS hF hz h1 hs hi' hm (fun _ h => h) (fun yr' yk' _ _ => ?_)⟩
      rw [jr_lft hne]
      refine pk_eq (jo_c z (jo_pj s i)) (jo_lv z s) (fun e => ?_) (fun e => nm_r (nI_1 i) ?_) rfl rfl (by omega) (by omega)
      · rcases hM with ⟨rfl, h⟩ | ⟨j, j1, j2, rfl, j4⟩
        · refine br_t (by decide) (nm_r (nI_1 i) (ih (i + 1) _ _ _ _ _ _ _ (by omega) (Or.inr ⟨i, by omega, e, rfl, fun q hq eq => ?_⟩)))
          by_cases q' : q = i
          · subst q'; exact Nat.le_refl _
          · exact absurd eq (h q (by omega))
        · have hj5 := ((jm_ps s s _).mp (jr_la h1 hs ho (jm_pj_in h1 hs (by omega : j < jo_n s))).2.1).2.1
          refine br_f (nI_pos (by omega)) (pk_le (jo_la (jo_pj s j)) (jo_la (jo_pj s i)) (fun hle => nm_r (nI_1 i) ?_) (fun hlt => nm_r (nI_1 i) ?_) rfl rfl (by omega) (by omega))
          · refine ih (i + 1) _ _ _ _ _ _ _ (by omega) (Or.inr ⟨j, by omega, j2, rfl, fun q hq eq => ?_⟩)
            by_cases q' : q = i
            · subst q'; exact hle
            · exact j4 q (by omega) eq
          · refine ih (i + 1) _ _ _ _ _ _ _ (by omega) (Or.inr ⟨i, by omega, e, rfl, fun q hq eq => ?_⟩)
            by_cases q' : q = i
            · subst q'; exact Nat.le_refl _
            · have := j4 q (by omega) eq; omega
      · refine ih (i + 1) _ _ _ _ _ _ _ (by omega) ?_
        rcases hM with ⟨rfl, h⟩ | ⟨j, j1, j2, rfl, j4⟩
        · refine Or.inl ⟨rfl, fun j hj => ?_⟩
          by_cases q : j = i
          · subst q; exact e
          · exact h j (by omega)
        · refine Or.inr ⟨j, by omega, j2, rfl, fun q hq eq => ?_⟩
          by_cases q' : q = i
          · subst q'; exact absurd eq e
          · exact j4 q (by omega) eq
  exact ⟨_, key (jo_n s) 0 (-4) fo ft fk fi yr yk (by omega) (Or.inl ⟨rfl, fun j hj => by omega⟩)⟩
def jo_at (l : List Nat) (x : Int32) : Int32 := if x < 0 then -4 else jo_nth l x.toNatClampNeg
theorem jr_nth_big {l : List Nat} {q : Nat} (h : l.length ≤ q) : jo_nth l q = -4 := by
  unfold jo_nth
  rw [List.getElem?_eq_none h]
theorem jr_linTab (hS : ∀ p, p < 25 → S p ≤ 6) (hF : jo_YF S K yf) {z : Nat → Nat} (hzb : ∀ s, s < 32 → z s ≤ 64 ^ (jo_m s)) (hz : ∀ t, t < 32 → yz t = nI (z t)) {s : Nat} (h1 : 1 ≤ s) (hs : s < 32) (hm : jo_Fm (jo_FM (jo_m s)) ym) {x2 : Int32} {l : List Nat} (hl : jo_Fst z s 0 (jo_ll z s 0) l) {post : Int32 → SY → Prop}
    (hp : ∀ fo ft fk fi yr yk, post (jo_at l x2) (nI (jo_fc s), fo, ft, fk, fi, yt, yf, yz, ym, yr, yk)) :
    ∃ n, wY_linearTable_35 post (nI s) x2 (nI (jo_ll z s 0)) (nI (jo_fact (jo_m s))) (nI (jo_m s)) n 0 (nI (jo_fc s)) fo ft fk fi yt yf yz ym yr yk := by
  have hn := jr_n s hs h1
  have m5 := js_m5 s hs
  have hll := jl_llD hzb hs (by omega) (jl_zero s hs)
  have key : ∀ d i fo ft fk fi yr yk, i + d = jo_n s → (∀ j, j < i → ¬ (jo_lin (jo_pj s j) = true ∧ jo_c z (jo_pj s j) = jo_ll z s 0)) →
      wY_linearTable_35 post (nI s) x2 (nI (jo_ll z s 0)) (nI (jo_fact (jo_m s))) (nI (jo_m s)) (d + 1) (nI i) (nI (jo_fc s)) fo ft fk fi yt yf yz ym yr yk := by
    intro d
    induction d with
    | zero =>
      intro i fo ft fk fi yr yk hi hno
      obtain rfl : i = jo_n s := by omega
      obtain ⟨⟨l', hl', e⟩, _⟩ := jv_ll (z := z) hs (by omega) (jl_zero s hs)
      obtain ⟨i, hi, hi1, hi2⟩ := jm_lin_b (z := z) h1 hs hl'
      exact absurd ⟨hi1, hi2.trans e⟩ (hno i hi)
    | succ d ih =>
      intro i fo ft fk fi yr yk hi hno
      have hi' : i < jo_n s := by omega
      obtain ⟨c1, c14, _⟩ := jr_rem hs h1 hi'
      have hcb := jm_cb' hzb h1 hs (jm_pj_in h1 hs hi')
      have next : ∀ {fo ft fk fi yr yk}, ¬ (jo_lin (jo_pj s i) = true ∧ jo_c z (jo_pj s i) = jo_ll z s 0) → wY_linearTable_35 post (nI s) x2 (nI (jo_ll z s 0)) (nI (jo_fact (jo_m s))) (nI (jo_m s)) (d + 1) (nI (i + 1)) (nI (jo_fc s)) fo ft fk fi yt yf yz ym yr yk := by
        intro fo ft fk fi yr yk h
        refine ih (i + 1) _ _ _ _ _ _ (by omega) (fun j hj => ?_)
        by_cases q : j = i
        · subst q; exact h
        · exact hno j (by omega)
      refine br_f (by rw [jr_mul]; exact nI_ge (by omega) (by omega)) ⟨nI_ne0 (by omega) (by omega), jr_step hS hF hz h1 hs hi' hm (fun _ h => h) (fun yr' yk' hrow hlen => jp_bz (fun e => nm_r (nI_1 i) (next (fun q => by rw [q.1] at e; exact nomatch e))) (fun e => ?_))⟩
      refine pk_eq (jo_c z (jo_pj s i)) (jo_ll z s 0) (fun ec => ?_) (fun ec => nm_r (nI_1 i) (next (fun q => ec q.2))) rfl rfl (by omega) (by omega)
      have er := jm_lin_c h1 hs hl hi' e ec hno
      rw [er] at hrow hlen
      refine ⟨fun hneg => ?_, fun hneg => ?_⟩
      · have := hp (nI (jo_c z (jo_pj s i))) (jo_lft (jo_pj s i)) (jo_bI (jo_lkd (jo_lk K) (jo_pj s i))) (jo_bI (jo_lin (jo_pj s i))) yr' yk'
        rw [jo_at, if_pos hneg] at this
        exact this
      · obtain ⟨q, hq, rfl⟩ := nI_of hneg
        have := hp (nI (jo_c z (jo_pj s i))) (jo_lft (jo_pj s i)) (jo_bI (jo_lkd (jo_lk K) (jo_pj s i))) (jo_bI (jo_lin (jo_pj s i))) yr' yk'
        rw [jo_at, if_neg hneg, nI_clamp hq] at this
        refine pk_le (jo_m s) q (fun hle => ?_) (fun hlt => ⟨vp_in_nI (by omega) (by omega), ?_⟩) rfl rfl (by omega) hq
        · rw [jr_nth_big (by omega)] at this
          exact this
        · rw [nI_clamp hq]
          have e1 := jr_Row l 0 q hrow (by omega)
          rw [Nat.zero_add] at e1
          rw [e1]
          exact this
  exact ⟨_, key (jo_n s) 0 fo ft fk fi yr yk (by omega) (fun j hj => by omega)⟩
end
end
section
/-! arguments, and what the changes do -/
def jo_isT (x : Int32) : Prop := ¬ x < 0 ∧ ¬ 5 ≤ x
def jo_isE (x : Int32) : Prop := ¬ x < 0 ∧ ¬ 6 < x
def jo_isP (x y : Int32) : Prop := jo_isT x ∧ jo_isT y ∧ x ≠ y
theorem jq_T {x : Int32} (h : jo_isT x) : ∃ i, i < 5 ∧ x = nI i := by
  obtain ⟨h1, h2⟩ := h
  obtain ⟨j, hj, rfl⟩ := nI_of h1
  exact ⟨j, Decidable.byContradiction fun q => h2 (nI_le (a := 5) (by omega) hj), rfl⟩
theorem jq_E {x : Int32} (h : jo_isE x) : ∃ i, i ≤ 6 ∧ x = nI i := by
  obtain ⟨h1, h2⟩ := h
  obtain ⟨j, hj, rfl⟩ := nI_of h1
  exact ⟨j, Decidable.byContradiction fun q => h2 (nI_lt (a := 6) (by omega) hj), rfl⟩
theorem jq_45 (x : Int32) : 4 < x ↔ 5 ≤ x := by
  rw [Int32.lt_iff_toInt_lt, Int32.le_iff_toInt_le, show (4 : Int32).toInt = 4 from by decide, show (5 : Int32).toInt = 5 from by decide]
  omega
theorem jq_xTt {x : Int32} (h : jo_isT x) {post : Int32 → Prop} (hp : post 1) : wpX_isTable post x := br_f h.1 (br_f h.2 hp)
theorem jq_xTf {x : Int32} (h : ¬ jo_isT x) {post : Int32 → Prop} (hp : post 0) : wpX_isTable post x :=
  ⟨fun _ => hp, fun h1 => ⟨fun _ => hp, fun h2 => absurd ⟨h1, h2⟩ h⟩⟩
theorem jq_xEt {x : Int32} (h : jo_isE x) {post : Int32 → Prop} (hp : post 1) : wpX_isExponent post x := br_f h.1 (br_f h.2 hp)
theorem jq_xEf {x : Int32} (h : ¬ jo_isE x) {post : Int32 → Prop} (hp : post 0) : wpX_isExponent post x :=
  ⟨fun _ => hp, fun h1 => ⟨fun _ => hp, fun h2 => absurd ⟨h1, h2⟩ h⟩⟩
theorem jq_xPt {x y : Int32} (h : jo_isP x y) {post : Int32 → Prop} (hp : post 1) : wpX_isPair post x y := by
  unfold wpX_isPair
  exact jq_xTt h.1 (jx_r1 (jq_xTt h.2.1 (jx_r1 (br_f h.2.2 hp))))
theorem jq_xPf {x y : Int32} (h : ¬ jo_isP x y) {post : Int32 → Prop} (hp : post 0) : wpX_isPair post x y := by
  unfold wpX_isPair
  by_cases h1 : jo_isT x
  · refine jq_xTt h1 (jx_r1 ?_)
    by_cases h2 : jo_isT y
    · exact jq_xTt h2 (jx_r1 ⟨fun _ => hp, fun h3 => absurd ⟨h1, h2, h3⟩ h⟩)
    · exact jq_xTf h2 (jx_r0 hp)
  · exact jq_xTf h1 (jx_r0 hp)
def jo_set2 {α : Type} (f : Nat → α) (a b : Nat) (v : α) : Nat → α := fun p => if p = b then v else if p = a then v else f p
theorem jq_s2b {α : Type} {f : Nat → α} {a b : Nat} {v : α} : jo_set2 f a b v b = v := if_pos rfl
theorem jq_s2a {α : Type} {f : Nat → α} {a b : Nat} {v : α} : jo_set2 f a b v a = v := by
  unfold jo_set2
  split
  · rfl
  · rw [if_pos rfl]
theorem jq_s2n {α : Type} {f : Nat → α} {a b p : Nat} {v : α} (h1 : p ≠ a) (h2 : p ≠ b) : jo_set2 f a b v p = f p := by
  unfold jo_set2
  rw [if_neg h2, if_neg h1]
theorem jq_s2c {α : Type} {f : Nat → α} {a b p : Nat} {v : α} {Q : α → Prop} (h1 : p = a ∨ p = b → Q v) (h2 : p ≠ a → p ≠ b → Q (f p)) : Q (jo_set2 f a b v p) := by
  by_cases e1 : p = a
  · rw [e1, jq_s2a]; exact h1 (Or.inl e1)
  · by_cases e2 : p = b
    · rw [e2, jq_s2b]; exact h1 (Or.inr e2)
    · rw [jq_s2n e1 e2]; exact h2 e1 e2
theorem jq_sym {α : Type} {f : Nat → α} (hf : ∀ a b, a < 5 → b < 5 → f (5 * a + b) = f (5 * b + a)) {i j : Nat} (hi : i < 5) (hj : j < 5) (v : α) : ∀ a b, a < 5 → b < 5 → jo_set2 f (i * 5 + j) (j * 5 + i) v (5 * a + b) = jo_set2 f (i * 5 + j) (j * 5 + i) v (5 * b + a) := by
  intro a b ha hb
  by_cases e1 : a = i ∧ b = j
  · obtain ⟨rfl, rfl⟩ := e1
    rw [show 5 * a + b = a * 5 + b from by omega, show 5 * b + a = b * 5 + a from by omega, jq_s2a, jq_s2b]
  · by_cases e2 : a = j ∧ b = i
    · obtain ⟨rfl, rfl⟩ := e2
      rw [show 5 * a + b = a * 5 + b from by omega, show 5 * b + a = b * 5 + a from by omega, jq_s2a, jq_s2b]
    · rw [jq_s2n (by omega) (by omega), jq_s2n (by omega) (by omega)]
      exact hf a b ha hb
theorem jq_upd2 {f : Nat → Int32} {a b p : Nat} {v : Int32} : upd (upd f a v) b v p = jo_set2 f a b v p := rfl
/-- the ghosts -/
def jo_Gh (E S : Nat → Nat) (K : Nat → Bool) : Prop := (∀ i, i < 5 → E i ≤ 6) ∧ (∀ p, p < 25 → S p ≤ 6) ∧ (∀ i j, i < 5 → j < 5 → K (5 * i + j) = K (5 * j + i)) ∧ (∀ i j, i < 5 → j < 5 → S (5 * i + j) = S (5 * j + i))
theorem jq_Gh {E S : Nat → Nat} {K : Nat → Bool} (h : jo_Gh E S K) {i j x : Nat} (hi : i < 5) (hj : j < 5) (hx : x ≤ 6) (b : Bool) : jo_Gh E (jo_set2 S (i * 5 + j) (j * 5 + i) x) (jo_set2 K (i * 5 + j) (j * 5 + i) b) :=
  ⟨h.1, fun p hp => jq_s2c (Q := fun y => y ≤ 6) (fun _ => hx) (fun _ _ => h.2.1 p hp), jq_sym h.2.2.1 hi hj b, jq_sym h.2.2.2 hi hj x⟩
theorem jq_XS {S : Nat → Nat} {xs : Nat → Int32} (h : ∀ p, p < 25 → xs p = nI (S p)) (a b x : Nat) : ∀ p, p < 25 → upd (upd xs a (nI x)) b (nI x) p = nI (jo_set2 S a b x p) := by
  intro p hp
  rw [jq_upd2]
  by_cases e1 : p = a
  · rw [e1, jq_s2a, jq_s2a]
  · by_cases e2 : p = b
    · rw [e2, jq_s2b, jq_s2b]
    · rw [jq_s2n e1 e2, jq_s2n e1 e2]; exact h p hp
theorem jq_YF1 {S : Nat → Nat} {K : Nat → Bool} {yf : Nat → Int32} (h : jo_YF S K yf) (a b x : Nat) : jo_YF (jo_set2 S a b x) (jo_set2 K a b true) (upd (upd yf a (nI x)) b (nI x)) := by
  intro p hp
  rw [jq_upd2]
  by_cases e1 : p = a
  · rw [e1, jq_s2a, jq_s2a, jq_s2a]; exact ⟨fun _ => rfl, fun q => nomatch q⟩
  · by_cases e2 : p = b
    · rw [e2, jq_s2b, jq_s2b, jq_s2b]; exact ⟨fun _ => rfl, fun q => nomatch q⟩
    · rw [jq_s2n e1 e2, jq_s2n e1 e2, jq_s2n e1 e2]; exact h p hp
theorem jq_YF0 {S : Nat → Nat} {K : Nat → Bool} {yf : Nat → Int32} (h : jo_YF S K yf) (a b : Nat) : jo_YF (jo_set2 S a b 0) (jo_set2 K a b false) (upd (upd yf a (-1)) b (-1)) := by
  intro p hp
  rw [jq_upd2]
  by_cases e1 : p = a
  · rw [e1, jq_s2a, jq_s2a, jq_s2a]; exact ⟨fun q => (nomatch q), fun _ => ⟨rfl, rfl⟩⟩
  · by_cases e2 : p = b
    · rw [e2, jq_s2b, jq_s2b, jq_s2b]; exact ⟨fun q => (nomatch q), fun _ => ⟨rfl, rfl⟩⟩
    · rw [jq_s2n e1 e2, jq_s2n e1 e2, jq_s2n e1 e2]; exact h p hp
theorem jq_L1 {K : Nat → Bool} {L : Nat → Nat} (h : jo_Lk K L) {i j : Nat} (hi : i < 5) (hj : j < 5) (hn : i ≠ j) : jo_Lk (jo_set2 K (i * 5 + j) (j * 5 + i) true) (fun k => if k = j then L j ||| 2 ^ i else if k = i then L i ||| 2 ^ j else L k) := by
  intro k hk
  dsimp only
  by_cases e1 : k = j
  · subst e1
    rw [if_pos rfl]
    refine ⟨jb_orlt (h k hk).1 (jb_bit hi), fun c hc => ?_⟩
    rw [js_or, (h k hk).2 c hc]
    by_cases e : c = i
    · subst e
      rw [(js_bb c hc c hc).mpr rfl, Bool.or_true, show 5 * k + c = k * 5 + c from by omega, jq_s2b]
    · rw [jq_s2n (by omega) (by omega), jx_bf fun q => e ((js_bb i hi c hc).mp q), Bool.or_false]
  · rw [if_neg e1]
    by_cases e2 : k = i
    · subst e2
      rw [if_pos rfl]
      refine ⟨jb_orlt (h k hk).1 (jb_bit hj), fun c hc => ?_⟩
      rw [js_or, (h k hk).2 c hc]
      by_cases e : c = j
      · subst e
        rw [(js_bb c hc c hc).mpr rfl, Bool.or_true, show 5 * k + c = k * 5 + c from by omega, jq_s2a]
      · rw [jq_s2n (by omega) (by omega), jx_bf fun q => e ((js_bb j hj c hc).mp q), Bool.or_false]
    · rw [if_neg e2]
      refine ⟨(h k hk).1, fun c hc => ?_⟩
      rw [jq_s2n (by omega) (by omega)]
      exact (h k hk).2 c hc
def jo_clr (l t : Nat) : Nat := if jo_hb l t then l ^^^ 2 ^ t else l
theorem jq_clr : ∀ l, l < 32 → ∀ t, t < 5 → ∀ c, c < 5 → jo_hb (jo_clr l t) c = (jo_hb l c && !(Nat.beq c t)) := by decide +kernel
theorem jq_clt : ∀ l, l < 32 → ∀ t, t < 5 → jo_clr l t < 32 := by decide +kernel
theorem jq_L0 {K : Nat → Bool} {L : Nat → Nat} (h : jo_Lk K L) {i j : Nat} (hi : i < 5) (hj : j < 5) (hn : i ≠ j) : jo_Lk (jo_set2 K (i * 5 + j) (j * 5 + i) false) (fun k => if k = j then jo_clr (L j) i else if k = i then jo_clr (L i) j else L k) := by
  have hne : ∀ {c t : Nat}, c ≠ t → Nat.beq c t = false := fun e => jx_bf fun q => e (Nat.eq_of_beq_eq_true q)
  intro k hk
  dsimp only
  by_cases e1 : k = j
  · subst e1
    rw [if_pos rfl]
    refine ⟨jq_clt _ (h k hk).1 i hi, fun c hc => ?_⟩
    rw [jq_clr _ (h k hk).1 i hi c hc, (h k hk).2 c hc]
    by_cases e : c = i
    · subst e
      rw [Nat.beq_refl, show 5 * k + c = k * 5 + c from by omega, jq_s2b]; simp
    · rw [jq_s2n (by omega) (by omega), hne e]; simp
  · rw [if_neg e1]
    by_cases e2 : k = i
    · subst e2
      rw [if_pos rfl]
      refine ⟨jq_clt _ (h k hk).1 j hj, fun c hc => ?_⟩
      rw [jq_clr _ (h k hk).1 j hj c hc, (h k hk).2 c hc]
      by_cases e : c = j
      · subst e
        rw [Nat.beq_refl, show 5 * k + c = k * 5 + c from by omega, jq_s2a]; simp
      · rw [jq_s2n (by omega) (by omega), hne e]; simp
    · rw [if_neg e2]
      refine ⟨(h k hk).1, fun c hc => ?_⟩
      rw [jq_s2n (by omega) (by omega)]
      exact (h k hk).2 c hc
theorem jq_XL {xl : Nat → Int32} {L : Nat → Nat} (h : ∀ i, i < 5 → xl i = nI (L i)) {i j a b : Nat} : ∀ k, k < 5 → upd (upd xl i (nI a)) j (nI b) k = nI ((fun k => if k = j then b else if k = i then a else L k) k) := by
  intro k hk
  dsimp only
  by_cases e1 : k = j
  · subst e1; rw [pk_us, if_pos rfl]
  · rw [pk_un e1, if_neg e1]
    by_cases e2 : k = i
    · subst e2; rw [pk_us, if_pos rfl]
    · rw [pk_un e2, if_neg e2]; exact h k hk
section
variable {xe xs xl xc xn : Nat → Int32}
theorem jq_put {i j : Nat} (hi : i < 5) (hj : j < 5) {v : Int32} {post : SX → Prop} (hp : post (xe, upd (upd xs (i * 5 + j) v) (j * 5 + i) v, xl, xc, xn)) : wpX_putStrength post (xe, xs, xl, xc, xn) (nI i) (nI j) v := by
  refine ⟨?_, nm_r (e' := upd xs (i * 5 + j) v) ?_ ⟨?_, nm_r (e' := upd (upd xs (i * 5 + j) v) (j * 5 + i) v) ?_ hp⟩⟩
  · rw [jx_ix]; exact vp_in_nI (by omega) (by omega)
  · rw [jx_ix, nI_clamp (by omega)]
  · rw [jx_ix]; exact vp_in_nI (by omega) (by omega)
  · rw [jx_ix, nI_clamp (by omega)]
end
section
variable {fn fo ft fk fi : Int32} {yt yf yz ym yr yk : Nat → Int32} {E S : Nat → Nat} {K : Nat → Bool}
theorem jq_setF {i j : Nat} (hi : i < 5) (hj : j < 5) {v : Int32} {post : SY → Prop} (hp : post (fn, fo, ft, fk, fi, yt, upd (upd yf (i * 5 + j) v) (j * 5 + i) v, yz, ym, yr, yk)) : wpY_setFilter post (fn, fo, ft, fk, fi, yt, yf, yz, ym, yr, yk) (nI i) (nI j) v := by
  refine ⟨?_, nm_r (e' := upd yf (i * 5 + j) v) ?_ ⟨?_, nm_r (e' := upd (upd yf (i * 5 + j) v) (j * 5 + i) v) ?_ hp⟩⟩
  · rw [jy_ix]; exact vp_in_nI (by omega) (by omega)
  · rw [jy_ix, nI_clamp (by omega)]
  · rw [jy_ix]; exact vp_in_nI (by omega) (by omega)
  · rw [jy_ix, nI_clamp (by omega)]
theorem jq_yTt {x : Int32} (h : jo_isT x) {post : Int32 → Prop} (hp : post 1) : wpY_isTable post (fn, fo, ft, fk, fi, yt, yf, yz, ym, yr, yk) x := br_f h.1 (br_f (fun q => h.2 ((jq_45 x).mp q)) hp)
theorem jq_yTf {x : Int32} (h : ¬ jo_isT x) {post : Int32 → Prop} (hp : post 0) : wpY_isTable post (fn, fo, ft, fk, fi, yt, yf, yz, ym, yr, yk) x :=
  ⟨fun _ => hp, fun h1 => ⟨fun _ => hp, fun h2 => absurd ⟨h1, fun q => h2 ((jq_45 x).mpr q)⟩ h⟩⟩
theorem jq_yPt {x y : Int32} (h : jo_isP x y) {post : Int32 → Prop} (hp : post 1) : wpY_isPair post (fn, fo, ft, fk, fi, yt, yf, yz, ym, yr, yk) x y := by
  unfold wpY_isPair
  exact jq_yTt h.1 (jx_r1 (jq_yTt h.2.1 (jx_r1 (br_f h.2.2 hp))))
theorem jq_yPf {x y : Int32} (h : ¬ jo_isP x y) {post : Int32 → Prop} (hp : post 0) : wpY_isPair post (fn, fo, ft, fk, fi, yt, yf, yz, ym, yr, yk) x y := by
  unfold wpY_isPair
  by_cases h1 : jo_isT x
  · refine jq_yTt h1 (jx_r1 ?_)
    by_cases h2 : jo_isT y
    · exact jq_yTt h2 (jx_r1 ⟨fun _ => hp, fun h3 => absurd ⟨h1, h2, h3⟩ h⟩)
    · exact jq_yTf h2 (jx_r0 hp)
  · exact jq_yTf h1 (jx_r0 hp)
/-- the exponent's test as the reference writes it -/
theorem jq_yE {x : Int32} {A B : Prop} (f : ¬ jo_isE x → A) (t : jo_isE x → B) : (x < 0 → A) ∧ (¬ x < 0 → ((x ≤ 6 → B) ∧ (¬ x ≤ 6 → A))) :=
  ⟨fun h => f fun q => q.1 h, fun h => ⟨fun h' => t ⟨h, Int32.not_lt.mpr h'⟩, fun h' => f fun q => h' (Int32.not_lt.mp q.2)⟩⟩
end
theorem jq_5 : ∀ s, s < 32 → (jo_pm 5 0 s).all (fun l => Nat.ble l.length 5) = true := by decide +kernel
theorem jq_len {z : Nat → Nat} {s v : Nat} (hs : s < 32) {l : List Nat} (h : jo_Fst z s 0 v l) : l.length ≤ 5 := by
  have := List.all_eq_true.mp (jq_5 s hs) l (List.mem_of_find?_eq_some h)
  exact Nat.le_of_ble_eq_true this
end
section
/-! the relation, the constructors, the three changes -/
def jo_RR (xe xs xl yt yf : Nat → Int32) : Prop := ∃ (E S : Nat → Nat) (K : Nat → Bool) (L : Nat → Nat), jo_Gh E S K ∧ (∀ i, i < 5 → xe i = nI (E i)) ∧ (∀ p, p < 25 → xs p = nI (S p)) ∧ (∀ i, i < 5 → xl i = nI (L i)) ∧ jo_Lk K L ∧ jo_YT E yt ∧ jo_YF S K yf
/-- the same tables, strengths and links on both sides -/
def i_Rel (_ : Nat) (u : SX) (v : SY) : Prop := jo_RR u.1 u.2.1 u.2.2.1 v.2.2.2.2.2.1 v.2.2.2.2.2.2.1
theorem i_up {k : Nat} {u : SX} {v : SY} (h : i_Rel k u v) : i_Rel (k + 4) u v := h
theorem jw_x0 {post : SX → Prop} (hp : ∀ xe, (∀ i, i < 5 → xe i = nI 3) → post (xe, fun _ => 0, fun _ => 0, fun _ => 0, fun _ => 0)) : wpX_init post := by
  have key : ∀ d i xe, i + d = 5 → (∀ j, j < i → xe j = nI 3) → wX_init_44 post (d + 1) (nI i) xe (fun _ => 0) (fun _ => 0) (fun _ => 0) (fun _ => 0) := by
    intro d
    induction d with
    | zero =>
      intro i xe hi h
      obtain rfl : i = 5 := by omega
      exact br_t (nI_le (a := 5) (Nat.le_refl _) (by omega)) (hp xe h)
    | succ d ih =>
      intro i xe hi h
      refine br_f (nI_ge (b := 5) (by omega) (by omega)) ⟨vp_in_nI (by omega) (by omega), nm_r (e' := upd xe i (nI 3)) ?_ (nm_r (nI_1 i) (ih (i + 1) _ (by omega) (fun j hj => ?_)))⟩
      · rw [nI_clamp (by omega)]; rfl
      · by_cases e : j = i
        · subst e; exact pk_us
        · rw [pk_un e]; exact h j (by omega)
  exact ⟨_, key 5 0 (fun _ => 0) (by omega) (fun j hj => by omega)⟩
theorem jw_y0 {post : SY → Prop} (hp : ∀ yt yf, (∀ i, i < 5 → yt i = nI 3) → (∀ p, p < 25 → yf p = -1) → post (0, 0, 0, 0, 0, yt, yf, fun _ => 0, fun _ => 0, fun _ => 0, fun _ => 0)) : wpY_init post := by
  have key : ∀ d i yt yf, i + d = 25 → (∀ j, j < 5 → j < i → yt j = nI 3) → (∀ p, p < i → yf p = -1) → wY_init_51 post 0 0 0 0 0 (d + 1) (nI i) yt yf (fun _ => 0) (fun _ => 0) (fun _ => 0) (fun _ => 0) := by
    intro d
    induction d with
    | zero =>
      intro i yt yf hi h1 h2
      obtain rfl : i = 25 := by omega
      exact br_t (nI_le (a := 25) (Nat.le_refl _) (by omega)) (hp yt yf (fun j hj => h1 j hj (by omega)) h2)
    | succ d ih =>
      intro i yt yf hi h1 h2
      refine br_f (nI_ge (b := 25) (by omega) (by omega)) ⟨vp_in_nI (by omega) (by omega), nm_r (e' := upd yf i (-1)) ?_ ⟨by decide, ?_, nm_r (e' := upd yt (i % 5) (nI 3)) ?_ (nm_r (nI_1 i) (ih (i + 1) _ _ (by omega) (fun j hj hj' => ?_) (fun p hp => ?_)))⟩⟩
      · rw [nI_clamp (by omega)]
      · rw [jy_rem (by omega)]; exact vp_in_nI (by omega) (by omega)
      · rw [jy_rem (by omega), nI_clamp (by omega)]; rfl
      · by_cases e : j = i % 5
        · rw [e]; exact pk_us
        · rw [pk_un e]; exact h1 j hj (by omega)
      · by_cases e : p = i
        · subst e; exact pk_us
        · rw [pk_un e]; exact h2 p (by omega)
  exact ⟨_, key 25 0 (fun _ => 0) (fun _ => 0) (by omega) (fun j _ hj => by omega) (fun j hj => by omega)⟩
theorem i_vc0 : wpX_init (fun u => wpY_init (fun v => i_Rel 0 u v)) := by
  refine jw_x0 (fun xe hxe => jw_y0 (fun yt yf hyt hyf => ?_))
  refine ⟨fun _ => 3, fun _ => 0, fun _ => false, fun _ => 0, ⟨fun _ _ => (by decide : (3 : Nat) ≤ 6), fun _ _ => (by decide : (0 : Nat) ≤ 6), fun _ _ _ _ => rfl, fun _ _ _ _ => rfl⟩, hxe, fun _ _ => rfl, fun _ _ => rfl, fun i _ => ⟨(by decide : (0 : Nat) < 32), fun j hj => js_h0 j hj⟩, hyt, fun p hp => ⟨fun q => (nomatch q), fun _ => ⟨hyf p hp, rfl⟩⟩⟩
theorem jw_UT {f : Nat → Int32} {E : Nat → Nat} (h : ∀ j, j < 5 → f j = nI (E j)) (i x : Nat) : ∀ j, j < 5 → upd f i (nI x) j = nI ((fun j => if j = i then x else E j) j) := by
  intro j hj
  dsimp only
  by_cases e : j = i
  · subst e; rw [pk_us, if_pos rfl]
  · rw [pk_un e, if_neg e]; exact h j hj
theorem i_vc_table {k : Nat} {u : SX} {v : SY} (I : i_Rel k u v) (hk : k + 4 ≤ 2048) (v1 : Int32) (v2 : Int32) : wpX_table (fun r u' => wpY_table (fun r' v' => r' = r ∧ i_Rel (k + 4) u' v') v v1 v2) u v1 v2 := by
  obtain ⟨xe, xs, xl, xc, xn⟩ := u
  obtain ⟨fn, fo, ft, fk, fi, yt, yf, yz, ym, yr, yk⟩ := v
  have hI : jo_RR xe xs xl yt yf := I
  have hJ := hI
  obtain ⟨E, S, K, L, ⟨g1, g2, g3, g4⟩, hXe, hXs, hXl, hL, hYT, hYF⟩ := hJ
  unfold wpX_table
  by_cases hT : jo_isT v1
  · refine jq_xTt hT (jx_r1 ?_)
    by_cases hE : jo_isE v2
    · refine jq_xEt hE (jx_r1 ?_)
      obtain ⟨i, hi, rfl⟩ := jq_T hT
      obtain ⟨x, hx, rfl⟩ := jq_E hE
      have vi : vp_in (nI i) 5 := vp_in_nI hi (by omega)
      refine ⟨vi, nm_r (e' := nI (E i)) (by rw [nI_clamp (by omega)]; exact hXe i hi) ⟨vi, nm_r (e' := upd xe i (nI x)) (by rw [nI_clamp (by omega)]) ?_⟩⟩
      unfold wpY_table
      refine jq_yTt hT (jx_r1 (jq_yE (fun q => absurd hE q) (fun _ => ⟨vi, nm_r (e' := nI (E i)) (by rw [nI_clamp (by omega)]; exact hYT i hi) ⟨vi, nm_r (e' := upd yt i (nI x)) (by rw [nI_clamp (by omega)]) ⟨rfl, ?_⟩⟩⟩)))
      refine ⟨fun j => if j = i then x else E j, S, K, L, ⟨fun j hj => ?_, g2, g3, g4⟩, jw_UT hXe i x, hXs, hXl, hL, jw_UT hYT i x, hYF⟩
      dsimp only
      split
      · exact hx
      · exact g1 j hj
    · refine jq_xEf hE (jx_r0 ?_)
      unfold wpY_table
      exact jq_yTt hT (jx_r1 (jq_yE (fun _ => ⟨rfl, hI⟩) (fun q => absurd q hE)))
  · refine jq_xTf hT (jx_r0 ?_)
    unfold wpY_table
    exact jq_yTf hT (jx_r0 ⟨rfl, hI⟩)
section
variable {xe xs xl xc xn : Nat → Int32} {L : Nat → Nat}
theorem jw_f35 (hXl : ∀ i, i < 5 → xl i = nI (L i)) {i j x : Nat} (hi : i < 5) (hj : j < 5) (hn : i ≠ j) {z0 : Int32} {post : Int32 → SX → Prop}
    (hp : post z0 (xe, upd (upd xs (i * 5 + j) (nI x)) (j * 5 + i) (nI x), upd (upd xl i (nI (L i ||| 2 ^ j))) j (nI (L j ||| 2 ^ i)), xc, xn)) : wX_filter_35 post (nI i) (nI j) (nI x) z0 xe xs xl xc xn := by
  have vi : vp_in (nI i) 5 := vp_in_nI hi (by omega)
  have vj : vp_in (nI j) 5 := vp_in_nI hj (by omega)
  refine ⟨vi, vi, nm_r (e' := upd xl i (nI (L i ||| 2 ^ j))) ?_ ⟨vj, vj, nm_r (e' := upd (upd xl i (nI (L i ||| 2 ^ j))) j (nI (L j ||| 2 ^ i))) ?_ (jq_put hi hj hp)⟩⟩
  · rw [nI_clamp (by omega), hXl i hi, jb_shl j (by omega), nx_or]
  · rw [nI_clamp (by omega), pk_un (fun q => hn q.symm), hXl j hj, jb_shl i (by omega), nx_or]
end
theorem jw_P {v1 v2 : Int32} (h : jo_isP v1 v2) : ∃ i j, i < 5 ∧ j < 5 ∧ i ≠ j ∧ v1 = nI i ∧ v2 = nI j := by
  obtain ⟨i, hi, rfl⟩ := jq_T h.1
  obtain ⟨j, hj, rfl⟩ := jq_T h.2.1
  exact ⟨i, j, hi, hj, fun q => h.2.2 (by rw [q]), rfl, rfl⟩
theorem i_vc_filter {k : Nat} {u : SX} {v : SY} (I : i_Rel k u v) (hk : k + 4 ≤ 2048) (v1 : Int32) (v2 : Int32) (v3 : Int32) : wpX_filter (fun r u' => wpY_filter (fun r' v' => r' = r ∧ i_Rel (k + 4) u' v') v v1 v2 v3) u v1 v2 v3 := by
  obtain ⟨xe, xs, xl, xc, xn⟩ := u
  obtain ⟨fn, fo, ft, fk, fi, yt, yf, yz, ym, yr, yk⟩ := v
  have hI : jo_RR xe xs xl yt yf := I
  have hJ := hI
  obtain ⟨E, S, K, L, ⟨g1, g2, g3, g4⟩, hXe, hXs, hXl, hL, hYT, hYF⟩ := hJ
  unfold wpX_filter
  by_cases hP : jo_isP v1 v2
  · refine jq_xPt hP (jx_r1 ?_)
    by_cases hE : jo_isE v3
    · refine jq_xEt hE (jx_r1 ?_)
      obtain ⟨i, j, hi, hj, hn, rfl, rfl⟩ := jw_P hP
      obtain ⟨x, hx, rfl⟩ := jq_E hE
      have e1 : xl (nI i).toNatClampNeg = nI (L i) := by rw [nI_clamp (by omega)]; exact hXl i hi
      have eK := (hL i hi).2 j hj
      rw [show 5 * i + j = i * 5 + j from by omega] at eK
      have vy : vp_in ((5 : Int32) * nI i + nI j) 25 := by rw [jy_ix]; exact vp_in_nI (by omega) (by omega)
      have ey : yf ((5 : Int32) * nI i + nI j).toNatClampNeg = yf (i * 5 + j) := by rw [jy_ix, nI_clamp (by omega)]
      have hend : jo_RR xe (upd (upd xs (i * 5 + j) (nI x)) (j * 5 + i) (nI x)) (upd (upd xl i (nI (L i ||| 2 ^ j))) j (nI (L j ||| 2 ^ i))) yt (upd (upd yf (i * 5 + j) (nI x)) (j * 5 + i) (nI x)) :=
        ⟨E, _, _, _, jq_Gh ⟨g1, g2, g3, g4⟩ hi hj hx true, hXe, jq_XS hXs _ _ x, jq_XL hXl, jq_L1 hL hi hj hn, hYT, jq_YF1 hYF _ _ x⟩
      refine ⟨vp_in_nI hi (by omega), ?_⟩
      rw [e1]
      refine jx_has (hL i hi).1 hj (fun hb => ?_) (fun hb => ?_)
      · rw [hb] at eK
        refine jw_f35 hXl hi hj hn ?_
        unfold wpY_filter
        refine jq_yPt hP (jx_r1 (jq_yE (fun q => absurd hE q) (fun _ => ⟨vy, ?_⟩)))
        rw [ey, ((hYF _ (by omega)).2 eK.symm).1]
        exact br_f (by decide) (jq_setF hi hj ⟨rfl, hend⟩)
      · rw [hb] at eK
        refine jw_f35 hXl hi hj hn ?_
        unfold wpY_filter
        refine jq_yPt hP (jx_r1 (jq_yE (fun q => absurd hE q) (fun _ => ⟨vy, ?_⟩)))
        have h6 := g2 (i * 5 + j) (by omega)
        rw [ey, (hYF _ (by omega)).1 eK.symm]
        exact br_t (nI_pos' (by omega)) (jq_setF hi hj ⟨rfl, hend⟩)
    · refine jq_xEf hE (jx_r0 ?_)
      unfold wpY_filter
      exact jq_yPt hP (jx_r1 (jq_yE (fun _ => ⟨rfl, hI⟩) (fun q => absurd q hE)))
  · refine jq_xPf hP (jx_r0 ?_)
    unfold wpY_filter
    exact jq_yPf hP (jx_r0 ⟨rfl, hI⟩)
theorem jw_same {S : Nat → Nat} {K : Nat → Bool} {yf : Nat → Int32} (h : jo_YF S K yf) {a b : Nat} (ha : K a = false) (hb : K b = false) : jo_YF S K (upd (upd yf a (-1)) b (-1)) := by
  intro p hp
  by_cases e2 : p = b
  · rw [e2, pk_us]
    rw [e2] at hp
    exact ⟨fun q => absurd q (by rw [hb]; decide), fun q => ⟨rfl, ((h b hp).2 q).2⟩⟩
  · rw [pk_un e2]
    by_cases e1 : p = a
    · rw [e1, pk_us]
      rw [e1] at hp
      exact ⟨fun q => absurd q (by rw [ha]; decide), fun q => ⟨rfl, ((h a hp).2 q).2⟩⟩
    · rw [pk_un e1]; exact h p hp
theorem i_vc_unfilter {k : Nat} {u : SX} {v : SY} (I : i_Rel k u v) (hk : k + 4 ≤ 2048) (v1 : Int32) (v2 : Int32) : wpX_unfilter (fun r u' => wpY_unfilter (fun r' v' => r' = r ∧ i_Rel (k + 4) u' v') v v1 v2) u v1 v2 := by
  obtain ⟨xe, xs, xl, xc, xn⟩ := u
  obtain ⟨fn, fo, ft, fk, fi, yt, yf, yz, ym, yr, yk⟩ := v
  have hI : jo_RR xe xs xl yt yf := I
  have hJ := hI
  obtain ⟨E, S, K, L, ⟨g1, g2, g3, g4⟩, hXe, hXs, hXl, hL, hYT, hYF⟩ := hJ
  unfold wpX_unfilter
  by_cases hP : jo_isP v1 v2
  · refine jq_xPt hP (jx_r1 ?_)
    obtain ⟨i, j, hi, hj, hn, rfl, rfl⟩ := jw_P hP
    have e1 : xl (nI i).toNatClampNeg = nI (L i) := by rw [nI_clamp (by omega)]; exact hXl i hi
    have eK := (hL i hi).2 j hj
    have eK2 := g3 i j hi hj
    rw [show 5 * i + j = i * 5 + j from by omega] at eK eK2
    rw [show 5 * j + i = j * 5 + i from by omega] at eK2
    have vi : vp_in (nI i) 5 := vp_in_nI hi (by omega)
    have vj : vp_in (nI j) 5 := vp_in_nI hj (by omega)
    have vy : vp_in ((5 : Int32) * nI i + nI j) 25 := by rw [jy_ix]; exact vp_in_nI (by omega) (by omega)
    have ey : yf ((5 : Int32) * nI i + nI j).toNatClampNeg = yf (i * 5 + j) := by rw [jy_ix, nI_clamp (by omega)]
    have vx : vp_in (nI i * 5 + nI j) 25 := by rw [jx_ix]; exact vp_in_nI (by omega) (by omega)
    have ex : xs (nI i * 5 + nI j).toNatClampNeg = nI (S (i * 5 + j)) := by rw [jx_ix, nI_clamp (by omega)]; exact hXs _ (by omega)
    refine ⟨vi, ?_⟩
    rw [e1]
    refine jx_has (hL i hi).1 hj (fun hb => ?_) (fun hb => ?_)
    · rw [hb] at eK
      unfold wpY_unfilter
      refine jq_yPt hP (jx_r1 ⟨vy, nm_r (e' := -1) ?_ (jq_setF hi hj (br_f (by decide) ⟨rfl, ?_⟩))⟩)
      · rw [ey]; exact ((hYF _ (by omega)).2 eK.symm).1
      · exact ⟨E, S, K, L, ⟨g1, g2, g3, g4⟩, hXe, hXs, hXl, hL, hYT, jw_same hYF eK.symm (by rw [← eK2]; exact eK.symm)⟩
    · rw [hb] at eK
      refine ⟨vx, nm_r ex ⟨vi, vi, nm_r (e' := upd xl i (nI (jo_clr (L i) j))) ?_ ⟨vj, vj, nm_r (e' := upd (upd xl i (nI (jo_clr (L i) j))) j (nI (jo_clr (L j) i))) ?_ (jq_put hi hj ?_)⟩⟩⟩
      · rw [nI_clamp (by omega), jb_clr _ (hL i hi).1 j hj]; rfl
      · rw [nI_clamp (by omega), pk_un (fun q => hn q.symm), hXl j hj, jb_clr _ (hL j hj).1 i hi]; rfl
      · unfold wpY_unfilter
        have h6 := g2 (i * 5 + j) (by omega)
        refine jq_yPt hP (jx_r1 ⟨vy, nm_r (e' := nI (S (i * 5 + j))) ?_ (jq_setF hi hj (br_t (nI_pos' (by omega)) ⟨rfl, ?_⟩))⟩)
        · rw [ey]; exact (hYF _ (by omega)).1 eK.symm
        · exact ⟨E, _, _, _, jq_Gh ⟨g1, g2, g3, g4⟩ hi hj (Nat.zero_le _) false, hXe, jq_XS hXs _ _ 0, jq_XL hXl, jq_L0 hL hi hj hn, hYT, jq_YF0 hYF _ _⟩
  · refine jq_xPf hP (jx_r0 ?_)
    unfold wpY_unfilter
    exact jq_yPf hP (jx_r0 ⟨rfl, hI⟩)
end
section
/-! the calls that ask -/
theorem i_vc_size {k : Nat} {u : SX} {v : SY} (I : i_Rel k u v) (hk : k + 4 ≤ 2048) (v1 : Int32) : wpX_size (fun r => wpY_size (fun r' => r' = r ∧ i_Rel (k + 4) u v) v v1) u v1 := by
  obtain ⟨xe, xs, xl, xc, xn⟩ := u
  obtain ⟨fn, fo, ft, fk, fi, yt, yf, yz, ym, yr, yk⟩ := v
  have hI : jo_RR xe xs xl yt yf := I
  have hJ := hI
  obtain ⟨E, S, K, L, ⟨g1, g2, g3, g4⟩, hXe, hXs, hXl, hL, hYT, hYF⟩ := hJ
  unfold wpX_size
  by_cases hS : jo_isS v1
  · obtain ⟨s, h1, hs, rfl⟩ := jx_isS hS
    refine jx_set (fun q => absurd hS q) (fun _ => jx_sizeOf g1 g2 hXe hXs hs ?_)
    unfold wpY_size
    exact jy_set (fun q => absurd hS q) (fun _ => jy_sizeOf g1 g2 hYT hYF hs ⟨rfl, hI⟩)
  · refine jx_set (fun _ => ?_) (fun q => absurd q hS)
    unfold wpY_size
    exact jy_set (fun _ => ⟨rfl, hI⟩) (fun q => absurd q hS)
theorem i_vc_connected {k : Nat} {u : SX} {v : SY} (I : i_Rel k u v) (hk : k + 4 ≤ 2048) (v1 : Int32) : wpX_connected (fun r => wpY_connected (fun r' => r' = r ∧ i_Rel (k + 4) u v) v v1) u v1 := by
  obtain ⟨xe, xs, xl, xc, xn⟩ := u
  obtain ⟨fn, fo, ft, fk, fi, yt, yf, yz, ym, yr, yk⟩ := v
  have hI : jo_RR xe xs xl yt yf := I
  have hJ := hI
  obtain ⟨E, S, K, L, ⟨g1, g2, g3, g4⟩, hXe, hXs, hXl, hL, hYT, hYF⟩ := hJ
  unfold wpX_connected
  by_cases hS : jo_isS v1
  · obtain ⟨s, h1, hs, rfl⟩ := jx_isS hS
    obtain ⟨i0, h0, hb, e0⟩ := jb_low s hs h1
    have hc := js_conn g3 hL hs h0 hb
    refine jx_set (fun q => absurd hS q) (fun _ => nm_r e0 (jx_conn hXl hL hs h0 (fun e => ?_) (fun e => ?_)))
    · unfold wpY_connected
      exact jy_set (fun q => absurd hS q) (fun _ => jy_conn g2 hYF h1 hs (fun _ => ⟨rfl, hI⟩) (fun q => absurd (hc.mp e) q))
    · unfold wpY_connected
      exact jy_set (fun q => absurd hS q) (fun _ => jy_conn g2 hYF h1 hs (fun q => absurd (hc.mpr q) e) (fun _ => ⟨rfl, hI⟩))
  · refine jx_set (fun _ => ?_) (fun q => absurd q hS)
    unfold wpY_connected
    exact jy_set (fun _ => ⟨rfl, hI⟩) (fun q => absurd q hS)
theorem i_vc_cost {k : Nat} {u : SX} {v : SY} (I : i_Rel k u v) (hk : k + 4 ≤ 2048) (v1 : Int32) : wpX_cost (fun r u' => wpY_cost (fun r' v' => r' = r ∧ i_Rel (k + 4) u' v') v v1) u v1 := by
  obtain ⟨xe, xs, xl, xc, xn⟩ := u
  obtain ⟨fn, fo, ft, fk, fi, yt, yf, yz, ym, yr, yk⟩ := v
  have hI : jo_RR xe xs xl yt yf := I
  have hJ := hI
  obtain ⟨E, S, K, L, ⟨g1, g2, g3, g4⟩, hXe, hXs, hXl, hL, hYT, hYF⟩ := hJ
  unfold wpX_cost
  by_cases hS : jo_isS v1
  · obtain ⟨s, h1, hs, rfl⟩ := jx_isS hS
    refine jx_set (fun q => absurd hS q) (fun _ => jx_fill g1 g2 hXe hXs hs (fun xc' hc => ⟨vp_in_nI (by omega) (by omega), ?_⟩))
    rw [nI_clamp (by omega), hc s h1 (by omega)]
    unfold wpY_cost
    exact jy_set (fun q => absurd hS q) (fun _ => jr_extmin g1 g2 hYT hYF h1 hs (kd := fun _ => true) (Or.inl ⟨rfl, fun _ => rfl⟩) (fun best fn fo ft fk fi yz ym yr yk hM => ⟨jr_mn_lv h1 hs (fun _ => rfl) hM, hI⟩))
  · refine jx_set (fun _ => ?_) (fun q => absurd q hS)
    unfold wpY_cost
    exact jy_set (fun _ => ⟨rfl, hI⟩) (fun q => absurd q hS)
theorem i_vc_linearCost {k : Nat} {u : SX} {v : SY} (I : i_Rel k u v) (hk : k + 4 ≤ 2048) (v1 : Int32) : wpX_linearCost (fun r u' => wpY_linearCost (fun r' v' => r' = r ∧ i_Rel (k + 4) u' v') v v1) u v1 := by
  obtain ⟨xe, xs, xl, xc, xn⟩ := u
  obtain ⟨fn, fo, ft, fk, fi, yt, yf, yz, ym, yr, yk⟩ := v
  have hI : jo_RR xe xs xl yt yf := I
  have hJ := hI
  obtain ⟨E, S, K, L, ⟨g1, g2, g3, g4⟩, hXe, hXs, hXl, hL, hYT, hYF⟩ := hJ
  unfold wpX_linearCost
  by_cases hS : jo_isS v1
  · obtain ⟨s, h1, hs, rfl⟩ := jx_isS hS
    refine jx_set (fun q => absurd hS q) (fun _ => jx_flc g1 g2 hXe hXs h1 hs (fun xc' hc => ?_))
    dsimp only
    rw [hc 0 (by omega) (jl_zero s hs)]
    unfold wpY_linearCost
    exact jy_set (fun q => absurd hS q) (fun _ => jr_extmin g1 g2 hYT hYF h1 hs (kd := jo_lin) (Or.inr (Or.inl ⟨rfl, fun _ => rfl⟩)) (fun best fn fo ft fk fi yz ym yr yk hM => ⟨jr_mn_ll h1 hs (fun _ => rfl) hM, hI⟩))
  · refine jx_set (fun _ => ?_) (fun q => absurd q hS)
    unfold wpY_linearCost
    exact jy_set (fun _ => ⟨rfl, hI⟩) (fun q => absurd q hS)
theorem i_vc_linkedCost {k : Nat} {u : SX} {v : SY} (I : i_Rel k u v) (hk : k + 4 ≤ 2048) (v1 : Int32) : wpX_linkedCost (fun r u' => wpY_linkedCost (fun r' v' => r' = r ∧ i_Rel (k + 4) u' v') v v1) u v1 := by
  obtain ⟨xe, xs, xl, xc, xn⟩ := u
  obtain ⟨fn, fo, ft, fk, fi, yt, yf, yz, ym, yr, yk⟩ := v
  have hI : jo_RR xe xs xl yt yf := I
  have hJ := hI
  obtain ⟨E, S, K, L, ⟨g1, g2, g3, g4⟩, hXe, hXs, hXl, hL, hYT, hYF⟩ := hJ
  unfold wpX_linkedCost
  by_cases hS : jo_isS v1
  · obtain ⟨s, h1, hs, rfl⟩ := jx_isS hS
    refine jx_set (fun q => absurd hS q) (fun _ => jx_linkedCost g1 g2 hXe hXs hXl hL h1 hs (fun xc' => ?_))
    unfold wpY_linkedCost
    exact jy_set (fun q => absurd hS q) (fun _ => jr_extmin g1 g2 hYT hYF h1 hs (kd := jo_lkd (jo_lk K)) (Or.inr (Or.inr ⟨rfl, fun _ => rfl⟩)) (fun best fn fo ft fk fi yz ym yr yk hM => ⟨jr_mn_kv h1 hs (fun _ => rfl) hM, hI⟩))
  · refine jx_set (fun _ => ?_) (fun q => absurd q hS)
    unfold wpY_linkedCost
    exact jy_set (fun _ => ⟨rfl, hI⟩) (fun q => absurd q hS)
theorem i_vc_worst {k : Nat} {u : SX} {v : SY} (I : i_Rel k u v) (hk : k + 4 ≤ 2048) (v1 : Int32) : wpX_worst (fun r u' => wpY_worst (fun r' v' => r' = r ∧ i_Rel (k + 4) u' v') v v1) u v1 := by
  obtain ⟨xe, xs, xl, xc, xn⟩ := u
  obtain ⟨fn, fo, ft, fk, fi, yt, yf, yz, ym, yr, yk⟩ := v
  have hI : jo_RR xe xs xl yt yf := I
  have hJ := hI
  obtain ⟨E, S, K, L, ⟨g1, g2, g3, g4⟩, hXe, hXs, hXl, hL, hYT, hYF⟩ := hJ
  unfold wpX_worst
  by_cases hS : jo_isS v1
  · obtain ⟨s, h1, hs, rfl⟩ := jx_isS hS
    refine jx_set (fun q => absurd hS q) (fun _ => jx_worst g1 g2 hXe hXs h1 hs (fun xc' => ?_))
    unfold wpY_worst
    exact jy_set (fun q => absurd hS q) (fun _ => jr_extmax g1 g2 hYT hYF h1 hs (kd := fun _ => true) (Or.inl ⟨rfl, fun _ => rfl⟩) (fun best fn fo ft fk fi yz ym yr yk hM => ⟨jr_mx_gv h1 hs (fun _ => rfl) hM, hI⟩))
  · refine jx_set (fun _ => ?_) (fun q => absurd q hS)
    unfold wpY_worst
    exact jy_set (fun _ => ⟨rfl, hI⟩) (fun q => absurd q hS)
theorem i_vc_left {k : Nat} {u : SX} {v : SY} (I : i_Rel k u v) (hk : k + 4 ≤ 2048) (v1 : Int32) : wpX_left (fun r u' => wpY_left (fun r' v' => r' = r ∧ i_Rel (k + 4) u' v') v v1) u v1 := by
  obtain ⟨xe, xs, xl, xc, xn⟩ := u
  obtain ⟨fn, fo, ft, fk, fi, yt, yf, yz, ym, yr, yk⟩ := v
  have hI : jo_RR xe xs xl yt yf := I
  have hJ := hI
  obtain ⟨E, S, K, L, ⟨g1, g2, g3, g4⟩, hXe, hXs, hXl, hL, hYT, hYF⟩ := hJ
  unfold wpX_left
  have hz : ∀ s, s < 32 → jo_sz E S s ≤ 64 ^ (jo_m s) := fun s _ => js_sz g1 g2 s
  by_cases hS : jo_isS v1
  · obtain ⟨s, h1, hs, rfl⟩ := jx_isS hS
    refine jx_set (fun q => absurd hS q) (fun _ => jx_one hs (fun ho => jx_fill g1 g2 hXe hXs hs (fun xc' hc => jx_left g1 g2 h1 hs ho hc (fun a ha => ?_))) (fun ho => ?_))
    · unfold wpY_left
      refine jy_set (fun q => absurd hS q) (fun _ => jr_extmin g1 g2 hYT hYF h1 hs (kd := fun _ => true) (Or.inl ⟨rfl, fun _ => rfl⟩) (fun best fn fo ft fk fi yz ym yr yk hM => ?_))
      have eb := jr_mn_lv h1 hs (fun _ => rfl) hM
      subst eb
      exact jp_prepare g1 g2 hYT hYF h1 hs (fun yz' ym' hz' hm => jy_count hs (jr_left1 g2 hYF hz hz' h1 hs ho hm (fun a' fo ft fk fi yr yk ha' => ⟨by rw [jx_LFu ha ha'], hI⟩)))
    · unfold wpY_left
      refine jy_set (fun q => absurd hS q) (fun _ => jr_extmin g1 g2 hYT hYF h1 hs (kd := fun _ => true) (Or.inl ⟨rfl, fun _ => rfl⟩) (fun best fn fo ft fk fi yz ym yr yk hM => ?_))
      exact jp_prepare g1 g2 hYT hYF h1 hs (fun yz' ym' hz' hm => jy_count hs (jr_left0 g2 hYF hz' h1 hs ho hm (fun fo ft fk fi yr yk => ⟨rfl, hI⟩)))
  · refine jx_set (fun _ => ?_) (fun q => absurd q hS)
    unfold wpY_left
    exact jy_set (fun _ => ⟨rfl, hI⟩) (fun q => absurd q hS)
theorem i_vc_linearTable {k : Nat} {u : SX} {v : SY} (I : i_Rel k u v) (hk : k + 4 ≤ 2048) (v1 : Int32) (v2 : Int32) : wpX_linearTable (fun r u' => wpY_linearTable (fun r' v' => r' = r ∧ i_Rel (k + 4) u' v') v v1 v2) u v1 v2 := by
  obtain ⟨xe, xs, xl, xc, xn⟩ := u
  obtain ⟨fn, fo, ft, fk, fi, yt, yf, yz, ym, yr, yk⟩ := v
  have hI : jo_RR xe xs xl yt yf := I
  have hJ := hI
  obtain ⟨E, S, K, L, ⟨g1, g2, g3, g4⟩, hXe, hXs, hXl, hL, hYT, hYF⟩ := hJ
  unfold wpX_linearTable
  have hz : ∀ s, s < 32 → jo_sz E S s ≤ 64 ^ (jo_m s) := fun s _ => js_sz g1 g2 s
  by_cases hS : jo_isS v1
  · obtain ⟨s, h1, hs, rfl⟩ := jx_isS hS
    obtain ⟨l, hl⟩ := jl_fst (z := jo_sz E S) hs (by omega : 0 < 32) (jl_zero s hs)
    have h5 := jq_len hs hl
    have hY : ∀ r xc' xn', r = jo_at l v2 → wpY_linearTable (fun r' v' => r' = r ∧ i_Rel (k + 4) (xe, xs, xl, xc', xn') v') (fn, fo, ft, fk, fi, yt, yf, yz, ym, yr, yk) (nI s) v2 := by
      intro r xc' xn' er
      unfold wpY_linearTable
      refine jy_set (fun q => absurd hS q) (fun _ => jr_extmin g1 g2 hYT hYF h1 hs (kd := jo_lin) (Or.inr (Or.inl ⟨rfl, fun _ => rfl⟩)) (fun best fn fo ft fk fi yz ym yr yk hM => ?_))
      have eb := jr_mn_ll h1 hs (fun _ => rfl) hM
      subst eb
      exact jp_prepare g1 g2 hYT hYF h1 hs (fun yz' ym' hz' hm => jy_count hs (jr_linTab g2 hYF hz hz' h1 hs hm hl (fun fo ft fk fi yr yk => ⟨er.symm, hI⟩)))
    refine jx_set (fun q => absurd hS q) (fun _ => ⟨fun hneg => hY _ _ _ ?_, fun hneg => ?_⟩)
    · rw [jo_at, if_pos hneg]
    · obtain ⟨q, hq, rfl⟩ := nI_of hneg
      refine pk_lt q 5 (fun hlt => jx_flc g1 g2 hXe hXs h1 hs (fun xc' hc => jx_linTab g1 g2 hs hlt hc hl (hY _ _ _ ?_))) (fun hge => hY _ _ _ ?_) rfl rfl hq (by omega)
      · rw [jo_at, if_neg hneg, nI_clamp hq]
      · rw [jo_at, if_neg hneg, nI_clamp hq, jr_nth_big (by omega)]
  · refine jx_set (fun _ => ?_) (fun q => absurd q hS)
    unfold wpY_linearTable
    exact jy_set (fun _ => ⟨rfl, hI⟩) (fun q => absurd q hS)
theorem i_vc_plans {k : Nat} {u : SX} {v : SY} (I : i_Rel k u v) (hk : k + 4 ≤ 2048) (v1 : Int32) : wpX_plans (fun r u' => wpY_plans (fun r' v' => r' = r ∧ i_Rel (k + 4) u' v') v v1) u v1 := by
  obtain ⟨xe, xs, xl, xc, xn⟩ := u
  obtain ⟨fn, fo, ft, fk, fi, yt, yf, yz, ym, yr, yk⟩ := v
  have hI : jo_RR xe xs xl yt yf := I
  have hJ := hI
  obtain ⟨E, S, K, L, ⟨g1, g2, g3, g4⟩, hXe, hXs, hXl, hL, hYT, hYF⟩ := hJ
  unfold wpX_plans
  by_cases hS : jo_isS v1
  · obtain ⟨s, h1, hs, rfl⟩ := jx_isS hS
    refine jx_set (fun q => absurd hS q) (fun _ => jx_countPlans hXl hL (x2 := 0) (e := fun _ _ => true) (Or.inl ⟨rfl, fun _ _ => rfl⟩) (g := fun t => (jo_P t).countP (fun _ => true)) (fun t ho => by rw [jm_P_one ho]; rfl) (fun t t1 ht ho => (jm_cnt_all t1 ht ho).trans (by simp)) h1 hs (fun xn' => ?_))
    unfold wpY_plans
    exact jy_set (fun q => absurd hS q) (fun _ => jr_countPlans g1 g2 hYT hYF h1 hs (kd := fun _ => true) (fb := fun _ => true) (Or.inl ⟨rfl, fun _ => rfl⟩) (Or.inl ⟨rfl, fun _ => rfl⟩) (fun fn fo ft fk fi yz ym yr yk => ⟨rfl, hI⟩))
  · refine jx_set (fun _ => ?_) (fun q => absurd q hS)
    unfold wpY_plans
    exact jy_set (fun _ => ⟨rfl, hI⟩) (fun q => absurd q hS)
theorem i_vc_linkedPlans {k : Nat} {u : SX} {v : SY} (I : i_Rel k u v) (hk : k + 4 ≤ 2048) (v1 : Int32) : wpX_linkedPlans (fun r u' => wpY_linkedPlans (fun r' v' => r' = r ∧ i_Rel (k + 4) u' v') v v1) u v1 := by
  obtain ⟨xe, xs, xl, xc, xn⟩ := u
  obtain ⟨fn, fo, ft, fk, fi, yt, yf, yz, ym, yr, yk⟩ := v
  have hI : jo_RR xe xs xl yt yf := I
  have hJ := hI
  obtain ⟨E, S, K, L, ⟨g1, g2, g3, g4⟩, hXe, hXs, hXl, hL, hYT, hYF⟩ := hJ
  unfold wpX_linkedPlans
  by_cases hS : jo_isS v1
  · obtain ⟨s, h1, hs, rfl⟩ := jx_isS hS
    refine jx_set (fun q => absurd hS q) (fun _ => jx_countPlans hXl hL (x2 := 1) (e := jo_lk K) (Or.inr ⟨rfl, rfl⟩) (g := fun t => (jo_P t).countP (jo_lkd (jo_lk K))) (fun t ho => by rw [jm_P_one ho]; rfl) (fun t t1 ht ho => jm_cnt_lk t1 ht ho) h1 hs (fun xn' => ?_))
    unfold wpY_linkedPlans
    exact jy_set (fun q => absurd hS q) (fun _ => jr_countPlans g1 g2 hYT hYF h1 hs (kd := jo_lkd (jo_lk K)) (fb := jo_lkd (jo_lk K)) (Or.inr (Or.inr ⟨rfl, fun _ => rfl⟩)) (Or.inl ⟨rfl, fun _ => rfl⟩) (fun fn fo ft fk fi yz ym yr yk => ⟨rfl, hI⟩))
  · refine jx_set (fun _ => ?_) (fun q => absurd q hS)
    unfold wpY_linkedPlans
    exact jy_set (fun _ => ⟨rfl, hI⟩) (fun q => absurd q hS)
theorem i_vc_cheapest {k : Nat} {u : SX} {v : SY} (I : i_Rel k u v) (hk : k + 4 ≤ 2048) (v1 : Int32) : wpX_cheapest (fun r u' => wpY_cheapest (fun r' v' => r' = r ∧ i_Rel (k + 4) u' v') v v1) u v1 := by
  obtain ⟨xe, xs, xl, xc, xn⟩ := u
  obtain ⟨fn, fo, ft, fk, fi, yt, yf, yz, ym, yr, yk⟩ := v
  have hI : jo_RR xe xs xl yt yf := I
  have hJ := hI
  obtain ⟨E, S, K, L, ⟨g1, g2, g3, g4⟩, hXe, hXs, hXl, hL, hYT, hYF⟩ := hJ
  unfold wpX_cheapest
  have hz : ∀ s, s < 32 → jo_sz E S s ≤ 64 ^ (jo_m s) := fun s _ => js_sz g1 g2 s
  by_cases hS : jo_isS v1
  · obtain ⟨s, h1, hs, rfl⟩ := jx_isS hS
    have hlv := jm_Lst_le hz h1 hs (jv_l (z := jo_sz E S) h1 hs)
    refine jx_set (fun q => absurd hS q) (fun _ => jx_fill g1 g2 hXe hXs hs (fun xc' hc => jx_cheapest g1 g2 h1 hs hc (fun xn' => ?_)))
    unfold wpY_cheapest
    refine jy_set (fun q => absurd hS q) (fun _ => jr_extmin g1 g2 hYT hYF h1 hs (kd := fun _ => true) (Or.inl ⟨rfl, fun _ => rfl⟩) (fun best fn fo ft fk fi yz ym yr yk hM => ?_))
    have eb := jr_mn_lv h1 hs (fun _ => rfl) hM
    subst eb
    exact jr_countPlans g1 g2 hYT hYF h1 hs (kd := fun _ => true) (fb := fun p => jo_c (jo_sz E S) p == jo_lv (jo_sz E S) s) (Or.inl ⟨rfl, fun _ => rfl⟩) (Or.inr ⟨_, rfl, by omega, fun _ => rfl⟩) (fun fn fo ft fk fi yz ym yr yk => ⟨rfl, hI⟩)
  · refine jx_set (fun _ => ?_) (fun q => absurd q hS)
    unfold wpY_cheapest
    exact jy_set (fun _ => ⟨rfl, hI⟩) (fun q => absurd q hS)
theorem jw_back {f : Nat → Int32} {a b : Nat} {x v : Int32} (hv : v = f a) (hb : f b = f a) (p : Nat) : upd (upd (upd (upd f a x) b x) a v) b v p = f p := by
  by_cases e2 : p = b
  · subst e2; rw [pk_us, hv, hb]
  · rw [pk_un e2]
    by_cases e1 : p = a
    · subst e1; rw [pk_us, hv]
    · rw [pk_un e1, pk_un e2, pk_un e1]
theorem i_vc_gain {k : Nat} {u : SX} {v : SY} (I : i_Rel k u v) (hk : k + 4 ≤ 2048) (v1 : Int32) (v2 : Int32) : wpX_gain (fun r u' => wpY_gain (fun r' v' => r' = r ∧ i_Rel (k + 4) u' v') v v1 v2) u v1 v2 := by
  obtain ⟨xe, xs, xl, xc, xn⟩ := u
  obtain ⟨fn, fo, ft, fk, fi, yt, yf, yz, ym, yr, yk⟩ := v
  have hI : jo_RR xe xs xl yt yf := I
  have hJ := hI
  obtain ⟨E, S, K, L, ⟨g1, g2, g3, g4⟩, hXe, hXs, hXl, hL, hYT, hYF⟩ := hJ
  unfold wpX_gain
  by_cases hP : jo_isP v1 v2
  · obtain ⟨i, j, hi, hj, hn, rfl, rfl⟩ := jw_P hP
    have eK := g3 i j hi hj
    have eS := g4 i j hi hj
    rw [show 5 * i + j = i * 5 + j from by omega, show 5 * j + i = j * 5 + i from by omega] at eK eS
    have ea : i * 5 + j < 25 := by omega
    have eb : j * 5 + i < 25 := by omega
    obtain ⟨g1', g2', g3', g4'⟩ := jq_Gh ⟨g1, g2, g3, g4⟩ hi hj (Nat.le_refl 6) true
    have vy : vp_in ((5 : Int32) * nI i + nI j) 25 := by rw [jy_ix]; exact vp_in_nI (by omega) (by omega)
    have ey : yf ((5 : Int32) * nI i + nI j).toNatClampNeg = yf (i * 5 + j) := by rw [jy_ix, nI_clamp (by omega)]
    have vx : vp_in (nI i * 5 + nI j) 25 := by rw [jx_ix]; exact vp_in_nI (by omega) (by omega)
    have ex : xs (nI i * 5 + nI j).toNatClampNeg = xs (i * 5 + j) := by rw [jx_ix, nI_clamp (by omega)]
    have bx : xs (j * 5 + i) = xs (i * 5 + j) := by rw [hXs _ eb, hXs _ ea, eS]
    have bY : yf (j * 5 + i) = yf (i * 5 + j) := by
      cases hk : K (i * 5 + j) with
      | true => rw [(hYF _ ea).1 hk, (hYF _ eb).1 (by rw [← eK]; exact hk), eS]
      | false => rw [((hYF _ ea).2 hk).1, ((hYF _ eb).2 (by rw [← eK]; exact hk)).1]
    refine jq_xPt hP (jx_r1 (jx_fill (s := 31) g1 g2 hXe hXs (by omega) (fun xc1 hc1 => nm_r (hc1 31 (by omega) (by omega)) ⟨vx, nm_r ex (jq_put hi hj (jx_fill (s := 31) g1' g2' hXe (jq_XS hXs _ _ 6) (by omega) (fun xc2 hc2 => jq_put hi hj ?_)))⟩)))
    dsimp only
    rw [hc2 31 (by omega) (by omega)]
    unfold wpY_gain
    refine jq_yPt hP (jx_r1 (jr_extmin (s := 31) g1 g2 hYT hYF (by omega) (by omega) (kd := fun _ => true) (Or.inl ⟨rfl, fun _ => rfl⟩) (fun best fn fo ft fk fi yz ym yr yk hM => ⟨vy, nm_r ey (jq_setF hi hj (jr_extmin (s := 31) g1' g2' hYT (jq_YF1 hYF _ _ 6) (by omega) (by omega) (kd := fun _ => true) (Or.inl ⟨rfl, fun _ => rfl⟩) (fun best' fn fo ft fk fi yz ym yr yk hM' => jq_setF hi hj ⟨?_, ?_⟩)))⟩)))
    · rw [jr_mn_lv (by omega) (by omega) (fun _ => rfl) hM, jr_mn_lv (by omega) (by omega) (fun _ => rfl) hM']
    · refine ⟨E, S, K, L, ⟨g1, g2, g3, g4⟩, hXe, fun p hp => ?_, hXl, hL, hYT, fun p hp => ?_⟩
      · exact (jw_back rfl bx p).trans (hXs p hp)
      · have := jw_back (x := nI 6) (v := yf (i * 5 + j)) rfl bY p
        dsimp only
        rw [this]
        exact hYF p hp
  · refine jq_xPf hP (jx_r0 ?_)
    unfold wpY_gain
    exact jq_yPf hP (jx_r0 ⟨rfl, hI⟩)
end
