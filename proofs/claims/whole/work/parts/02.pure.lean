/-! the plans of a set, as lists of joins (left set, right set) from the inside out -/
def jo_ps (s : Nat) : Nat → List Nat
  | 0 => []
  | n + 1 => if Nat.beq n 0 then [] else if jo_part n s then jo_ps s n ++ [n] else jo_ps s n
def jo_pl : Nat → Nat → List (List (Nat × Nat))
  | 0, _ => []
  | n + 1, s => if jo_one s then [[]] else (jo_ps s s).flatMap fun a => (jo_pl n a).flatMap fun p => (jo_pl n (s ^^^ a)).map fun q => p ++ (q ++ [(a, s ^^^ a)])
/-! what the reference runs through -/
def jo_cn (s : Nat) : Nat → Nat
  | 0 => 0
  | i + 1 => if jo_hb s i then jo_cn s i + 1 else jo_cn s i
def jo_isF (f : Nat) : Nat → Nat → Nat → Bool
  | 0, _, h => Nat.beq h 1
  | k + 1, i, h => if jo_hb f i then jo_isF f k (i + 1) (h + 1) else if Nat.ble h 1 then false else jo_isF f k (i + 1) (h - 1)
def jo_frm (m f : Nat) : Bool := if Nat.ble (2 ^ (2 * m - 1)) f then false else jo_isF f (2 * m - 1) 0 0
def jo_fl (m : Nat) : Nat → List Nat
  | 0 => []
  | n + 1 => if jo_frm m n then jo_fl m n ++ [n] else jo_fl m n
def jo_FM : Nat → List Nat
  | 1 => [1]
  | 2 => [3]
  | 3 => [7, 11]
  | 4 => [15, 23, 27, 39, 43]
  | _ => [31, 47, 55, 59, 79, 87, 91, 103, 107, 143, 151, 155, 167, 171]
def jo_fact : Nat → Nat
  | 0 => 1
  | n + 1 => jo_fact n * (n + 1)
def jo_find (left : Nat) : Nat → Nat → Nat → Option Nat
  | 0, _, _ => none
  | n + 1, sk, t => if jo_hb left t then (if Nat.beq sk 0 then some t else jo_find left n (sk - 1) (t + 1)) else jo_find left n sk (t + 1)
def jo_ord : Nat → Nat → Nat → Nat → Option (List Nat)
  | 0, _, _, _ => some []
  | k + 1, rest, unit, left => if Nat.beq (unit / (k + 1)) 0 then none else
    (jo_find left 5 (rest / (unit / (k + 1))) 0).bind fun t => (jo_ord k (rest % (unit / (k + 1))) (unit / (k + 1)) (left ^^^ 2 ^ t)).bind fun l => some (t :: l)
def jo_fol (form : Nat) : Nat → Nat → List Nat → List Nat → List (Nat × Nat) → Option (List (Nat × Nat))
  | 0, _, _, _, js => some js
  | k + 1, i, row, stk, js => if jo_hb form i then
      (match row with
       | [] => none
       | t :: row' => if Nat.ble 5 stk.length then none else jo_fol form k (i + 1) row' (2 ^ t :: stk) js)
    else (match stk with
       | r :: l :: st => jo_fol form k (i + 1) row ((l ||| r) :: st) (js ++ [(l, r)])
       | _ => none)
def jo_m (s : Nat) : Nat := jo_cn s 5
def jo_fc (s : Nat) : Nat := (jo_FM (jo_m s)).length
def jo_n (s : Nat) : Nat := jo_fact (jo_m s) * jo_fc s
/-- the number i of the reference's runs: its order of the tables and its joins -/
def jo_R (s i : Nat) : Option (List Nat × List (Nat × Nat)) :=
  (jo_ord (jo_m s) (i / jo_fc s) (jo_fact (jo_m s)) s).bind fun row => (jo_fol ((jo_FM (jo_m s)).getD (i % jo_fc s) 0) (2 * jo_m s - 1) 0 row [] []).bind fun js => some (row, js)
def jo_RL (s : Nat) : List (Option (List Nat × List (Nat × Nat))) := (List.range (jo_n s)).map (jo_R s)
/-! sorting, for the check that two lists hold the same -/
def jo_key (p : List (Nat × Nat)) : Nat := p.foldl (fun k x => k * 1024 + (x.1 * 32 + x.2)) 1
def jo_ins (x : List (Nat × Nat)) : List (List (Nat × Nat)) → List (List (Nat × Nat))
  | [] => [x]
  | y :: l => if Nat.ble (jo_key x) (jo_key y) then x :: y :: l else y :: jo_ins x l
def jo_srt : List (List (Nat × Nat)) → List (List (Nat × Nat))
  | [] => []
  | x :: l => jo_ins x (jo_srt l)
theorem jo_ins_p (x : List (Nat × Nat)) : ∀ l, (jo_ins x l).Perm (x :: l)
  | [] => List.Perm.refl _
  | y :: l => by
    unfold jo_ins
    split
    · exact List.Perm.refl _
    · exact ((jo_ins_p x l).cons y).trans (List.Perm.swap x y l)
theorem jo_srt_p : ∀ l, (jo_srt l).Perm l
  | [] => List.Perm.refl _
  | x :: l => (jo_ins_p x _).trans ((jo_srt_p l).cons x)
theorem jo_srt_eq {a b : List (List (Nat × Nat))} (h : jo_srt a = jo_srt b) : a.Perm b :=
  (jo_srt_p a).symm.trans (h ▸ jo_srt_p b)
theorem jo_fl_ok : ∀ m, m < 6 → 1 ≤ m → jo_fl m 512 = jo_FM m := by decide +kernel
theorem jo_pl_ok : ∀ s, s < 31 → 1 ≤ s → jo_pl 6 s = jo_pl 5 s := by decide +kernel
def jo_js (x : Option (List Nat × List (Nat × Nat))) : List (Nat × Nat) := match x with
  | none => []
  | some y => y.2
theorem jo_R_ok : ∀ s, s < 31 → 1 ≤ s → (jo_RL s).all (fun x => x.isSome) = true := by decide +kernel
theorem jo_perm_s : ∀ s, s < 31 → 1 ≤ s → jo_srt ((jo_RL s).map jo_js) = jo_srt (jo_pl 5 s) := by decide +kernel
