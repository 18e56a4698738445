/-! the linear plans: the orders of the tables as in a dictionary, and the sets that each goes through -/
def jo_nx (j s : Nat) : List Nat := (List.range 5).filter (fun i => jo_hb (s ^^^ j) i)
def jo_pm : Nat → Nat → Nat → List (List Nat)
  | 0, j, s => if Nat.beq j s then [[]] else []
  | n + 1, j, s => if Nat.beq j s then [[]] else (jo_nx j s).flatMap fun i => (jo_pm n (j ||| 2 ^ i) s).map fun l => i :: l
def jo_ls : Nat → List Nat → List Nat
  | j, [] => if jo_one j then [] else [j]
  | j, i :: l => if jo_one j then jo_ls (j ||| 2 ^ i) l else j :: jo_ls (j ||| 2 ^ i) l
def jo_lin (p : List (Nat × Nat)) : Bool := p.all (fun x => jo_one x.2)
def jo_rw (x : Option (List Nat × List (Nat × Nat))) : List Nat := match x with
  | none => []
  | some y => y.1
theorem jo_pm_ok : ∀ s, s < 32 → ∀ j, j < 32 → jo_part j s = true → jo_pm 6 j s = jo_pm 5 j s := by decide +kernel
theorem jo_lin_s : ∀ s, s < 31 → 1 ≤ s → (((jo_RL s).filter (fun x => jo_lin (jo_js x))).map fun x => (jo_rw x, (jo_js x).map fun y => y.1 ||| y.2)) = (jo_pm 5 0 s).map fun l => (l, jo_ls 0 l) := by decide +kernel
theorem jo_lin_31 : (((jo_RL 31).filter (fun x => jo_lin (jo_js x))).map fun x => (jo_rw x, (jo_js x).map fun y => y.1 ||| y.2)) = (jo_pm 5 0 31).map fun l => (l, jo_ls 0 l) := by decide +kernel
