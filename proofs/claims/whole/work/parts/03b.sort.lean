def jo_mrg : Nat → List (List (Nat × Nat)) → List (List (Nat × Nat)) → List (List (Nat × Nat))
  | 0, a, b => a ++ b
  | _ + 1, [], b => b
  | _ + 1, x :: a, [] => x :: a
  | n + 1, x :: a, y :: b => if Nat.ble (jo_key x) (jo_key y) then x :: jo_mrg n a (y :: b) else y :: jo_mrg n (x :: a) b
def jo_ms : Nat → List (List (Nat × Nat)) → List (List (Nat × Nat))
  | 0, l => l
  | n + 1, l => jo_mrg (2 ^ (n + 1)) (jo_ms n (l.take (2 ^ n))) (jo_ms n (l.drop (2 ^ n)))
theorem jo_mrg_p : ∀ n a b, (jo_mrg n a b).Perm (a ++ b) := by
  intro n
  induction n with
  | zero => intro a b; exact List.Perm.refl _
  | succ n ih =>
    intro a b
    cases a with
    | nil => exact List.Perm.refl _
    | cons x a =>
      cases b with
      | nil => rw [jo_mrg, List.append_nil]
      | cons y b =>
        rw [jo_mrg]
        split
        · exact (ih a (y :: b)).cons x
        · exact ((ih (x :: a) b).cons y).trans (List.perm_middle.symm)
theorem jo_ms_p : ∀ n l, (jo_ms n l).Perm l := by
  intro n
  induction n with
  | zero => intro l; exact List.Perm.refl _
  | succ n ih =>
    intro l
    rw [jo_ms]
    refine (jo_mrg_p _ _ _).trans ?_
    have := ((ih (l.take (2 ^ n))).append (ih (l.drop (2 ^ n))))
    rwa [List.take_append_drop] at this
theorem jo_ms_eq (n : Nat) {a b : List (List (Nat × Nat))} (h : jo_ms n a = jo_ms n b) : a.Perm b :=
  (jo_ms_p n a).symm.trans (h ▸ jo_ms_p n b)
theorem jo_perm_31 : jo_ms 11 ((jo_RL 31).map jo_js) = jo_ms 11 (jo_pl 5 31) := by decide +kernel
