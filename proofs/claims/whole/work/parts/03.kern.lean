theorem jo_pl_31 : jo_pl 6 31 = jo_pl 5 31 := by decide +kernel
theorem jo_R_31 : (jo_RL 31).all (fun x => x.isSome) = true := by decide +kernel
