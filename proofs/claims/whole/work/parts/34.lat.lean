theorem sg_rows (f : Nat → Int) (m : Nat) : sg f (16 * m) = sg (fun y => sg (fun x => f (16 * y + x)) 16) m := by
  induction m with
  | zero => rfl
  | succ m ih =>
    rw [Nat.mul_succ, sg_split, ih]
    rfl
theorem row_cl : ∀ d : Nat, d < 16 → 0 < d → ∀ N : Nat, N < 15 * d + 1 → sg (fun x => Int.sign ((N : Int) - (x : Int) * (d : Int))) 16 = (((N + d - 1) / d + N / d : Nat) : Int) - 15 := by decide +kernel
def wN (j d : Nat) : Int := if j = 0 ∨ j = d then 1 else 2
theorem col_cl : ∀ d : Nat, d < 16 → 0 < d → ∀ a : Nat, a < 16 → ∀ b : Nat, b < 16 → sg (fun j => wN j d * ((((a * (d - j) + b * j + d - 1) / d + (a * (d - j) + b * j) / d : Nat) : Int) - 15)) (d + 1) = 2 * (d : Int) * ((a : Int) + (b : Int) - 15) := by decide +kernel
