/-- the cross product (b - a) x (c - a) -/
def tn (X Y : Nat → Int) (a b c : Nat) : Int := (X b - X a) * (Y c - Y a) - (Y b - Y a) * (X c - X a)
def SP (X Y : Nat → Int) (a b : Nat) : Prop := X a = X b ∧ Y a = Y b
def BT (X Y : Nat → Int) (a b c : Nat) : Prop := (X a - X c) * (Y b - Y c) = (Y a - Y c) * (X b - X c) ∧ (X a - X c) * (X b - X c) + (Y a - Y c) * (Y b - Y c) ≤ 0
def LM (X Y : Nat → Int) (a b c d : Nat) : Prop := BT X Y a b c ∨ BT X Y a b d ∨ BT X Y c d a ∨ BT X Y c d b ∨ (¬ (0 < tn X Y a b c ↔ 0 < tn X Y a b d) ∧ ¬ (0 < tn X Y c d a ↔ 0 < tn X Y c d b))
def nx (n i : Nat) : Nat := if i + 1 < n then i + 1 else 0
def SC (n : Nat) (X Y : Nat → Int) (i j : Nat) : Prop :=
  (nx n i = j ∧ (BT X Y i j (nx n j) ∨ BT X Y j (nx n j) i)) ∨
  (nx n i ≠ j ∧ nx n j = i ∧ (BT X Y j i (nx n i) ∨ BT X Y i (nx n i) j)) ∨
  (nx n i ≠ j ∧ nx n j ≠ i ∧ LM X Y i (nx n i) j (nx n j))
/-- the component's proper -/
def PR (n : Nat) (X Y : Nat → Int) : Prop := 3 ≤ n ∧ (∀ i j, i < j → j < n → ¬ SP X Y i j) ∧ (∀ i j, i < j → j < n → ¬ SC n X Y i j)
theorem nx_lt {n i : Nat} (h : i < n) : nx n i < n := by
  unfold nx; split <;> omega
theorem nx_mod {n i : Nat} (h : i < n) : (i + 1) % n = nx n i := by
  unfold nx
  split
  · exact Nat.mod_eq_of_lt (by omega)
  · have : i + 1 = n := by omega
    rw [this, Nat.mod_self]
theorem tn_sm {X Y : Nat → Int} (g : gr X Y) (a b c : Nat) : sm (tn X Y a b c) := sm_d (gr_x g _ _) (gr_y g _ _) (gr_y g _ _) (gr_x g _ _)
noncomputable def ind (p : Prop) : Nat := @ite Nat p (Classical.propDecidable p) 1 0
theorem ind_t {p : Prop} (h : p) : ind p = 1 := if_pos h
theorem ind_f {p : Prop} (h : ¬ p) : ind p = 0 := if_neg h
theorem ind_c {p q : Prop} (h : p ↔ q) : ind p = ind q := by rw [propext h]
noncomputable def sel {α : Type} (p : Prop) (a b : α) : α := @ite α p (Classical.propDecidable p) a b
theorem sel_t {α : Type} {p : Prop} {a b : α} (h : p) : sel p a b = a := if_pos h
theorem sel_f {α : Type} {p : Prop} {a b : α} (h : ¬ p) : sel p a b = b := if_neg h
def oE (X Y : Nat → Int) (x y : Int) (i j : Nat) : Prop := (2 * X i - x) * (2 * Y j - y) - (2 * Y i - y) * (2 * X j - x) = 0 ∧ (2 * X i - x) * (2 * X j - x) + (2 * Y i - y) * (2 * Y j - y) ≤ 0
def cR (X Y : Nat → Int) (x y : Int) (i j : Nat) : Prop := ¬ (0 < 2 * Y i - y ↔ 0 < 2 * Y j - y) ∧ (0 < (2 * X i - x) * (2 * Y j - y) - (2 * Y i - y) * (2 * X j - x) ↔ 0 < 2 * Y j - y)
/-- the sides before k that the ray crosses -/
noncomputable def pc (n : Nat) (X Y : Nat → Int) (x y : Int) : Nat → Nat
  | 0 => 0
  | k + 1 => pc n X Y x y k + ind (cR X Y x y k (nx n k))
/-- where a point (its coordinates twice) is: -1, 0, 1 -/
noncomputable def plv (n : Nat) (X Y : Nat → Int) (x y : Int) : Int := sel (∃ i, i < n ∧ oE X Y x y i (nx n i)) 0 (sel (pc n X Y x y n % 2 = 1) 1 (-1))
/-- the component's isCut, of two corners -/
def CUX (n : Nat) (X Y : Nat → Int) (p q : Nat) : Prop := p ≠ q ∧ ¬ (nx n p = q ∨ nx n q = p) ∧ (∀ i, i < n → ¬ (i = p ∨ i = q ∨ nx n i = p ∨ nx n i = q) → ¬ LM X Y p q i (nx n i)) ∧ plv n X Y (X p + X q) (Y p + Y q) = 1
theorem plv_r {n : Nat} {X Y : Nat → Int} {x y : Int} : plv n X Y x y = 0 ∨ plv n X Y x y = 1 ∨ plv n X Y x y = -1 := by
  unfold plv
  by_cases h : ∃ i, i < n ∧ oE X Y x y i (nx n i)
  · exact Or.inl (sel_t h)
  · rw [sel_f h]
    by_cases h2 : pc n X Y x y n % 2 = 1
    · exact Or.inr (Or.inl (sel_t h2))
    · exact Or.inr (Or.inr (sel_f h2))
