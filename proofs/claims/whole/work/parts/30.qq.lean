/-- half steps round the origin from a to b -/
def qq (a1 a2 b1 b2 : Int) : Int := ((Int.sign b2 - Int.sign a2).natAbs : Int) * Int.sign (a1 * b2 - a2 * b1)
def L3 : List Int := [-1, 0, 1]
theorem s3_mem (z : Int) : Int.sign z ∈ L3 := by
  rcases Int.lt_trichotomy z 0 with h | h | h
  · rw [Int.sign_eq_neg_one_of_neg h]; decide
  · rw [h]; decide
  · rw [Int.sign_eq_one_of_pos h]; decide
theorem s3_all : ∀ a ∈ L3, ∀ b ∈ L3, ∀ c ∈ L3, ∀ x ∈ L3, ∀ y ∈ L3, ∀ z ∈ L3,
    ¬ (0 ≤ a ∧ 0 ≤ b ∧ 0 ≤ c ∧ 0 < a + b + c) → ¬ (a ≤ 0 ∧ b ≤ 0 ∧ c ≤ 0 ∧ a + b + c < 0) →
    ¬ (0 ≤ a * x ∧ 0 ≤ b * y ∧ 0 ≤ c * z ∧ 0 < a * x + b * y + c * z) → ¬ (a * x ≤ 0 ∧ b * y ≤ 0 ∧ c * z ≤ 0 ∧ a * x + b * y + c * z < 0) →
    ((y - x).natAbs : Int) * c + ((z - y).natAbs : Int) * a = ((z - x).natAbs : Int) * (-b) := by decide +kernel
theorem sg_nn (z : Int) : 0 ≤ Int.sign z ↔ 0 ≤ z := by
  have := sg_neg z; omega
theorem sg_np (z : Int) : Int.sign z ≤ 0 ↔ z ≤ 0 := by
  have := sg_pos z; omega
theorem qq_as (a1 a2 b1 b2 : Int) : qq b1 b2 a1 a2 = - qq a1 a2 b1 b2 := by
  unfold qq
  rw [show b1 * a2 - b2 * a1 = -(a1 * b2 - a2 * b1) by grind, Int.sign_neg, Int.mul_neg, show Int.sign a2 - Int.sign b2 = -(Int.sign b2 - Int.sign a2) by omega, Int.natAbs_neg]
theorem qq_n (a1 a2 b1 b2 : Int) : qq (-a1) (-a2) (-b1) (-b2) = qq a1 a2 b1 b2 := by
  unfold qq
  rw [show -a1 * -b2 - -a2 * -b1 = a1 * b2 - a2 * b1 by grind, Int.sign_neg, Int.sign_neg, show - Int.sign b2 - - Int.sign a2 = -(Int.sign b2 - Int.sign a2) by omega, Int.natAbs_neg]
theorem qq_0l (b1 b2 : Int) : qq 0 0 b1 b2 = 0 := by
  unfold qq; rw [show (0 : Int) * b2 - 0 * b1 = 0 by omega, Int.sign_zero, Int.mul_zero]
theorem qq_0r (a1 a2 : Int) : qq a1 a2 0 0 = 0 := by
  unfold qq; rw [show a1 * 0 - a2 * 0 = 0 by omega, Int.sign_zero, Int.mul_zero]
theorem qq_d {a1 a2 b1 b2 : Int} (h : a1 * b2 - a2 * b1 = 0) : qq a1 a2 b1 b2 = 0 := by
  unfold qq; rw [h, Int.sign_zero, Int.mul_zero]
theorem s0_3 {p q r : Int} (h : p + q + r = 0) : ¬ (0 ≤ Int.sign p ∧ 0 ≤ Int.sign q ∧ 0 ≤ Int.sign r ∧ 0 < Int.sign p + Int.sign q + Int.sign r) := by
  rintro ⟨h1, h2, h3, h4⟩
  rw [sg_nn] at h1 h2 h3
  have e1 : p = 0 := by omega
  have e2 : q = 0 := by omega
  have e3 : r = 0 := by omega
  rw [e1, e2, e3] at h4
  exact absurd h4 (by decide)
theorem s0_4 {p q r : Int} (h : p + q + r = 0) : ¬ (Int.sign p ≤ 0 ∧ Int.sign q ≤ 0 ∧ Int.sign r ≤ 0 ∧ Int.sign p + Int.sign q + Int.sign r < 0) := by
  rintro ⟨h1, h2, h3, h4⟩
  rw [sg_np] at h1 h2 h3
  have e1 : p = 0 := by omega
  have e2 : q = 0 := by omega
  have e3 : r = 0 := by omega
  rw [e1, e2, e3] at h4
  exact absurd h4 (by decide)
theorem q3 {a1 a2 b1 b2 c1 c2 : Int}
    (h1 : ¬ (0 ≤ b1 * c2 - b2 * c1 ∧ 0 ≤ c1 * a2 - c2 * a1 ∧ 0 ≤ a1 * b2 - a2 * b1 ∧ 0 < (b1 * c2 - b2 * c1) + (c1 * a2 - c2 * a1) + (a1 * b2 - a2 * b1)))
    (h2 : ¬ (b1 * c2 - b2 * c1 ≤ 0 ∧ c1 * a2 - c2 * a1 ≤ 0 ∧ a1 * b2 - a2 * b1 ≤ 0 ∧ (b1 * c2 - b2 * c1) + (c1 * a2 - c2 * a1) + (a1 * b2 - a2 * b1) < 0)) :
    qq a1 a2 b1 b2 + qq b1 b2 c1 c2 = qq a1 a2 c1 c2 := by
  have e : (b1 * c2 - b2 * c1) * a2 + (c1 * a2 - c2 * a1) * b2 + (a1 * b2 - a2 * b1) * c2 = 0 := by grind
  have k1 := s0_3 e
  have k2 := s0_4 e
  rw [Int.sign_mul, Int.sign_mul, Int.sign_mul] at k1 k2
  have m1 : ¬ (0 ≤ Int.sign (b1 * c2 - b2 * c1) ∧ 0 ≤ Int.sign (c1 * a2 - c2 * a1) ∧ 0 ≤ Int.sign (a1 * b2 - a2 * b1) ∧ 0 < Int.sign (b1 * c2 - b2 * c1) + Int.sign (c1 * a2 - c2 * a1) + Int.sign (a1 * b2 - a2 * b1)) := by
    rintro ⟨z1, z2, z3, z4⟩
    refine h1 ⟨(sg_nn _).mp z1, (sg_nn _).mp z2, (sg_nn _).mp z3, ?_⟩
    have y1 := sg_pos (b1 * c2 - b2 * c1)
    have y2 := sg_pos (c1 * a2 - c2 * a1)
    have y3 := sg_pos (a1 * b2 - a2 * b1)
    have x1 := (sg_nn _).mp z1
    have x2 := (sg_nn _).mp z2
    have x3 := (sg_nn _).mp z3
    omega
  have m2 : ¬ (Int.sign (b1 * c2 - b2 * c1) ≤ 0 ∧ Int.sign (c1 * a2 - c2 * a1) ≤ 0 ∧ Int.sign (a1 * b2 - a2 * b1) ≤ 0 ∧ Int.sign (b1 * c2 - b2 * c1) + Int.sign (c1 * a2 - c2 * a1) + Int.sign (a1 * b2 - a2 * b1) < 0) := by
    rintro ⟨z1, z2, z3, z4⟩
    refine h2 ⟨(sg_np _).mp z1, (sg_np _).mp z2, (sg_np _).mp z3, ?_⟩
    have y1 := sg_neg (b1 * c2 - b2 * c1)
    have y2 := sg_neg (c1 * a2 - c2 * a1)
    have y3 := sg_neg (a1 * b2 - a2 * b1)
    have x1 := (sg_np _).mp z1
    have x2 := (sg_np _).mp z2
    have x3 := (sg_np _).mp z3
    omega
  have := s3_all _ (s3_mem (b1 * c2 - b2 * c1)) _ (s3_mem (c1 * a2 - c2 * a1)) _ (s3_mem (a1 * b2 - a2 * b1)) _ (s3_mem a2) _ (s3_mem b2) _ (s3_mem c2) m1 m2 k1 k2
  unfold qq
  rw [this, ← Int.sign_neg, show -(c1 * a2 - c2 * a1) = a1 * c2 - a2 * c1 by grind]
theorem q3s (u1 u2 w1 w2 : Int) : qq u1 u2 (u1 + w1) (u2 + w2) + qq (u1 + w1) (u2 + w2) w1 w2 = qq u1 u2 w1 w2 := by
  have e1 : (u1 + w1) * w2 - (u2 + w2) * w1 = u1 * w2 - u2 * w1 := by grind
  have e2 : w1 * u2 - w2 * u1 = -(u1 * w2 - u2 * w1) := by grind
  have e3 : u1 * (u2 + w2) - u2 * (u1 + w1) = u1 * w2 - u2 * w1 := by grind
  refine q3 ?_ ?_ <;> rw [e1, e2, e3] <;> omega
/-- the segments have a point in common -/
def MT (a1 a2 b1 b2 c1 c2 d1 d2 : Int) : Prop := ∃ s t s' t' : Int, 0 ≤ s ∧ 0 ≤ t ∧ 0 ≤ s' ∧ 0 ≤ t' ∧ 0 < s + t ∧ s + t = s' + t' ∧ s * a1 + t * b1 = s' * c1 + t' * d1 ∧ s * a2 + t * b2 = s' * c2 + t' * d2
theorem q4 {a1 a2 b1 b2 c1 c2 d1 d2 : Int} (h : ¬ MT a1 a2 b1 b2 c1 c2 d1 d2) :
    qq (c1 - a1) (c2 - a2) (d1 - a1) (d2 - a2) - qq (c1 - b1) (c2 - b2) (d1 - b1) (d2 - b2) = qq (c1 - a1) (c2 - a2) (c1 - b1) (c2 - b2) - qq (d1 - a1) (d2 - a2) (d1 - b1) (d2 - b2) := by
  have id1 : ((d1 - b1) * (c2 - b2) - (d2 - b2) * (c1 - b1)) * a1 + ((c1 - a1) * (d2 - a2) - (c2 - a2) * (d1 - a1)) * b1 = ((d1 - a1) * (d2 - b2) - (d2 - a2) * (d1 - b1)) * c1 + ((c1 - b1) * (c2 - a2) - (c2 - b2) * (c1 - a1)) * d1 := by grind
  have id2 : ((d1 - b1) * (c2 - b2) - (d2 - b2) * (c1 - b1)) * a2 + ((c1 - a1) * (d2 - a2) - (c2 - a2) * (d1 - a1)) * b2 = ((d1 - a1) * (d2 - b2) - (d2 - a2) * (d1 - b1)) * c2 + ((c1 - b1) * (c2 - a2) - (c2 - b2) * (c1 - a1)) * d2 := by grind
  have g1 : ((d1 - b1) * (c2 - b2) - (d2 - b2) * (c1 - b1)) + ((c1 - a1) * (d2 - a2) - (c2 - a2) * (d1 - a1)) = ((d1 - a1) * (d2 - b2) - (d2 - a2) * (d1 - b1)) + ((c1 - b1) * (c2 - a2) - (c2 - b2) * (c1 - a1)) := by grind
  have g2 : (c1 - a1) * (d2 - b2) - (c2 - a2) * (d1 - b1) = ((c1 - a1) * (d2 - a2) - (c2 - a2) * (d1 - a1)) - ((c1 - b1) * (c2 - a2) - (c2 - b2) * (c1 - a1)) := by grind
  have g3 : (d1 - b1) * (c2 - a2) - (d2 - b2) * (c1 - a1) = -((c1 - a1) * (d2 - b2) - (c2 - a2) * (d1 - b1)) := by grind
  have np : ¬ (0 ≤ ((d1 - b1) * (c2 - b2) - (d2 - b2) * (c1 - b1)) ∧ 0 ≤ ((c1 - a1) * (d2 - a2) - (c2 - a2) * (d1 - a1)) ∧ 0 ≤ ((d1 - a1) * (d2 - b2) - (d2 - a2) * (d1 - b1)) ∧ 0 ≤ ((c1 - b1) * (c2 - a2) - (c2 - b2) * (c1 - a1)) ∧ 0 < ((d1 - b1) * (c2 - b2) - (d2 - b2) * (c1 - b1)) + ((c1 - a1) * (d2 - a2) - (c2 - a2) * (d1 - a1))) := by
    rintro ⟨z1, z2, z3, z4, z5⟩
    exact h ⟨_, _, _, _, z1, z2, z3, z4, z5, g1, id1, id2⟩
  have nn : ¬ (((d1 - b1) * (c2 - b2) - (d2 - b2) * (c1 - b1)) ≤ 0 ∧ ((c1 - a1) * (d2 - a2) - (c2 - a2) * (d1 - a1)) ≤ 0 ∧ ((d1 - a1) * (d2 - b2) - (d2 - a2) * (d1 - b1)) ≤ 0 ∧ ((c1 - b1) * (c2 - a2) - (c2 - b2) * (c1 - a1)) ≤ 0 ∧ ((d1 - b1) * (c2 - b2) - (d2 - b2) * (c1 - b1)) + ((c1 - a1) * (d2 - a2) - (c2 - a2) * (d1 - a1)) < 0) := by
    rintro ⟨z1, z2, z3, z4, z5⟩
    refine h ⟨-((d1 - b1) * (c2 - b2) - (d2 - b2) * (c1 - b1)), -((c1 - a1) * (d2 - a2) - (c2 - a2) * (d1 - a1)), -((d1 - a1) * (d2 - b2) - (d2 - a2) * (d1 - b1)), -((c1 - b1) * (c2 - a2) - (c2 - b2) * (c1 - a1)), by omega, by omega, by omega, by omega, by omega, by omega, ?_, ?_⟩
    · rw [Int.neg_mul, Int.neg_mul, Int.neg_mul, Int.neg_mul]; omega
    · rw [Int.neg_mul, Int.neg_mul, Int.neg_mul, Int.neg_mul]; omega
  clear id1 id2 h
  have r1 : qq (c1 - a1) (c2 - a2) (d1 - a1) (d2 - a2) + qq (d1 - a1) (d2 - a2) (d1 - b1) (d2 - b2) = qq (c1 - a1) (c2 - a2) (d1 - b1) (d2 - b2) := by
    refine q3 ?_ ?_ <;> rw [g3, g2] <;> omega
  have r2 : qq (c1 - a1) (c2 - a2) (d1 - b1) (d2 - b2) + qq (d1 - b1) (d2 - b2) (c1 - b1) (c2 - b2) = qq (c1 - a1) (c2 - a2) (c1 - b1) (c2 - b2) := by
    refine q3 ?_ ?_ <;> rw [g2] <;> omega
  have r3 := qq_as (c1 - b1) (c2 - b2) (d1 - b1) (d2 - b2)
  omega
/-- sums -/
def sg (f : Nat → Int) : Nat → Int
  | 0 => 0
  | m + 1 => sg f m + f m
theorem sgc {f f' : Nat → Int} {m : Nat} (h : ∀ i, i < m → f i = f' i) : sg f m = sg f' m := by
  induction m with
  | zero => rfl
  | succ m ih =>
    show sg f m + f m = sg f' m + f' m
    rw [ih fun i hi => h i (by omega), h m (by omega)]
theorem sg_0' {f : Nat → Int} {m : Nat} (h : ∀ i, i < m → f i = 0) : sg f m = 0 := by
  induction m with
  | zero => rfl
  | succ m ih =>
    show sg f m + f m = 0
    rw [ih fun i hi => h i (by omega), h m (by omega)]; rfl
theorem sg_add (f f' : Nat → Int) (m : Nat) : sg (fun i => f i + f' i) m = sg f m + sg f' m := by
  induction m with
  | zero => rfl
  | succ m ih =>
    show sg (fun i => f i + f' i) m + (f m + f' m) = sg f m + f m + (sg f' m + f' m)
    rw [ih]; omega
theorem sg_sub (f f' : Nat → Int) (m : Nat) : sg (fun i => f i - f' i) m = sg f m - sg f' m := by
  induction m with
  | zero => rfl
  | succ m ih =>
    show sg (fun i => f i - f' i) m + (f m - f' m) = sg f m + f m - (sg f' m + f' m)
    rw [ih]; omega
theorem sg_mul (k : Int) (f : Nat → Int) (m : Nat) : sg (fun i => k * f i) m = k * sg f m := by
  induction m with
  | zero => exact (Int.mul_zero k).symm
  | succ m ih =>
    show sg (fun i => k * f i) m + k * f m = k * (sg f m + f m)
    rw [ih, Int.mul_add]
theorem sg_swap (f : Nat → Nat → Int) (m k : Nat) : sg (fun i => sg (fun j => f i j) k) m = sg (fun j => sg (fun i => f i j) m) k := by
  induction m with
  | zero => exact (sg_0' fun i _ => rfl).symm
  | succ m ih =>
    show sg (fun i => sg (fun j => f i j) k) m + sg (fun j => f m j) k = sg (fun j => sg (fun i => f i j) m + f m j) k
    rw [ih, sg_add]
theorem sg_split (f : Nat → Int) (m k : Nat) : sg f (m + k) = sg f m + sg (fun j => f (m + j)) k := by
  induction k with
  | zero => exact (Int.add_zero _).symm
  | succ k ih =>
    show sg f (m + k) + f (m + k) = sg f m + (sg (fun j => f (m + j)) k + f (m + k))
    rw [ih]; omega
theorem sg_2 {f : Nat → Int} {a b : Nat} (ne : a ≠ b) (m : Nat) (h : ∀ i, i < m → i ≠ a → i ≠ b → f i = 0) : sg f m = (if a < m then f a else 0) + (if b < m then f b else 0) := by
  induction m with
  | zero => rfl
  | succ m ih =>
    show sg f m + f m = _
    rw [ih fun i hi => h i (by omega)]
    by_cases ea : m = a
    · subst ea
      rw [if_neg (Nat.lt_irrefl m), if_pos (Nat.lt_succ_self m)]
      by_cases c : b < m
      · rw [if_pos c, if_pos (by omega)]; omega
      · rw [if_neg c, if_neg (by omega)]; omega
    · by_cases eb : m = b
      · subst eb
        rw [if_neg (Nat.lt_irrefl m), if_pos (Nat.lt_succ_self m)]
        by_cases c : a < m
        · rw [if_pos c, if_pos (by omega)]; omega
        · rw [if_neg c, if_neg (by omega)]; omega
      · rw [h m (by omega) ea eb]
        have c1 : (if a < m + 1 then f a else 0) = (if a < m then f a else 0) := by
          by_cases c : a < m
          · rw [if_pos c, if_pos (by omega)]
          · rw [if_neg c, if_neg (by omega)]
        have c2 : (if b < m + 1 then f b else 0) = (if b < m then f b else 0) := by
          by_cases c : b < m
          · rw [if_pos c, if_pos (by omega)]
          · rw [if_neg c, if_neg (by omega)]
        rw [c1, c2]; omega
theorem sg_1 {f : Nat → Int} {a m : Nat} (ha : a < m) (h : ∀ i, i < m → i ≠ a → f i = 0) : sg f m = f a := by
  have := sg_2 (f := f) (a := a) (b := m) (by omega) m (fun i hi x _ => h i hi x)
  rw [if_pos ha, if_neg (Nat.lt_irrefl m)] at this
  omega
/-- telescope along the sides, up to m -/
theorem tele {n : Nat} (f : Nat → Int) (m : Nat) (hm : m < n) : sg (fun j => f j - f (nx n j)) m = f 0 - f m := by
  induction m with
  | zero => show (0 : Int) = f 0 - f 0; omega
  | succ m ih =>
    show sg (fun j => f j - f (nx n j)) m + (f m - f (nx n m)) = f 0 - f (m + 1)
    rw [ih (by omega), nx_1 hm]; omega
theorem tele_n (n : Nat) (f : Nat → Int) : sg (fun j => f j - f (nx n j)) n = 0 := by
  rcases Nat.eq_zero_or_pos n with h | h
  · subst h; rfl
  · obtain ⟨m, rfl⟩ : ∃ m, n = m + 1 := ⟨n - 1, by omega⟩
    show sg (fun j => f j - f (nx (m + 1) j)) m + (f m - f (nx (m + 1) m)) = 0
    rw [tele f m (by omega), nx_0 (by omega)]; omega
theorem sg_nx (n : Nat) (f : Nat → Int) : sg (fun j => f (nx n j)) n = sg f n := by
  have := tele_n n f
  rw [sg_sub] at this
  omega
