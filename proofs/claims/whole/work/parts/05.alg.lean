theorem al_sq (a : Int) : 0 ≤ a * a := by
  by_cases h : 0 ≤ a
  · exact Int.mul_nonneg h h
  · have := Int.mul_nonneg (a := -a) (b := -a) (by omega) (by omega)
    rwa [Int.neg_mul_neg] at this
theorem al_pn {a b : Int} (ha : 0 < a) (h : 0 ≤ a * b) : 0 ≤ b := by
  by_cases c : 0 ≤ b
  · exact c
  · have := Int.mul_pos ha (show 0 < -b by omega)
    rw [Int.mul_neg] at this
    omega
theorem al_pp {a b : Int} (ha : 0 < a) (h : a * b ≤ 0) : b ≤ 0 := by
  by_cases c : b ≤ 0
  · exact c
  · have := Int.mul_pos ha (show 0 < b by omega)
    omega
theorem al_bt1 {a b c d : Int} (e : a * d = b * c) (h : a * c + b * d ≤ 0) : a * c ≤ 0 := by
  by_cases z : a * c ≤ 0
  · exact z
  · have h1 : (a * c) * (b * d) = (a * d) * (a * d) := by grind
    have h2 := al_sq (a * d)
    rw [← h1] at h2
    have := al_pn (by omega) h2
    omega
theorem al_bt (a b c d : Int) : (a * d = b * c ∧ a * c + b * d ≤ 0) ↔ (a * c ≤ 0 ∧ b * d ≤ 0 ∧ a * d = b * c) := by
  constructor
  · rintro ⟨e, h⟩
    exact ⟨al_bt1 e h, al_bt1 (a := b) (b := a) (c := d) (d := c) e.symm (by omega), e⟩
  · rintro ⟨h1, h2, e⟩
    exact ⟨e, by omega⟩
theorem al_box (x a b : Int) : ((a ≤ x ∧ x ≤ b) ∨ (b ≤ x ∧ x ≤ a)) ↔ (a - x) * (b - x) ≤ 0 := by
  constructor
  · rintro (⟨h1, h2⟩ | ⟨h1, h2⟩)
    · have := Int.mul_nonneg (show 0 ≤ x - a by omega) (show 0 ≤ b - x by omega)
      have e : (x - a) * (b - x) = - ((a - x) * (b - x)) := by grind
      omega
    · have := Int.mul_nonneg (show 0 ≤ a - x by omega) (show 0 ≤ x - b by omega)
      have e : (a - x) * (x - b) = - ((a - x) * (b - x)) := by grind
      omega
  · intro h
    by_cases c : a ≤ x
    · by_cases d : x ≤ b
      · exact Or.inl ⟨c, d⟩
      · by_cases e : a = x
        · subst e; exact Or.inr ⟨by omega, by omega⟩
        · have := Int.mul_pos (show 0 < x - a by omega) (show 0 < x - b by omega)
          have e : (x - a) * (x - b) = (a - x) * (b - x) := by grind
          omega
    · have := al_pp (show 0 < a - x by omega) h
      exact Or.inr ⟨by omega, by omega⟩
section
variable {n : Nat} {X Y : Nat → Int}
theorem tn_c (a b c : Nat) : tn X Y a b c = (X a - X c) * (Y b - Y c) - (Y a - Y c) * (X b - X c) := by unfold tn; grind
theorem bt_y (a b c : Nat) : BT X Y a b c ↔ ((X c - X a) * (X c - X b) ≤ 0 ∧ (Y c - Y a) * (Y c - Y b) ≤ 0 ∧ tn X Y a b c = 0) := by
  unfold BT
  rw [tn_c, show (X c - X a) * (X c - X b) = (X a - X c) * (X b - X c) by grind, show (Y c - Y a) * (Y c - Y b) = (Y a - Y c) * (Y b - Y c) by grind, al_bt, Int.sub_eq_zero]
theorem al_A {a1 a2 b1 b2 c1 c2 : Int} (h : a1 * b2 = a2 * b1) (t3 t4 : Int) (e3 : t3 = c2 * a1 - c1 * a2) (e4 : t4 = c2 * b1 - c1 * b2) (h3 : t3 ≤ 0) (h4 : 0 ≤ t4) (ne : t4 - t3 ≠ 0) : a1 * b1 + a2 * b2 ≤ 0 := by
  have k1 : (t4 - t3) * (a1 * b1 + a2 * b2) = t3 * (b1 * b1 + b2 * b2) - t4 * (a1 * a1 + a2 * a2) := by subst e3 e4; grind
  have q1 := al_sq b1
  have q2 := al_sq b2
  have q3 := al_sq a1
  have q4 := al_sq a2
  have k2 : 0 ≤ (-t3) * (b1 * b1 + b2 * b2) := Int.mul_nonneg (by omega) (by omega)
  have k3 : 0 ≤ t4 * (a1 * a1 + a2 * a2) := Int.mul_nonneg (by omega) (by omega)
  rw [Int.neg_mul] at k2
  exact al_pp (a := t4 - t3) (by omega) (by rw [k1]; omega)
theorem bt_A {a b c d : Nat} (h2 : tn X Y a b d = 0) (h1 : tn X Y a b c ≠ 0) (h : (tn X Y c d a ≤ 0 ∧ 0 ≤ tn X Y c d b) ∨ (0 ≤ tn X Y c d a ∧ tn X Y c d b ≤ 0)) : BT X Y a b d := by
  rw [tn_c] at h2
  refine ⟨by omega, ?_⟩
  have h2' : (X a - X d) * (Y b - Y d) = (Y a - Y d) * (X b - X d) := by omega
  have e1 : tn X Y a b c = tn X Y c d b - tn X Y c d a := by unfold tn; grind
  rcases h with ⟨h3, h4⟩ | ⟨h3, h4⟩
  · refine al_A (c1 := X c - X d) (c2 := Y c - Y d) h2' (tn X Y c d a) (tn X Y c d b) ?_ ?_ h3 h4 (by omega)
    · unfold tn; grind
    · unfold tn; grind
  · refine al_A (c1 := -(X c - X d)) (c2 := -(Y c - Y d)) h2' (-tn X Y c d a) (-tn X Y c d b) ?_ ?_ (by omega) (by omega) (by omega)
    · unfold tn; grind
    · unfold tn; grind
theorem tn_sw (a b c : Nat) : tn X Y b a c = - tn X Y a b c := by unfold tn; grind
theorem tn_cy (a b c : Nat) : tn X Y b c a = tn X Y a b c := by unfold tn; grind
theorem bt_sw {a b c : Nat} : BT X Y b a c ↔ BT X Y a b c := by
  rw [bt_y, bt_y, tn_sw, Int.mul_comm, Int.mul_comm (Y c - Y b)]
  constructor
  · rintro ⟨h1, h2, h3⟩; exact ⟨h1, h2, by omega⟩
  · rintro ⟨h1, h2, h3⟩; exact ⟨h1, h2, by omega⟩
theorem al_opp {a b : Int} : a * b < 0 ↔ (0 < a ∧ b < 0) ∨ (a < 0 ∧ 0 < b) := by
  constructor
  · intro h
    rcases Int.lt_trichotomy a 0 with h1 | h1 | h1
    · refine Or.inr ⟨h1, ?_⟩
      by_cases c : 0 < b
      · exact c
      · have := Int.mul_nonneg (show 0 ≤ -a by omega) (show 0 ≤ -b by omega)
        rw [Int.neg_mul_neg] at this
        omega
    · subst h1; omega
    · refine Or.inl ⟨h1, ?_⟩
      by_cases c : b < 0
      · exact c
      · have := Int.mul_nonneg (show 0 ≤ a by omega) (show 0 ≤ b by omega)
        omega
  · rintro (⟨h1, h2⟩ | ⟨h1, h2⟩)
    · exact Int.mul_neg_of_pos_of_neg h1 h2
    · exact Int.mul_neg_of_neg_of_pos h1 h2
theorem lm_y (a b c d : Nat) : LM X Y a b c d ↔ (BT X Y a b c ∨ BT X Y a b d ∨ BT X Y c d a ∨ BT X Y c d b ∨ (tn X Y a b c * tn X Y a b d < 0 ∧ tn X Y c d a * tn X Y c d b < 0)) := by
  unfold LM
  by_cases n1 : BT X Y a b c
  · simp [n1]
  by_cases n2 : BT X Y a b d
  · simp [n2]
  by_cases n3 : BT X Y c d a
  · simp [n3]
  by_cases n4 : BT X Y c d b
  · simp [n4]
  simp only [n1, n2, n3, n4, false_or]
  rw [al_opp, al_opp]
  have e1 : tn X Y a b c - tn X Y a b d = tn X Y c d b - tn X Y c d a := by unfold tn; grind
  have s1 : tn X Y d c a = - tn X Y c d a := tn_sw c d a
  have s2 : tn X Y d c b = - tn X Y c d b := tn_sw c d b
  have s3 : tn X Y b a c = - tn X Y a b c := tn_sw a b c
  have s4 : tn X Y b a d = - tn X Y a b d := tn_sw a b d
  have m2 : tn X Y a b d = 0 → tn X Y a b c ≠ 0 → ¬ ((tn X Y c d a ≤ 0 ∧ 0 ≤ tn X Y c d b) ∨ (0 ≤ tn X Y c d a ∧ tn X Y c d b ≤ 0)) := fun x y z => n2 (bt_A x y z)
  have m1 : tn X Y a b c = 0 → tn X Y a b d ≠ 0 → ¬ ((tn X Y d c a ≤ 0 ∧ 0 ≤ tn X Y d c b) ∨ (0 ≤ tn X Y d c a ∧ tn X Y d c b ≤ 0)) := fun x y z => n1 (bt_A x y z)
  have m4 : tn X Y c d b = 0 → tn X Y c d a ≠ 0 → ¬ ((tn X Y a b c ≤ 0 ∧ 0 ≤ tn X Y a b d) ∨ (0 ≤ tn X Y a b c ∧ tn X Y a b d ≤ 0)) := fun x y z => n4 (bt_A x y z)
  have m3 : tn X Y c d a = 0 → tn X Y c d b ≠ 0 → ¬ ((tn X Y b a c ≤ 0 ∧ 0 ≤ tn X Y b a d) ∨ (0 ≤ tn X Y b a c ∧ tn X Y b a d ≤ 0)) := fun x y z => n3 (bt_A x y z)
  rw [s1, s2] at m1
  rw [s3, s4] at m3
  generalize tn X Y a b c = t1 at *
  generalize tn X Y a b d = t2 at *
  generalize tn X Y c d a = t3 at *
  generalize tn X Y c d b = t4 at *
  omega
theorem lm_sw (a b c d : Nat) : LM X Y c d a b ↔ LM X Y a b c d := by
  unfold LM
  constructor
  · rintro (h | h | h | h | h)
    · exact Or.inr (Or.inr (Or.inl h))
    · exact Or.inr (Or.inr (Or.inr (Or.inl h)))
    · exact Or.inl h
    · exact Or.inr (Or.inl h)
    · exact Or.inr (Or.inr (Or.inr (Or.inr ⟨h.2, h.1⟩)))
  · rintro (h | h | h | h | h)
    · exact Or.inr (Or.inr (Or.inl h))
    · exact Or.inr (Or.inr (Or.inr (Or.inl h)))
    · exact Or.inl h
    · exact Or.inr (Or.inl h)
    · exact Or.inr (Or.inr (Or.inr (Or.inr ⟨h.2, h.1⟩)))
/-- folded at m: the reference's words -/
theorem al_fold {a b c d : Int} (hu : a * a + b * b ≠ 0) (hv : c * c + d * d ≠ 0) (e : a * d = b * c) : 0 < a * c + b * d ↔ (c * c + d * d ≤ a * c + b * d ∨ a * a + b * b ≤ a * c + b * d) := by
  have q1 := al_sq a
  have q2 := al_sq b
  have q3 := al_sq c
  have q4 := al_sq d
  have k : (a * a + b * b) * (c * c + d * d) = (a * c + b * d) * (a * c + b * d) := by grind
  constructor
  · intro h
    by_cases c1 : c * c + d * d ≤ a * c + b * d
    · exact Or.inl c1
    by_cases c2 : a * a + b * b ≤ a * c + b * d
    · exact Or.inr c2
    exfalso
    have k1 := Int.mul_pos (show 0 < a * a + b * b - (a * c + b * d) by omega) (show 0 < c * c + d * d by omega)
    have k2 := Int.mul_pos h (show 0 < c * c + d * d - (a * c + b * d) by omega)
    rw [Int.sub_mul] at k1
    rw [Int.mul_sub] at k2
    omega
  · omega
def pv (n i : Nat) : Nat := if i = 0 then n - 1 else i - 1
def FO (n : Nat) (X Y : Nat → Int) (i : Nat) : Prop := tn X Y (pv n i) i (nx n i) = 0 ∧ 0 < (X (nx n i) - X i) * (X (pv n i) - X i) + (Y (nx n i) - Y i) * (Y (pv n i) - Y i)
theorem al_n0 {a b : Int} (h : ¬ (a = 0 ∧ b = 0)) : a * a + b * b ≠ 0 := by
  intro z
  have q1 := al_sq a
  have q2 := al_sq b
  have z1 : a * a = 0 := by omega
  have z2 : b * b = 0 := by omega
  exact h ⟨(Int.mul_eq_zero.mp z1).elim id id, (Int.mul_eq_zero.mp z2).elim id id⟩
theorem fo_bt {h m k : Nat} (h1 : ¬ SP X Y h m) (h2 : ¬ SP X Y m k) : (tn X Y h m k = 0 ∧ 0 < (X k - X m) * (X h - X m) + (Y k - Y m) * (Y h - Y m)) ↔ (BT X Y h m k ∨ BT X Y m k h) := by
  have n1 : (X h - X m) * (X h - X m) + (Y h - Y m) * (Y h - Y m) ≠ 0 := al_n0 fun z => h1 ⟨by omega, by omega⟩
  have n2 : (X k - X m) * (X k - X m) + (Y k - Y m) * (Y k - Y m) ≠ 0 := al_n0 fun z => h2 ⟨by omega, by omega⟩
  by_cases e : tn X Y h m k = 0
  · have e' : (X h - X m) * (Y k - Y m) = (Y h - Y m) * (X k - X m) := by unfold tn at e; grind
    have f := al_fold n1 n2 e'
    have b1 : BT X Y h m k ↔ (X k - X m) * (X k - X m) + (Y k - Y m) * (Y k - Y m) ≤ (X h - X m) * (X k - X m) + (Y h - Y m) * (Y k - Y m) := by
      unfold BT
      have : (X h - X k) * (X m - X k) + (Y h - Y k) * (Y m - Y k) = (X k - X m) * (X k - X m) + (Y k - Y m) * (Y k - Y m) - ((X h - X m) * (X k - X m) + (Y h - Y m) * (Y k - Y m)) := by grind
      have e2 : (X h - X k) * (Y m - Y k) = (Y h - Y k) * (X m - X k) := by grind
      simp only [e2, true_and]
      omega
    have b2 : BT X Y m k h ↔ (X h - X m) * (X h - X m) + (Y h - Y m) * (Y h - Y m) ≤ (X h - X m) * (X k - X m) + (Y h - Y m) * (Y k - Y m) := by
      unfold BT
      have : (X m - X h) * (X k - X h) + (Y m - Y h) * (Y k - Y h) = (X h - X m) * (X h - X m) + (Y h - Y m) * (Y h - Y m) - ((X h - X m) * (X k - X m) + (Y h - Y m) * (Y k - Y m)) := by grind
      have e2 : (X m - X h) * (Y k - Y h) = (Y m - Y h) * (X k - X h) := by grind
      simp only [e2, true_and]
      omega
    rw [b1, b2, ← f]
    have : (X k - X m) * (X h - X m) + (Y k - Y m) * (Y h - Y m) = (X h - X m) * (X k - X m) + (Y h - Y m) * (Y k - Y m) := by grind
    rw [this]
    simp [e]
  · constructor
    · exact fun z => absurd z.1 e
    · rintro (z | z)
      · exact absurd ((bt_y _ _ _).mp z).2.2 e
      · exact absurd (by rw [← tn_cy h m k]; exact ((bt_y _ _ _).mp z).2.2) e
end
