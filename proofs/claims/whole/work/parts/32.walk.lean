/-- the point lies on the line from i to j -/
def on (X Y : Nat → Int) (x y : Int) (i j : Nat) : Prop := ∃ s t : Int, 0 ≤ s ∧ 0 ≤ t ∧ 0 < s + t ∧ s * X i + t * X j = (s + t) * x ∧ s * Y i + t * Y j = (s + t) * y
theorem sg_mp {a : Int} (b : Int) (h : 0 < a) : Int.sign (a * b) = Int.sign b := by
  rw [Int.sign_mul, Int.sign_eq_one_of_pos h, Int.one_mul]
theorem qq_sc {a1 a2 c1 c2 p q : Int} (b1 b2 : Int) (hp : 0 < p) (hq : 0 < q) (e1 : p * a1 = q * c1) (e2 : p * a2 = q * c2) : qq a1 a2 b1 b2 = qq c1 c2 b1 b2 := by
  unfold qq
  have s1 : Int.sign a2 = Int.sign c2 := by rw [← sg_mp a2 hp, e2, sg_mp c2 hq]
  have e3 : p * (a1 * b2 - a2 * b1) = q * (c1 * b2 - c2 * b1) := by grind
  have s2 : Int.sign (a1 * b2 - a2 * b1) = Int.sign (c1 * b2 - c2 * b1) := by rw [← sg_mp _ hp, e3, sg_mp _ hq]
  rw [s1, s2]
theorem al_c {d a b : Int} (hd : 0 < d) (h : d * a = d * b) : a = b := Int.eq_of_mul_eq_mul_left (by omega) h
section
variable {n : Nat} {X Y : Nat → Int}
theorem on_two (pm : PM n X Y) {x y : Int} {i j : Nat} (hi : i < n) (hj : j < n) (h1 : j ≠ i) (h2 : j ≠ nx n i) (h3 : j ≠ pv n i) (a : on X Y x y i (nx n i)) (b : on X Y x y j (nx n j)) : False := by
  obtain ⟨s, t, hs, ht, hst, ex, ey⟩ := a
  obtain ⟨s', t', hs', ht', hst', ex', ey'⟩ := b
  refine pm.2.2.1 i j hi hj h1 h2 h3 ⟨(s' + t') * s, (s' + t') * t, (s + t) * s', (s + t) * t', Int.mul_nonneg (by omega) hs, Int.mul_nonneg (by omega) ht, Int.mul_nonneg (by omega) hs', Int.mul_nonneg (by omega) ht', ?_, ?_, ?_, ?_⟩
  · rw [← Int.mul_add]; exact Int.mul_pos hst' hst
  · rw [← Int.mul_add, ← Int.mul_add, Int.mul_comm]
  · grind
  · grind
theorem on_nx (pm : PM n X Y) {x y : Int} {i : Nat} (hi : i < n) (a : on X Y x y i (nx n i)) (b : on X Y x y (nx n i) (nx n (nx n i))) (ne : ¬ (x = X (nx n i) ∧ y = Y (nx n i))) : False := by
  obtain ⟨s, t, hs, ht, hst, ex, ey⟩ := a
  obtain ⟨s', t', hs', ht', hst', ex', ey'⟩ := b
  have s0 : 0 < s := by
    by_cases c : s = 0
    · subst c
      refine absurd ⟨?_, ?_⟩ ne
      · exact al_c (d := t) (by omega) (by grind)
      · exact al_c (d := t) (by omega) (by grind)
    · omega
  have t0 : 0 < t' := by
    by_cases c : t' = 0
    · subst c
      refine absurd ⟨?_, ?_⟩ ne
      · exact al_c (d := s') (by omega) (by grind)
      · exact al_c (d := s') (by omega) (by grind)
    · omega
  refine pm.2.2.2 (nx n i) (nx_lt hi) ((s + t) * t') ((s' + t') * s) (Int.mul_pos hst t0) (Int.mul_pos hst' s0) ?_ ?_
  · rw [pv_nx hi]; grind
  · rw [pv_nx hi]; grind
/-- on a side, no corner -/
theorem on_K (pm : PM n X Y) {x y : Int} {i : Nat} (hi : i < n) (a : on X Y x y i (nx n i)) (n1 : ¬ (x = X i ∧ y = Y i)) (n2 : ¬ (x = X (nx n i) ∧ y = Y (nx n i))) : Hh n X Y x y = KK n X Y := by
  have li := nx_lt hi
  obtain ⟨s, t, hs, ht, hst, ex, ey⟩ := a
  have s0 : 0 < s := by
    by_cases c : s = 0
    · subst c
      refine absurd ⟨?_, ?_⟩ n2
      · exact al_c (d := t) (by omega) (by grind)
      · exact al_c (d := t) (by omega) (by grind)
    · omega
  have t0 : 0 < t := by
    by_cases c : t = 0
    · subst c
      refine absurd ⟨?_, ?_⟩ n1
      · exact al_c (d := s) (by omega) (by grind)
      · exact al_c (d := s) (by omega) (by grind)
    · omega
  have h := hr_all (n := n) (X := X) (Y := Y) x y (X (nx n i)) (Y (nx n i))
  have sup : ∀ j, j < n → j ≠ nx n i → RR n X Y x y (X (nx n i)) (Y (nx n i)) j = 0 := by
    intro j hj h1
    by_cases e : j = i
    · subst e
      unfold RR
      rw [qp_r, gp_r]
      have e1 : QP X Y x y j (nx n j) = 0 := by
        unfold QP
        refine qq_d ?_
        have z : (s + t) * ((s + t) * ((X j - x) * (Y (nx n j) - y) - (Y j - y) * (X (nx n j) - x))) = (s + t) * ((s + t) * 0) := by grind
        exact al_c hst (al_c hst z)
      have e2 : gP X Y x y (X (nx n j)) (Y (nx n j)) j = 0 := by
        unfold gP
        refine qq_d ?_
        have z : (s + t) * ((X j - x) * (Y j - Y (nx n j)) - (Y j - y) * (X j - X (nx n j))) = (s + t) * 0 := by grind
        exact al_c hst z
      omega
    · refine rr_0 fun ⟨a, b, c, d, ha, hb, hc, hd, hab, e1, e2, e3⟩ => ?_
      by_cases eh : j = pv n i
      · subst eh
        rw [nx_pv hi] at e2 e3
        have al : 0 < a * t + b * (s + t) := by
          by_cases z : a = 0
          · have := Int.mul_pos (show 0 < b by omega) hst
            rw [z]; omega
          · have h1 := Int.mul_pos (show 0 < a by omega) t0
            have h2 := Int.mul_nonneg hb (show 0 ≤ s + t by omega)
            omega
        have f1 : (a * t + b * (s + t)) * (X (nx n i) - X i) = ((s + t) * c) * (X (pv n i) - X i) := by grind
        have f2 : (a * t + b * (s + t)) * (Y (nx n i) - Y i) = ((s + t) * c) * (Y (pv n i) - Y i) := by grind
        by_cases c0 : c = 0
        · rw [c0, Int.mul_zero, Int.zero_mul] at f1 f2
          refine pm.2.1 i hi ⟨?_, ?_⟩
          · rcases Int.mul_eq_zero.mp f1 with z | z
            · omega
            · omega
          · rcases Int.mul_eq_zero.mp f2 with z | z
            · omega
            · omega
        · exact pm.2.2.2 i hi _ _ al (Int.mul_pos hst (by omega)) f1 f2
      · refine pm.2.2.1 i j hi hj e h1 eh ⟨a * s, a * t + b * (s + t), (s + t) * c, (s + t) * d, Int.mul_nonneg ha hs, ?_, Int.mul_nonneg (by omega) hc, Int.mul_nonneg (by omega) hd, ?_, ?_, ?_, ?_⟩
        · have h1 := Int.mul_nonneg ha ht
          have h2 := Int.mul_nonneg hb (show 0 ≤ s + t by omega)
          omega
        · have : a * s + (a * t + b * (s + t)) = (a + b) * (s + t) := by grind
          rw [this]; exact Int.mul_pos hab hst
        · grind
        · grind
        · grind
  rw [sg_1 li (fun j hj z => sup j hj z), rr_n] at h
  have e : qq (X (nx n i) - x) (Y (nx n i) - y) (X (nx n (nx n i)) - X (nx n i)) (Y (nx n (nx n i)) - Y (nx n i)) = tq n X Y (nx n i) := by
    unfold tq
    rw [pv_nx hi]
    exact qq_sc _ _ hst s0 (by grind) (by grind)
  have k := kk pm (nx n i) li
  omega
theorem qq_L {a1 a2 b1 b2 : Int} (ha : a1 < 0) (hb : b1 < 0) : qq a1 a2 b1 b2 = Int.sign a2 - Int.sign b2 := by
  unfold qq
  rcases Int.lt_trichotomy a2 0 with h | h | h <;> rcases Int.lt_trichotomy b2 0 with h' | h' | h'
  · rw [Int.sign_eq_neg_one_of_neg h, Int.sign_eq_neg_one_of_neg h']; simp
  · subst h'
    have : a1 * 0 - a2 * b1 < 0 := by have := Int.mul_pos_of_neg_of_neg h hb; omega
    rw [Int.sign_eq_neg_one_of_neg h, Int.sign_eq_neg_one_of_neg this]; decide
  · have : a1 * b2 - a2 * b1 < 0 := by have := Int.mul_pos_of_neg_of_neg h hb; have := Int.mul_neg_of_neg_of_pos ha h'; omega
    rw [Int.sign_eq_neg_one_of_neg h, Int.sign_eq_neg_one_of_neg this, Int.sign_eq_one_of_pos h']; decide
  · subst h
    have : 0 < a1 * b2 - 0 * b1 := by have := Int.mul_pos_of_neg_of_neg ha h'; omega
    rw [Int.sign_eq_one_of_pos this, Int.sign_eq_neg_one_of_neg h']; decide
  · subst h h'; simp
  · subst h
    have : a1 * b2 - 0 * b1 < 0 := by have := Int.mul_neg_of_neg_of_pos ha h'; omega
    rw [Int.sign_eq_neg_one_of_neg this, Int.sign_eq_one_of_pos h']; decide
  · have : 0 < a1 * b2 - a2 * b1 := by have := Int.mul_pos_of_neg_of_neg ha h'; have := Int.mul_neg_of_pos_of_neg h hb; omega
    rw [Int.sign_eq_one_of_pos h, Int.sign_eq_one_of_pos this, Int.sign_eq_neg_one_of_neg h']; decide
  · subst h'
    have : 0 < a1 * 0 - a2 * b1 := by have := Int.mul_neg_of_pos_of_neg h hb; omega
    rw [Int.sign_eq_one_of_pos h, Int.sign_eq_one_of_pos this]; decide
  · rw [Int.sign_eq_one_of_pos h, Int.sign_eq_one_of_pos h']; simp
theorem H_far {x y : Int} (h : ∀ j, j < n → X j < x) : Hh n X Y x y = 0 := by
  unfold Hh
  have e : sg (fun j => QP X Y x y j (nx n j)) n = sg (fun j => (fun m => Int.sign (Y m - y)) j - (fun m => Int.sign (Y m - y)) (nx n j)) n := by
    refine sgc fun j hj => ?_
    have h1 := h j hj
    have h2 := h (nx n j) (nx_lt hj)
    exact qq_L (by omega) (by omega)
  rw [e, tele_n]
def rowI (n : Nat) (X Y : Nat → Int) (y : Int) : Prop := ∀ j, j < n → Y j ≠ Y (nx n j) → ((Y j ≤ y ∧ y ≤ Y (nx n j)) ∨ (Y (nx n j) ≤ y ∧ y ≤ Y j)) → ∃ x : Int, on X Y x y j (nx n j)
theorem on_hor {x y : Int} {i j : Nat} (h1 : Y i = y) (h2 : Y j = y) (ne : X i ≠ X j) (h : (X i ≤ x ∧ x ≤ X j) ∨ (X j ≤ x ∧ x ≤ X i)) : on X Y x y i j := by
  rcases h with ⟨a, b⟩ | ⟨a, b⟩
  · refine ⟨X j - x, x - X i, by omega, by omega, by omega, by grind, ?_⟩
    rw [h1, h2]; grind
  · refine ⟨x - X j, X i - x, by omega, by omega, by omega, by grind, ?_⟩
    rw [h1, h2]; grind
theorem al_bd {D z b : Int} (hD : 0 < D) (h : D * z = b) (h0 : 0 ≤ b) (h1 : b ≤ D) : z = 0 ∨ z = 1 := by
  have a : 0 ≤ z := al_pn hD (by omega)
  have b' : 0 ≤ 1 - z := al_pn hD (by rw [Int.mul_sub, Int.mul_one]; omega)
  omega
/-- what a step in a row meets, it meets at its ends -/
theorem mt_row (pm : PM n X Y) {x y : Int} (ri : rowI n X Y y) {j : Nat} (hj : j < n) (h : MT x y (x + 1) y (X j) (Y j) (X (nx n j)) (Y (nx n j))) : on X Y x y j (nx n j) ∨ on X Y (x + 1) y j (nx n j) := by
  obtain ⟨a, b, c, d, ha, hb, hc, hd, hab, e1, e2, e3⟩ := h
  have e3' : (c + d) * y = c * Y j + d * Y (nx n j) := by rw [← e3, ← e1]; grind
  have e2' : (c + d) * x + b = c * X j + d * X (nx n j) := by rw [← e2, ← e1]; grind
  by_cases hz : Y j = Y (nx n j)
  · have hy : Y j = y := by
      refine al_c (d := c + d) (by omega) ?_
      rw [e3', ← hz]; grind
    have ne : X j ≠ X (nx n j) := fun z => pm.2.1 j hj ⟨z, hz⟩
    have hy' : Y (nx n j) = y := by omega
    rcases Int.lt_or_le (X j) (X (nx n j)) with g | g
    · have u1 : 0 ≤ d * (X (nx n j) - X j) := Int.mul_nonneg hd (by omega)
      have u2 : 0 ≤ c * (X (nx n j) - X j) := Int.mul_nonneg hc (by omega)
      have v1 : (c + d) * (X (nx n j) - x) = b + c * (X (nx n j) - X j) := by grind
      have v2 : (c + d) * (x + 1 - X j) = (c + d - b) + d * (X (nx n j) - X j) := by grind
      have w1 := al_pn (a := c + d) (b := X (nx n j) - x) (by omega) (by omega)
      have w2 := al_pn (a := c + d) (b := x + 1 - X j) (by omega) (by omega)
      by_cases k : X j ≤ x
      · exact Or.inl (on_hor hy hy' ne (by omega))
      · exact Or.inr (on_hor hy hy' ne (by omega))
    · have u1 : 0 ≤ d * (X j - X (nx n j)) := Int.mul_nonneg hd (by omega)
      have u2 : 0 ≤ c * (X j - X (nx n j)) := Int.mul_nonneg hc (by omega)
      have v1 : (c + d) * (X j - x) = b + d * (X j - X (nx n j)) := by grind
      have v2 : (c + d) * (x + 1 - X (nx n j)) = (c + d - b) + c * (X j - X (nx n j)) := by grind
      have w1 := al_pn (a := c + d) (b := X j - x) (by omega) (by omega)
      have w2 := al_pn (a := c + d) (b := x + 1 - X (nx n j)) (by omega) (by omega)
      by_cases k : X (nx n j) ≤ x
      · exact Or.inl (on_hor hy hy' ne (by omega))
      · exact Or.inr (on_hor hy hy' ne (by omega))
  · have bet : (Y j ≤ y ∧ y ≤ Y (nx n j)) ∨ (Y (nx n j) ≤ y ∧ y ≤ Y j) := by
      have v1 : (c + d) * (y - Y j) = d * (Y (nx n j) - Y j) := by grind
      have v2 : (c + d) * (Y (nx n j) - y) = c * (Y (nx n j) - Y j) := by grind
      rcases Int.lt_or_le (Y j) (Y (nx n j)) with g | g
      · have u1 : 0 ≤ d * (Y (nx n j) - Y j) := Int.mul_nonneg hd (by omega)
        have u2 : 0 ≤ c * (Y (nx n j) - Y j) := Int.mul_nonneg hc (by omega)
        have w1 := al_pn (a := c + d) (b := y - Y j) (by omega) (by omega)
        have w2 := al_pn (a := c + d) (b := Y (nx n j) - y) (by omega) (by omega)
        omega
      · have u1 : 0 ≤ d * (Y j - Y (nx n j)) := Int.mul_nonneg hd (by omega)
        have u2 : 0 ≤ c * (Y j - Y (nx n j)) := Int.mul_nonneg hc (by omega)
        have v1' : (c + d) * (Y j - y) = d * (Y j - Y (nx n j)) := by grind
        have v2' : (c + d) * (y - Y (nx n j)) = c * (Y j - Y (nx n j)) := by grind
        have w1 := al_pn (a := c + d) (b := Y j - y) (by omega) (by omega)
        have w2 := al_pn (a := c + d) (b := y - Y (nx n j)) (by omega) (by omega)
        omega
    obtain ⟨x0, o⟩ := ri j hj hz bet
    obtain ⟨s, t, hs, ht, hst, ex, ey⟩ := id o
    have z1 : ((s + t) * c - (c + d) * s) * (Y j - Y (nx n j)) = 0 := by grind
    have z2 : (s + t) * c - (c + d) * s = 0 := by
      rcases Int.mul_eq_zero.mp z1 with z | z
      · exact z
      · omega
    have z3 : (s + t) * ((c + d) * x0) = (s + t) * (c * X j + d * X (nx n j)) := by grind
    have z4 := al_c hst z3
    have z5 : (c + d) * (x0 - x) = b := by rw [Int.mul_sub]; omega
    rcases al_bd (by omega) z5 hb (by omega) with z | z
    · left; rw [show x = x0 by omega]; exact o
    · right; rw [show x + 1 = x0 by omega]; exact o
theorem rr_p2 {x y : Int} {i : Nat} (hi : i < n) : RR n X Y x y (X i) (Y i) (pv n i) = qq (X (pv n i) - X i) (Y (pv n i) - Y i) (X i - x) (Y i - y) := by
  unfold RR
  rw [nx_pv hi, qp_r, gp_r]
  unfold QP gP
  have := q3s (X (pv n i) - X i) (Y (pv n i) - Y i) (X i - x) (Y i - y)
  rw [show X (pv n i) - X i + (X i - x) = X (pv n i) - x by omega, show Y (pv n i) - Y i + (Y i - y) = Y (pv n i) - y by omega] at this
  have h2 := qq_as (X (pv n i) - X i) (Y (pv n i) - Y i) (X (pv n i) - x) (Y (pv n i) - y)
  omega
theorem on_s {i j : Nat} : on X Y (X i) (Y i) i j := ⟨1, 0, by omega, by omega, by omega, by omega, by omega⟩
theorem on_e {i j : Nat} : on X Y (X j) (Y j) i j := ⟨0, 1, by omega, by omega, by omega, by omega, by omega⟩
/-- the three numbers at a corner that the row comes to from the left -/
theorem cor3 {p1 p2 r1 r2 : Int} (hp : p2 = 0 → 0 < p1) (hr : r2 = 0 → 0 < r1) (nf : ∀ a c : Int, 0 < a → 0 < c → a * p1 = c * r1 → a * p2 = c * r2 → False) :
    qq 1 0 p1 p2 + qq r1 r2 1 0 - qq (-r1) (-r2) p1 p2 = 2 ∨ qq 1 0 p1 p2 + qq r1 r2 1 0 - qq (-r1) (-r2) p1 p2 = -2 := by
  unfold qq
  rw [show (1 : Int) * p2 - 0 * p1 = p2 by omega, show r1 * 0 - r2 * 1 = -r2 by omega, Int.sign_neg, Int.sign_zero]
  rcases Int.lt_trichotomy p2 0 with h | h | h <;> rcases Int.lt_trichotomy r2 0 with h' | h' | h'
  · rw [Int.sign_eq_neg_one_of_neg h, Int.sign_eq_neg_one_of_neg h']
    rcases Int.lt_trichotomy (-r1 * p2 - -r2 * p1) 0 with d | d | d
    · rw [Int.sign_eq_neg_one_of_neg d]; decide
    · exact (nf (-r2) (-p2) (by omega) (by omega) (by grind) (by grind)).elim
    · rw [Int.sign_eq_one_of_pos d]; decide
  · subst h'
    have d : 0 < -r1 * p2 - -0 * p1 := by
      have := Int.mul_neg_of_pos_of_neg (hr rfl) h
      rw [Int.neg_mul]; omega
    rw [Int.sign_eq_one_of_pos d, Int.sign_eq_neg_one_of_neg h]; decide
  · rw [Int.sign_eq_neg_one_of_neg h, Int.sign_eq_one_of_pos h']
    right
    simp
  · subst h
    have d : -r1 * 0 - -r2 * p1 < 0 := by
      have := Int.mul_neg_of_neg_of_pos h' (hp rfl)
      rw [Int.neg_mul r2]; omega
    rw [Int.sign_eq_neg_one_of_neg d, Int.sign_eq_neg_one_of_neg h']; decide
  · subst h h'
    exact (nf r1 p1 (hr rfl) (hp rfl) (by grind) (by grind)).elim
  · subst h
    have d : 0 < -r1 * 0 - -r2 * p1 := by
      have := Int.mul_pos h' (hp rfl)
      rw [Int.neg_mul r2]; omega
    rw [Int.sign_eq_one_of_pos d, Int.sign_eq_one_of_pos h']; decide
  · rw [Int.sign_eq_one_of_pos h, Int.sign_eq_neg_one_of_neg h']
    left
    simp
  · subst h'
    have d : -r1 * p2 - -0 * p1 < 0 := by
      have := Int.mul_pos (hr rfl) h
      rw [Int.neg_mul]; omega
    rw [Int.sign_eq_neg_one_of_neg d, Int.sign_eq_one_of_pos h]; decide
  · rw [Int.sign_eq_one_of_pos h, Int.sign_eq_one_of_pos h']
    rcases Int.lt_trichotomy (-r1 * p2 - -r2 * p1) 0 with d | d | d
    · rw [Int.sign_eq_neg_one_of_neg d]; decide
    · exact (nf r2 p2 (by omega) (by omega) (by grind) (by grind)).elim
    · rw [Int.sign_eq_one_of_pos d]; decide
theorem on_left {x y : Int} {i j : Nat} (h1 : X i = x + 1) (h2 : Y i = y) (h3 : Y j = y) (h4 : X j ≤ x) : on X Y x y i j := on_hor h2 h3 (by omega) (by omega)
theorem st_cor (pm : PM n X Y) {x y : Int} (ri : rowI n X Y y) (off : ∀ j, j < n → ¬ on X Y x y j (nx n j)) {m : Nat} (hm : m < n) (ex : X m = x + 1) (ey : Y m = y) : Hh n X Y x y = KK n X Y + 2 ∨ Hh n X Y x y = KK n X Y - 2 := by
  have lm := nx_lt hm
  have lh := pv_lt hm
  have h := hr_all (n := n) (X := X) (Y := Y) x y (X m) (Y m)
  have sup : ∀ j, j < n → j ≠ m → j ≠ pv n m → RR n X Y x y (X m) (Y m) j = 0 := by
    intro j hj h1 h2
    refine rr_0 fun z => ?_
    rw [ex, ey] at z
    rcases mt_row pm ri hj z with o | o
    · exact off j hj o
    · rw [← ex, ← ey] at o
      by_cases e : j = nx n m
      · subst e
        exact on_nx pm hm on_s o fun z => pm.2.1 m hm ⟨z.1, z.2⟩
      · exact on_two pm hm hj h1 e h2 on_s o
  rw [sg_2 (a := m) (b := pv n m) (fun e => pv_ne hm (by have := pm.1; omega) e.symm) n (fun j hj z1 z2 => sup j hj z1 z2), if_pos hm, if_pos lh, rr_n, rr_p2 hm, ex, ey, show x + 1 - x = 1 by omega, Int.sub_self] at h
  have k := kk pm m hm
  rw [ex, ey] at k
  have t : tq n X Y m = qq (-(X (pv n m) - (x + 1))) (-(Y (pv n m) - y)) (X (nx n m) - (x + 1)) (Y (nx n m) - y) := by
    unfold tq
    rw [ex, ey]
    congr 1 <;> omega
  have c := cor3 (p1 := X (nx n m) - (x + 1)) (p2 := Y (nx n m) - y) (r1 := X (pv n m) - (x + 1)) (r2 := Y (pv n m) - y) (fun z => by
      by_cases q : X (nx n m) ≤ x
      · exact absurd (on_left ex ey (by omega) q) (off m hm)
      · have := pm.2.1 m hm
        by_cases q2 : X (nx n m) = x + 1
        · exact absurd ⟨by omega, by omega⟩ this
        · omega) (fun z => by
      by_cases q : X (pv n m) ≤ x
      · have o : on X Y x y (pv n m) (nx n (pv n m)) := by
          rw [nx_pv hm]; exact on_hor (by omega) ey (by omega) (by omega)
        exact absurd o (off _ lh)
      · have := pm.2.1 (pv n m) lh
        rw [nx_pv hm] at this
        by_cases q2 : X (pv n m) = x + 1
        · exact absurd ⟨by omega, by omega⟩ this
        · omega) (fun a c ha hc z1 z2 => pm.2.2.2 m hm a c ha hc (by rw [ex]; exact z1) (by rw [ey]; exact z2))
  rw [t] at k
  omega
theorem st_mid (pm : PM n X Y) {x y : Int} (ri : rowI n X Y y) (off : ∀ j, j < n → ¬ on X Y x y j (nx n j)) {i : Nat} (hi : i < n) (o : on X Y (x + 1) y i (nx n i)) (n1 : ¬ (x + 1 = X i ∧ y = Y i)) (n2 : ¬ (x + 1 = X (nx n i) ∧ y = Y (nx n i))) : Hh n X Y x y = KK n X Y + 2 ∨ Hh n X Y x y = KK n X Y - 2 := by
  have li := nx_lt hi
  have lh := pv_lt hi
  have k := on_K pm hi o n1 n2
  have h := hr_all (n := n) (X := X) (Y := Y) x y (x + 1) y
  have sup : ∀ j, j < n → j ≠ i → RR n X Y x y (x + 1) y j = 0 := by
    intro j hj h1
    refine rr_0 fun z => ?_
    rcases mt_row pm ri hj z with o' | o'
    · exact off j hj o'
    · by_cases e : j = nx n i
      · subst e
        exact on_nx pm hi o o' n2
      · by_cases e2 : j = pv n i
        · subst e2
          refine on_nx pm lh o' ?_ ?_
          · rw [nx_pv hi]; exact o
          · rw [nx_pv hi]; exact n1
        · exact on_two pm hi hj h1 e e2 o o'
  rw [sg_1 hi (fun j hj z => sup j hj z), k] at h
  obtain ⟨s, t, hs, ht, hst, ex, ey⟩ := id o
  have s0 : 0 < s := by
    by_cases c : s = 0
    · subst c
      refine absurd ⟨?_, ?_⟩ n2
      · exact al_c (d := t) (by omega) (by grind)
      · exact al_c (d := t) (by omega) (by grind)
    · omega
  have t0 : 0 < t := by
    by_cases c : t = 0
    · subst c
      refine absurd ⟨?_, ?_⟩ n1
      · exact al_c (d := s) (by omega) (by grind)
      · exact al_c (d := s) (by omega) (by grind)
    · omega
  have ey' : s * (Y i - y) = - (t * (Y (nx n i) - y)) := by grind
  have ex' : s * (X i - (x + 1)) = - (t * (X (nx n i) - (x + 1))) := by grind
  have det : (X i - (x + 1)) * (Y (nx n i) - y) - (Y i - y) * (X (nx n i) - (x + 1)) = 0 := by
    refine al_c s0 ?_
    grind
  have e1 : QP X Y (x + 1) y i (nx n i) = 0 := qq_d det
  have det2 : (X i - x) * (Y (nx n i) - y) - (Y i - y) * (X (nx n i) - x) = Y (nx n i) - Y i := by grind
  have hR : RR n X Y x y (x + 1) y i = 2 ∨ RR n X Y x y (x + 1) y i = -2 := by
    unfold RR
    rw [e1]
    unfold QP gP qq
    rw [det2, Int.sub_self, Int.sub_self]
    rcases Int.lt_trichotomy (Y i) y with g | g | g
    · have : 0 < t * (Y (nx n i) - y) := by
        have := Int.mul_pos s0 (show 0 < y - Y i by omega)
        have e : s * (y - Y i) = -(s * (Y i - y)) := by grind
        omega
      have g' : 0 < Y (nx n i) - y := al_pq (b := t) (by rw [Int.mul_comm]; exact this) (by omega)
      rw [Int.sign_eq_neg_one_of_neg (show Y i - y < 0 by omega), Int.sign_eq_one_of_pos g', Int.sign_eq_one_of_pos (show 0 < Y (nx n i) - Y i by omega)]
      left
      simp
    · exfalso
      have z : t * (Y (nx n i) - y) = 0 := by rw [g, Int.sub_self, Int.mul_zero] at ey'; omega
      have g' : Y (nx n i) = y := by
        rcases Int.mul_eq_zero.mp z with w | w
        · omega
        · omega
      have ne : X i ≠ X (nx n i) := fun w => pm.2.1 i hi ⟨w, by omega⟩
      refine off i hi (on_hor g g' ne ?_)
      have w1 : X i ≠ x + 1 := fun w => n1 ⟨w.symm, g.symm⟩
      have w2 : X (nx n i) ≠ x + 1 := fun w => n2 ⟨w.symm, g'.symm⟩
      rcases Int.lt_or_le (X i) (x + 1) with q | q
      · have : 0 < t * (X (nx n i) - (x + 1)) := by
          have := Int.mul_pos s0 (show 0 < x + 1 - X i by omega)
          have e : s * (x + 1 - X i) = -(s * (X i - (x + 1))) := by grind
          omega
        have := al_pq (a := X (nx n i) - (x + 1)) (b := t) (by rw [Int.mul_comm]; exact this) (by omega)
        omega
      · have : 0 < t * (x + 1 - X (nx n i)) := by
          have := Int.mul_pos s0 (show 0 < X i - (x + 1) by omega)
          have e : t * (x + 1 - X (nx n i)) = -(t * (X (nx n i) - (x + 1))) := by grind
          omega
        have := al_pq (a := x + 1 - X (nx n i)) (b := t) (by rw [Int.mul_comm]; exact this) (by omega)
        omega
    · have : 0 < t * (y - Y (nx n i)) := by
        have := Int.mul_pos s0 (show 0 < Y i - y by omega)
        have e : t * (y - Y (nx n i)) = -(t * (Y (nx n i) - y)) := by grind
        omega
      have g' : 0 < y - Y (nx n i) := al_pq (b := t) (by rw [Int.mul_comm]; exact this) (by omega)
      rw [Int.sign_eq_one_of_pos (show 0 < Y i - y by omega), Int.sign_eq_neg_one_of_neg (show Y (nx n i) - y < 0 by omega), Int.sign_eq_neg_one_of_neg (show Y (nx n i) - Y i < 0 by omega)]
      right
      simp
  omega
theorem walk (pm : PM n X Y) {y M : Int} (ri : rowI n X Y y) (hM : ∀ j, j < n → X j < M) (k : Nat) : ∀ x : Int, x = M - k → (∀ j, j < n → ¬ on X Y x y j (nx n j)) → Hh n X Y x y = 0 ∨ Hh n X Y x y = KK n X Y + 2 ∨ Hh n X Y x y = KK n X Y - 2 := by
  induction k with
  | zero =>
    intro x e off
    exact Or.inl (H_far fun j hj => by have := hM j hj; omega)
  | succ k ih =>
    intro x e off
    by_cases c : ∃ i, i < n ∧ on X Y (x + 1) y i (nx n i)
    · obtain ⟨i, hi, o⟩ := c
      by_cases n1 : x + 1 = X i ∧ y = Y i
      · exact Or.inr (st_cor pm ri off hi n1.1.symm n1.2.symm)
      · by_cases n2 : x + 1 = X (nx n i) ∧ y = Y (nx n i)
        · exact Or.inr (st_cor pm ri off (nx_lt hi) n2.1.symm n2.2.symm)
        · exact Or.inr (st_mid pm ri off hi o n1 n2)
    · have h := hr_all (n := n) (X := X) (Y := Y) x y (x + 1) y
      rw [sg_0' fun j hj => rr_0 fun z => by
        rcases mt_row pm ri hj z with o | o
        · exact off j hj o
        · exact c ⟨j, hj, o⟩] at h
      have := ih (x + 1) (by omega) fun j hj o => c ⟨j, hj, o⟩
      omega
end
