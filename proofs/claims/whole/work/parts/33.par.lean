theorem qq_U {a1 a2 b1 b2 : Int} (ha : 0 < a2 ∨ (a2 = 0 ∧ 0 < a1)) (hb : 0 < b2 ∨ (b2 = 0 ∧ 0 < b1)) : qq a1 a2 b1 b2 = Int.sign b2 - Int.sign a2 := by
  unfold qq
  rcases ha with h | ⟨h, h1⟩ <;> rcases hb with h' | ⟨h', h1'⟩
  · rw [Int.sign_eq_one_of_pos h, Int.sign_eq_one_of_pos h']; simp
  · subst h'
    have : a1 * 0 - a2 * b1 < 0 := by have := Int.mul_pos h h1'; omega
    rw [Int.sign_eq_one_of_pos h, Int.sign_eq_neg_one_of_neg this]; decide
  · subst h
    have : 0 < a1 * b2 - 0 * b1 := by have := Int.mul_pos h1 h'; omega
    rw [Int.sign_eq_one_of_pos h', Int.sign_eq_one_of_pos this]; decide
  · subst h h'; simp
theorem low3 {p1 p2 r1 r2 : Int} (hp : 0 < p2 ∨ (p2 = 0 ∧ 0 < p1)) (hr : 0 < r2 ∨ (r2 = 0 ∧ 0 < r1)) (nf : ∀ a c : Int, 0 < a → 0 < c → a * p1 = c * r1 → a * p2 = c * r2 → False) :
    (0 < -r1 * p2 - -r2 * p1 ∧ Int.sign r2 - Int.sign p2 + qq (-r1) (-r2) p1 p2 = 2) ∨ (-r1 * p2 - -r2 * p1 < 0 ∧ Int.sign r2 - Int.sign p2 + qq (-r1) (-r2) p1 p2 = -2) := by
  unfold qq
  rw [Int.sign_neg]
  rcases hp with h | ⟨h, h1⟩ <;> rcases hr with h' | ⟨h', h1'⟩
  · rw [Int.sign_eq_one_of_pos h, Int.sign_eq_one_of_pos h']
    rcases Int.lt_trichotomy (-r1 * p2 - -r2 * p1) 0 with d | d | d
    · right; rw [Int.sign_eq_neg_one_of_neg d]; exact ⟨d, by decide⟩
    · exact (nf r2 p2 h' h (by grind) (by grind)).elim
    · left; rw [Int.sign_eq_one_of_pos d]; exact ⟨d, by decide⟩
  · subst h'
    have d : -r1 * p2 - -0 * p1 < 0 := by
      have := Int.mul_pos h1' h
      rw [Int.neg_mul]; omega
    right
    rw [Int.sign_eq_neg_one_of_neg d, Int.sign_eq_one_of_pos h]; exact ⟨d, by decide⟩
  · subst h
    have d : 0 < -r1 * 0 - -r2 * p1 := by
      have := Int.mul_pos h' h1
      rw [Int.neg_mul r2]; omega
    left
    rw [Int.sign_eq_one_of_pos d, Int.sign_eq_one_of_pos h']; exact ⟨d, by decide⟩
  · subst h h'
    exact (nf r1 p1 h1' h1 (by grind) (by grind)).elim
section
variable {n : Nat} {X Y : Nat → Int}
theorem k_low (pm : PM n X Y) {m : Nat} (hm : m < n) (hl : ∀ j, j < n → lx X Y m j) (hd : ∀ j, j < n → j ≠ m → ¬ SP X Y m j) :
    (0 < tn X Y (pv n m) m (nx n m) ∧ KK n X Y = 2) ∨ (tn X Y (pv n m) m (nx n m) < 0 ∧ KK n X Y = -2) := by
  have lm := nx_lt hm
  have lh := pv_lt hm
  have h3 := pm.1
  have half : ∀ j, j < n → j ≠ m → (0 < Y j - Y m ∨ (Y j - Y m = 0 ∧ 0 < X j - X m)) := by
    intro j hj ne
    have h1 := hl j hj
    have h2 := hd j hj ne
    unfold lx at h1
    unfold SP at h2
    omega
  have hH : Hh n X Y (X m) (Y m) = Int.sign (Y (pv n m) - Y m) - Int.sign (Y (nx n m) - Y m) := by
    have t := tele_n n (fun j => Int.sign (Y j - Y m))
    have e : sg (fun j => QP X Y (X m) (Y m) j (nx n j) + (Int.sign (Y j - Y m) - Int.sign (Y (nx n j) - Y m))) n = Int.sign (Y (pv n m) - Y m) - Int.sign (Y (nx n m) - Y m) := by
      rw [sg_2 (a := m) (b := pv n m) (fun e => pv_ne hm (by omega) e.symm) n (fun j hj h1 h2 => ?_), if_pos hm, if_pos lh]
      · show QP X Y (X m) (Y m) m (nx n m) + (Int.sign (Y m - Y m) - Int.sign (Y (nx n m) - Y m)) + (QP X Y (X m) (Y m) (pv n m) (nx n (pv n m)) + (Int.sign (Y (pv n m) - Y m) - Int.sign (Y (nx n (pv n m)) - Y m))) = _
        rw [nx_pv hm, qp_l, qp_r, Int.sub_self, Int.sign_zero]; omega
      · have h4 : nx n j ≠ m := fun z => h2 (by rw [← z, pv_nx hj])
        have := qq_U (half j hj h1) (half (nx n j) (nx_lt hj) h4)
        show QP X Y (X m) (Y m) j (nx n j) + (Int.sign (Y j - Y m) - Int.sign (Y (nx n j) - Y m)) = 0
        unfold QP
        omega
    rw [sg_add] at e
    unfold Hh
    omega
  have k := kk pm m hm
  have c := low3 (half (nx n m) lm (nx_ne hm (by omega))) (half (pv n m) lh (pv_ne hm (by omega))) (fun a c ha hc z1 z2 => pm.2.2.2 m hm a c ha hc z1 z2)
  have t : tq n X Y m = qq (-(X (pv n m) - X m)) (-(Y (pv n m) - Y m)) (X (nx n m) - X m) (Y (nx n m) - Y m) := by
    unfold tq
    congr 1 <;> omega
  have d : tn X Y (pv n m) m (nx n m) = -(X (pv n m) - X m) * (Y (nx n m) - Y m) - -(Y (pv n m) - Y m) * (X (nx n m) - X m) := by unfold tn; grind
  rw [hH, t] at k
  rw [d]
  omega
end
/-- where on the way round a vector points -/
def th (a1 a2 : Int) : Int := if 0 < a2 then 1 else if a2 < 0 then 3 else if a1 < 0 then 2 else 4
/-- the crossing of the ray to the right, with its sign -/
def cI (a1 a2 b1 b2 : Int) : Int := if (0 < a2 ↔ 0 < b2) then 0 else if (0 < a1 * b2 - a2 * b1 ↔ 0 < b2) then (if 0 < b2 then 1 else -1) else 0
theorem th4 {a1 a2 b1 b2 : Int} (h : ¬ (a1 * b2 - a2 * b1 = 0 ∧ a1 * b1 + a2 * b2 ≤ 0)) : qq a1 a2 b1 b2 = th b1 b2 - th a1 a2 + 4 * cI a1 a2 b1 b2 := by
  unfold qq
  rcases Int.lt_trichotomy a2 0 with ha | ha | ha <;> rcases Int.lt_trichotomy b2 0 with hb | hb | hb
  · have t1 : th a1 a2 = 3 := by unfold th; rw [if_neg (by omega), if_pos ha]
    have t2 : th b1 b2 = 3 := by unfold th; rw [if_neg (by omega), if_pos hb]
    have c : cI a1 a2 b1 b2 = 0 := by unfold cI; rw [if_pos (by omega)]
    rw [t1, t2, c, Int.sign_eq_neg_one_of_neg ha, Int.sign_eq_neg_one_of_neg hb]; simp
  · subst hb
    have t1 : th a1 a2 = 3 := by unfold th; rw [if_neg (by omega), if_pos ha]
    have c : cI a1 a2 b1 0 = 0 := by unfold cI; rw [if_pos (by omega)]
    rcases Int.lt_trichotomy b1 0 with q | q | q
    · have t2 : th b1 0 = 2 := by unfold th; rw [if_neg (by omega), if_neg (by omega), if_pos q]
      have d : a1 * 0 - a2 * b1 < 0 := by have := Int.mul_pos_of_neg_of_neg ha q; omega
      rw [t1, t2, c, Int.sign_eq_neg_one_of_neg ha, Int.sign_eq_neg_one_of_neg d]; decide
    · subst q; exact absurd ⟨by omega, by omega⟩ h
    · have t2 : th b1 0 = 4 := by unfold th; rw [if_neg (by omega), if_neg (by omega), if_neg (by omega)]
      have d : 0 < a1 * 0 - a2 * b1 := by have := Int.mul_neg_of_neg_of_pos ha q; omega
      rw [t1, t2, c, Int.sign_eq_neg_one_of_neg ha, Int.sign_eq_one_of_pos d]; decide
  · have t1 : th a1 a2 = 3 := by unfold th; rw [if_neg (by omega), if_pos ha]
    have t2 : th b1 b2 = 1 := by unfold th; rw [if_pos hb]
    rcases Int.lt_trichotomy (a1 * b2 - a2 * b1) 0 with d | d | d
    · have c : cI a1 a2 b1 b2 = 0 := by unfold cI; rw [if_neg (by omega), if_neg (by omega)]
      rw [t1, t2, c, Int.sign_eq_neg_one_of_neg ha, Int.sign_eq_neg_one_of_neg d, Int.sign_eq_one_of_pos hb]; decide
    · exfalso
      refine h ⟨d, ?_⟩
      have e : (-a2) * (a1 * b1 + a2 * b2) = -(b2 * (a1 * a1 + a2 * a2)) := by grind
      have q1 := al_sq a1
      have q2 := al_sq a2
      have := Int.mul_nonneg (show 0 ≤ b2 by omega) (show 0 ≤ a1 * a1 + a2 * a2 by omega)
      exact al_pp (a := -a2) (by omega) (by rw [e]; omega)
    · have c : cI a1 a2 b1 b2 = 1 := by unfold cI; rw [if_neg (by omega), if_pos (by omega), if_pos hb]
      rw [t1, t2, c, Int.sign_eq_neg_one_of_neg ha, Int.sign_eq_one_of_pos d, Int.sign_eq_one_of_pos hb]; decide
  · subst ha
    have t2 : th b1 b2 = 3 := by unfold th; rw [if_neg (by omega), if_pos hb]
    have c : cI a1 0 b1 b2 = 0 := by unfold cI; rw [if_pos (by omega)]
    rcases Int.lt_trichotomy a1 0 with q | q | q
    · have t1 : th a1 0 = 2 := by unfold th; rw [if_neg (by omega), if_neg (by omega), if_pos q]
      have d : 0 < a1 * b2 - 0 * b1 := by have := Int.mul_pos_of_neg_of_neg q hb; omega
      rw [t1, t2, c, Int.sign_eq_neg_one_of_neg hb, Int.sign_eq_one_of_pos d]; decide
    · subst q; exact absurd ⟨by omega, by omega⟩ h
    · have t1 : th a1 0 = 4 := by unfold th; rw [if_neg (by omega), if_neg (by omega), if_neg (by omega)]
      have d : a1 * b2 - 0 * b1 < 0 := by have := Int.mul_neg_of_pos_of_neg q hb; omega
      rw [t1, t2, c, Int.sign_eq_neg_one_of_neg hb, Int.sign_eq_neg_one_of_neg d]; decide
  · subst ha hb
    have c : cI a1 0 b1 0 = 0 := by unfold cI; rw [if_pos (by omega)]
    have t : th b1 0 = th a1 0 := by
      have : ¬ a1 * b1 ≤ 0 := fun z => h ⟨by omega, by omega⟩
      show (if b1 < 0 then (2 : Int) else 4) = (if a1 < 0 then 2 else 4)
      rcases Int.lt_trichotomy a1 0 with q | q | q
      · have : b1 < 0 := by
          by_cases w : b1 < 0
          · exact w
          · have := Int.mul_nonneg (show 0 ≤ -a1 by omega) (show 0 ≤ b1 by omega)
            rw [Int.neg_mul] at this; omega
        rw [if_pos q, if_pos this]
      · subst q; omega
      · have : ¬ b1 < 0 := fun w => by have := Int.mul_neg_of_pos_of_neg q w; omega
        rw [if_neg (show ¬ a1 < 0 by omega), if_neg this]
    rw [t, c]; simp
  · subst ha
    have t2 : th b1 b2 = 1 := by unfold th; rw [if_pos hb]
    rcases Int.lt_trichotomy a1 0 with q | q | q
    · have t1 : th a1 0 = 2 := by unfold th; rw [if_neg (by omega), if_neg (by omega), if_pos q]
      have d : a1 * b2 - 0 * b1 < 0 := by have := Int.mul_neg_of_neg_of_pos q hb; omega
      have c : cI a1 0 b1 b2 = 0 := by unfold cI; rw [if_neg (by omega), if_neg (by omega)]
      rw [t1, t2, c, Int.sign_eq_one_of_pos hb, Int.sign_eq_neg_one_of_neg d]; decide
    · subst q; exact absurd ⟨by omega, by omega⟩ h
    · have t1 : th a1 0 = 4 := by unfold th; rw [if_neg (by omega), if_neg (by omega), if_neg (by omega)]
      have d : 0 < a1 * b2 - 0 * b1 := by have := Int.mul_pos q hb; omega
      have c : cI a1 0 b1 b2 = 1 := by unfold cI; rw [if_neg (by omega), if_pos (by omega), if_pos hb]
      rw [t1, t2, c, Int.sign_eq_one_of_pos hb, Int.sign_eq_one_of_pos d]; decide
  · have t1 : th a1 a2 = 1 := by unfold th; rw [if_pos ha]
    have t2 : th b1 b2 = 3 := by unfold th; rw [if_neg (by omega), if_pos hb]
    rcases Int.lt_trichotomy (a1 * b2 - a2 * b1) 0 with d | d | d
    · have c : cI a1 a2 b1 b2 = -1 := by unfold cI; rw [if_neg (by omega), if_pos (by omega), if_neg (by omega)]
      rw [t1, t2, c, Int.sign_eq_one_of_pos ha, Int.sign_eq_neg_one_of_neg d, Int.sign_eq_neg_one_of_neg hb]; decide
    · exfalso
      refine h ⟨d, ?_⟩
      have e : a2 * (a1 * b1 + a2 * b2) = -((-b2) * (a1 * a1 + a2 * a2)) := by grind
      have q1 := al_sq a1
      have q2 := al_sq a2
      have := Int.mul_nonneg (show 0 ≤ -b2 by omega) (show 0 ≤ a1 * a1 + a2 * a2 by omega)
      exact al_pp (a := a2) (by omega) (by rw [e]; omega)
    · have c : cI a1 a2 b1 b2 = 0 := by unfold cI; rw [if_neg (by omega), if_neg (by omega)]
      rw [t1, t2, c, Int.sign_eq_one_of_pos ha, Int.sign_eq_one_of_pos d, Int.sign_eq_neg_one_of_neg hb]; decide
  · subst hb
    have t1 : th a1 a2 = 1 := by unfold th; rw [if_pos ha]
    rcases Int.lt_trichotomy b1 0 with q | q | q
    · have t2 : th b1 0 = 2 := by unfold th; rw [if_neg (by omega), if_neg (by omega), if_pos q]
      have d : 0 < a1 * 0 - a2 * b1 := by have := Int.mul_neg_of_pos_of_neg ha q; omega
      have c : cI a1 a2 b1 0 = 0 := by unfold cI; rw [if_neg (by omega), if_neg (by omega)]
      rw [t1, t2, c, Int.sign_eq_one_of_pos ha, Int.sign_eq_one_of_pos d]; decide
    · subst q; exact absurd ⟨by omega, by omega⟩ h
    · have t2 : th b1 0 = 4 := by unfold th; rw [if_neg (by omega), if_neg (by omega), if_neg (by omega)]
      have d : a1 * 0 - a2 * b1 < 0 := by have := Int.mul_pos ha q; omega
      have c : cI a1 a2 b1 0 = -1 := by unfold cI; rw [if_neg (by omega), if_pos (by omega), if_neg (by omega)]
      rw [t1, t2, c, Int.sign_eq_one_of_pos ha, Int.sign_eq_neg_one_of_neg d]; decide
  · have t1 : th a1 a2 = 1 := by unfold th; rw [if_pos ha]
    have t2 : th b1 b2 = 1 := by unfold th; rw [if_pos hb]
    have c : cI a1 a2 b1 b2 = 0 := by unfold cI; rw [if_pos (by omega)]
    rw [t1, t2, c, Int.sign_eq_one_of_pos ha, Int.sign_eq_one_of_pos hb]; simp
section
variable {n : Nat} {X Y : Nat → Int}
theorem oe_2 {x y : Int} {i j : Nat} : oE X Y (2 * x) (2 * y) i j ↔ ((X i - x) * (Y j - y) - (Y i - y) * (X j - x) = 0 ∧ (X i - x) * (X j - x) + (Y i - y) * (Y j - y) ≤ 0) := by
  unfold oE
  rw [show (2 * X i - 2 * x) * (2 * Y j - 2 * y) - (2 * Y i - 2 * y) * (2 * X j - 2 * x) = 4 * ((X i - x) * (Y j - y) - (Y i - y) * (X j - x)) by grind, show (2 * X i - 2 * x) * (2 * X j - 2 * x) + (2 * Y i - 2 * y) * (2 * Y j - 2 * y) = 4 * ((X i - x) * (X j - x) + (Y i - y) * (Y j - y)) by grind]
  omega
theorem cr_2 {x y : Int} {i j : Nat} : cR X Y (2 * x) (2 * y) i j ↔ (¬ (0 < Y i - y ↔ 0 < Y j - y) ∧ (0 < (X i - x) * (Y j - y) - (Y i - y) * (X j - x) ↔ 0 < Y j - y)) := by
  unfold cR
  rw [show (2 * X i - 2 * x) * (2 * Y j - 2 * y) - (2 * Y i - 2 * y) * (2 * X j - 2 * x) = 4 * ((X i - x) * (Y j - y) - (Y i - y) * (X j - x)) by grind]
  omega
theorem ci_ind {x y : Int} {i j : Nat} : (cI (X i - x) (Y i - y) (X j - x) (Y j - y) - (ind (cR X Y (2 * x) (2 * y) i j) : Int)) % 2 = 0 := by
  by_cases c : cR X Y (2 * x) (2 * y) i j
  · rw [ind_t c]
    rw [cr_2] at c
    unfold cI
    rw [if_neg c.1, if_pos c.2]
    split <;> decide
  · rw [ind_f c]
    rw [cr_2] at c
    have : cI (X i - x) (Y i - y) (X j - x) (Y j - y) = 0 := by
      unfold cI
      by_cases q : 0 < Y i - y ↔ 0 < Y j - y
      · rw [if_pos q]
      · rw [if_neg q, if_neg (fun w => c ⟨q, w⟩)]
    rw [this]; decide
theorem pc_par {x y : Int} (m : Nat) : (sg (fun j => cI (X j - x) (Y j - y) (X (nx n j) - x) (Y (nx n j) - y)) m - (pc n X Y (2 * x) (2 * y) m : Int)) % 2 = 0 := by
  induction m with
  | zero => rfl
  | succ m ih =>
    have := ci_ind (X := X) (Y := Y) (x := x) (y := y) (i := m) (j := nx n m)
    show (sg (fun j => cI (X j - x) (Y j - y) (X (nx n j) - x) (Y (nx n j) - y)) m + cI (X m - x) (Y m - y) (X (nx n m) - x) (Y (nx n m) - y) - ((pc n X Y (2 * x) (2 * y) m + ind (cR X Y (2 * x) (2 * y) m (nx n m)) : Nat) : Int)) % 2 = 0
    omega
/-- off the polygon: four times the signed crossings, their number odd inside -/
theorem H_par {x y : Int} (off : ∀ j, j < n → ¬ oE X Y (2 * x) (2 * y) j (nx n j)) : ∃ C : Int, Hh n X Y x y = 4 * C ∧ (C - (pc n X Y (2 * x) (2 * y) n : Int)) % 2 = 0 := by
  refine ⟨_, ?_, pc_par n⟩
  unfold Hh
  have e : sg (fun j => QP X Y x y j (nx n j)) n = sg (fun j => 4 * cI (X j - x) (Y j - y) (X (nx n j) - x) (Y (nx n j) - y) - ((fun m => th (X m - x) (Y m - y)) j - (fun m => th (X m - x) (Y m - y)) (nx n j))) n := by
    refine sgc fun j hj => ?_
    have := th4 (a1 := X j - x) (a2 := Y j - y) (b1 := X (nx n j) - x) (b2 := Y (nx n j) - y) (fun z => off j hj (oe_2.mpr z))
    show QP X Y x y j (nx n j) = 4 * cI (X j - x) (Y j - y) (X (nx n j) - x) (Y (nx n j) - y) - (th (X j - x) (Y j - y) - th (X (nx n j) - x) (Y (nx n j) - y))
    unfold QP
    omega
  rw [e, sg_sub, tele_n, sg_mul]; omega
end
