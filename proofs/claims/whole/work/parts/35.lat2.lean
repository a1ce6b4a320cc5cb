def lrow (a1 a2 b1 b2 : Int) (y : Nat) : Int := sg (fun x => qq (a1 - (x : Int)) (a2 - (y : Int)) (b1 - (x : Int)) (b2 - (y : Int))) 16
def lt2 (a1 a2 b1 b2 : Int) : Int := sg (lrow a1 a2 b1 b2) 16
theorem qq_s {a1 a2 b1 b2 : Int} (h : Int.sign a2 = Int.sign b2) : qq a1 a2 b1 b2 = 0 := by
  unfold qq; rw [h, Int.sub_self]; simp
theorem lat_row {a b d j : Nat} (ha : a < 16) (hb : b < 16) (hd : 0 < d) (hd2 : d < 16) (hj : j ≤ d) (y y' : Int) (e1 : y = -(j : Int)) (e2 : y' = (d : Int) - (j : Int)) :
    sg (fun x => qq ((a : Int) - (x : Int)) y ((b : Int) - (x : Int)) y') 16 = wN j d * ((((a * (d - j) + b * j + d - 1) / d + (a * (d - j) + b * j) / d : Nat) : Int) - 15) := by
  have hN : a * (d - j) + b * j < 15 * d + 1 := by
    have h1 : a * (d - j) ≤ 15 * (d - j) := Nat.mul_le_mul_right _ (by omega)
    have h2 : b * j ≤ 15 * j := Nat.mul_le_mul_right _ (by omega)
    omega
  have hw : ((Int.sign y' - Int.sign y).natAbs : Int) = wN j d := by
    unfold wN
    by_cases z0 : j = 0
    · subst z0
      rw [e1, e2, if_pos (Or.inl rfl), Int.sign_eq_one_of_pos (show (0 : Int) < (d : Int) - ((0 : Nat) : Int) by omega)]
      rfl
    · by_cases z1 : j = d
      · subst z1
        rw [e1, e2, if_pos (Or.inr rfl), Int.sub_self, Int.sign_eq_neg_one_of_neg (show -(j : Int) < 0 by omega)]
        rfl
      · rw [e1, e2, if_neg (by omega), Int.sign_eq_neg_one_of_neg (show -(j : Int) < 0 by omega), Int.sign_eq_one_of_pos (show 0 < (d : Int) - (j : Int) by omega)]
        rfl
  rw [← row_cl d hd2 hd (a * (d - j) + b * j) hN, ← sg_mul]
  refine sgc fun x hx => ?_
  unfold qq
  rw [hw]
  congr 2
  have ec : ((a * (d - j) + b * j : Nat) : Int) = (a : Int) * ((d : Int) - (j : Int)) + (b : Int) * (j : Int) := by
    rw [Int.natCast_add, Int.natCast_mul, Int.natCast_mul, Int.natCast_sub hj]
  rw [ec, e1, e2]
  grind
theorem lat_up {a b c d : Nat} (ha : a < 16) (hb : b < 16) (hd : 0 < d) (hc : c + d < 16) : lt2 (a : Int) (c : Int) (b : Int) ((c : Int) + (d : Int)) = 2 * (d : Int) * ((a : Int) + (b : Int) - 15) := by
  have e16 : 16 = c + ((d + 1) + (15 - (c + d))) := by omega
  have h1 : sg (lrow (a : Int) (c : Int) (b : Int) ((c : Int) + (d : Int))) c = 0 := by
    refine sg_0' fun y hy => sg_0' fun x hx => qq_s ?_
    rw [Int.sign_eq_one_of_pos (show 0 < (c : Int) - (y : Int) by omega), Int.sign_eq_one_of_pos (show 0 < (c : Int) + (d : Int) - (y : Int) by omega)]
  have h3 : sg (fun j : Nat => lrow (a : Int) (c : Int) (b : Int) ((c : Int) + (d : Int)) (c + (d + 1 + j))) (15 - (c + d)) = 0 := by
    refine sg_0' fun y hy => sg_0' fun x hx => qq_s ?_
    rw [Int.sign_eq_neg_one_of_neg (show (c : Int) - ((c + (d + 1 + y) : Nat) : Int) < 0 by omega), Int.sign_eq_neg_one_of_neg (show (c : Int) + (d : Int) - ((c + (d + 1 + y) : Nat) : Int) < 0 by omega)]
  have h2 : sg (fun j : Nat => lrow (a : Int) (c : Int) (b : Int) ((c : Int) + (d : Int)) (c + j)) (d + 1) = 2 * (d : Int) * ((a : Int) + (b : Int) - 15) := by
    rw [← col_cl d (by omega) hd a ha b hb]
    refine sgc fun j hj => ?_
    exact lat_row ha hb hd (by omega) (by omega) _ _ (by omega) (by omega)
  have s1 := sg_split (lrow (a : Int) (c : Int) (b : Int) ((c : Int) + (d : Int))) c ((d + 1) + (15 - (c + d)))
  have s2 := sg_split (fun j : Nat => lrow (a : Int) (c : Int) (b : Int) ((c : Int) + (d : Int)) (c + j)) (d + 1) (15 - (c + d))
  rw [← e16] at s1
  show sg (lrow (a : Int) (c : Int) (b : Int) ((c : Int) + (d : Int))) 16 = _
  rw [s1, s2, h1, h2]
  have : sg (fun j : Nat => (fun j : Nat => lrow (a : Int) (c : Int) (b : Int) ((c : Int) + (d : Int)) (c + j)) (d + 1 + j)) (15 - (c + d)) = 0 := h3
  rw [this]; omega
theorem lt2_as (a1 a2 b1 b2 : Int) : lt2 b1 b2 a1 a2 = - lt2 a1 a2 b1 b2 := by
  unfold lt2
  have e : sg (lrow b1 b2 a1 a2) 16 = (-1) * sg (lrow a1 a2 b1 b2) 16 := by
    rw [← sg_mul]
    refine sgc fun y _ => ?_
    unfold lrow
    rw [← sg_mul]
    refine sgc fun x _ => ?_
    rw [qq_as]; omega
  rw [e]; omega
theorem lat {a1 a2 b1 b2 : Int} (h1 : 0 ≤ a1 ∧ a1 ≤ 15) (h2 : 0 ≤ a2 ∧ a2 ≤ 15) (h3 : 0 ≤ b1 ∧ b1 ≤ 15) (h4 : 0 ≤ b2 ∧ b2 ≤ 15) : lt2 a1 a2 b1 b2 = 2 * (b2 - a2) * (a1 + b1 - 15) := by
  obtain ⟨a, rfl⟩ := Int.eq_ofNat_of_zero_le h1.1
  obtain ⟨b, rfl⟩ := Int.eq_ofNat_of_zero_le h3.1
  obtain ⟨c, rfl⟩ := Int.eq_ofNat_of_zero_le h2.1
  obtain ⟨e, rfl⟩ := Int.eq_ofNat_of_zero_le h4.1
  rcases Nat.lt_trichotomy c e with z | z | z
  · obtain ⟨d, rfl⟩ : ∃ d, e = c + d := ⟨e - c, by omega⟩
    have := lat_up (a := a) (b := b) (c := c) (d := d) (by omega) (by omega) (by omega) (by omega)
    rw [Int.natCast_add, this, show (c : Int) + (d : Int) - (c : Int) = (d : Int) by omega]
  · subst z
    rw [Int.sub_self, Int.mul_zero, Int.zero_mul]
    exact sg_0' fun y _ => sg_0' fun x _ => qq_s rfl
  · obtain ⟨d, rfl⟩ : ∃ d, c = e + d := ⟨c - e, by omega⟩
    have := lat_up (a := b) (b := a) (c := e) (d := d) (by omega) (by omega) (by omega) (by omega)
    rw [lt2_as, Int.natCast_add, this]
    grind
/-- the sum over the points of the grid -/
theorem lat_pt {a1 a2 b1 b2 : Int} (h1 : 0 ≤ a1 ∧ a1 ≤ 15) (h2 : 0 ≤ a2 ∧ a2 ≤ 15) (h3 : 0 ≤ b1 ∧ b1 ≤ 15) (h4 : 0 ≤ b2 ∧ b2 ≤ 15) :
    sg (fun i => qq (a1 - ((i % 16 : Nat) : Int)) (a2 - ((i / 16 : Nat) : Int)) (b1 - ((i % 16 : Nat) : Int)) (b2 - ((i / 16 : Nat) : Int))) 256 = 2 * (b2 - a2) * (a1 + b1 - 15) := by
  rw [← lat h1 h2 h3 h4]
  have := sg_rows (fun i => qq (a1 - ((i % 16 : Nat) : Int)) (a2 - ((i / 16 : Nat) : Int)) (b1 - ((i % 16 : Nat) : Int)) (b2 - ((i / 16 : Nat) : Int))) 16
  rw [show 16 * 16 = 256 from rfl] at this
  rw [this]
  refine sgc fun y _ => sgc fun x hx => ?_
  show qq (a1 - (((16 * y + x) % 16 : Nat) : Int)) (a2 - (((16 * y + x) / 16 : Nat) : Int)) (b1 - (((16 * y + x) % 16 : Nat) : Int)) (b2 - (((16 * y + x) / 16 : Nat) : Int)) = _
  rw [show (16 * y + x) % 16 = x by omega, show (16 * y + x) / 16 = y by omega]
theorem sA_sg {n : Nat} {X Y : Nat → Int} (k : Nat) : sA n X Y k = sg (fun j => X j * Y (nx n j) - X (nx n j) * Y j) k := by
  induction k with
  | zero => rfl
  | succ k ih =>
    show sA n X Y k + (X k * Y (nx n k) - X (nx n k) * Y k) = sg (fun j => X j * Y (nx n j) - X (nx n j) * Y j) k + (X k * Y (nx n k) - X (nx n k) * Y k)
    rw [ih]
theorem lat_H {n : Nat} {X Y : Nat → Int} (g : gr X Y) : sg (fun i => Hh n X Y ((i % 16 : Nat) : Int) ((i / 16 : Nat) : Int)) 256 = 2 * sA n X Y n := by
  unfold Hh
  rw [sg_swap]
  have e : sg (fun j => sg (fun i => QP X Y ((i % 16 : Nat) : Int) ((i / 16 : Nat) : Int) j (nx n j)) 256) n = sg (fun j => 2 * (X j * Y (nx n j) - X (nx n j) * Y j) - ((fun m => 2 * (X m * Y m) - 30 * Y m) j - (fun m => 2 * (X m * Y m) - 30 * Y m) (nx n j))) n := by
    refine sgc fun j hj => ?_
    have := lat_pt (g j).1 (g j).2 (g (nx n j)).1 (g (nx n j)).2
    unfold QP
    rw [this]
    grind
  rw [e, sg_sub, tele_n, sg_mul, sA_sg]; omega
