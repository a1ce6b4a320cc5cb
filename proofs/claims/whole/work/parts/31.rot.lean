def QP (X Y : Nat → Int) (x y : Int) (j k : Nat) : Int := qq (X j - x) (Y j - y) (X k - x) (Y k - y)
def gP (X Y : Nat → Int) (x y x' y' : Int) (j : Nat) : Int := qq (X j - x) (Y j - y) (X j - x') (Y j - y')
/-- four times the winding number -/
def Hh (n : Nat) (X Y : Nat → Int) (x y : Int) : Int := sg (fun j => QP X Y x y j (nx n j)) n
def RR (n : Nat) (X Y : Nat → Int) (x y x' y' : Int) (j : Nat) : Int := QP X Y x y j (nx n j) - QP X Y x' y' j (nx n j) - (gP X Y x y x' y' j - gP X Y x y x' y' (nx n j))
def tq (n : Nat) (X Y : Nat → Int) (i : Nat) : Int := qq (X i - X (pv n i)) (Y i - Y (pv n i)) (X (nx n i) - X i) (Y (nx n i) - Y i)
/-- proper, in words of common points -/
def PM (n : Nat) (X Y : Nat → Int) : Prop := 3 ≤ n ∧ (∀ i, i < n → ¬ SP X Y i (nx n i)) ∧
  (∀ i j, i < n → j < n → j ≠ i → j ≠ nx n i → j ≠ pv n i → ¬ MT (X i) (Y i) (X (nx n i)) (Y (nx n i)) (X j) (Y j) (X (nx n j)) (Y (nx n j))) ∧
  (∀ i, i < n → ∀ a c : Int, 0 < a → 0 < c → a * (X (nx n i) - X i) = c * (X (pv n i) - X i) → a * (Y (nx n i) - Y i) = c * (Y (pv n i) - Y i) → False)
section
variable {n : Nat} {X Y : Nat → Int}
theorem hr_sum (m : Nat) (x y x' y' : Int) : sg (RR n X Y x y x' y') m = sg (fun j => QP X Y x y j (nx n j)) m - sg (fun j => QP X Y x' y' j (nx n j)) m - sg (fun j => gP X Y x y x' y' j - gP X Y x y x' y' (nx n j)) m := by
  show sg (fun j => QP X Y x y j (nx n j) - QP X Y x' y' j (nx n j) - (gP X Y x y x' y' j - gP X Y x y x' y' (nx n j))) m = _
  rw [sg_sub (fun j => QP X Y x y j (nx n j) - QP X Y x' y' j (nx n j)), sg_sub (fun j => QP X Y x y j (nx n j))]
theorem hr_all (x y x' y' : Int) : Hh n X Y x y - Hh n X Y x' y' = sg (RR n X Y x y x' y') n := by
  rw [hr_sum, tele_n]; unfold Hh; omega
theorem rr_0 {x y x' y' : Int} {j : Nat} (h : ¬ MT x y x' y' (X j) (Y j) (X (nx n j)) (Y (nx n j))) : RR n X Y x y x' y' j = 0 := by
  have := q4 h
  unfold RR QP gP
  omega
theorem qp_l {j k : Nat} : QP X Y (X j) (Y j) j k = 0 := by
  unfold QP; rw [Int.sub_self, Int.sub_self]; exact qq_0l _ _
theorem qp_r {j k : Nat} : QP X Y (X k) (Y k) j k = 0 := by
  unfold QP; rw [Int.sub_self, Int.sub_self]; exact qq_0r _ _
theorem gp_l {x' y' : Int} {j : Nat} : gP X Y (X j) (Y j) x' y' j = 0 := by
  unfold gP; rw [Int.sub_self, Int.sub_self]; exact qq_0l _ _
theorem gp_r {x y : Int} {j : Nat} : gP X Y x y (X j) (Y j) j = 0 := by
  unfold gP; rw [Int.sub_self, Int.sub_self]; exact qq_0r _ _
/-- the corner j = v' at the end of the way from (x, y) -/
theorem rr_n {x y : Int} {j : Nat} : RR n X Y x y (X j) (Y j) j = qq (X j - x) (Y j - y) (X (nx n j) - X j) (Y (nx n j) - Y j) := by
  unfold RR
  rw [qp_l, gp_r]
  unfold QP gP
  have := q3s (X j - x) (Y j - y) (X (nx n j) - X j) (Y (nx n j) - Y j)
  rw [show X j - x + (X (nx n j) - X j) = X (nx n j) - x by omega, show Y j - y + (Y (nx n j) - Y j) = Y (nx n j) - y by omega] at this
  omega
/-- the side before the corner i = v, at the beginning of the way to (x', y') -/
theorem rr_p {x' y' : Int} {i : Nat} (hi : i < n) : RR n X Y (X i) (Y i) x' y' (pv n i) = - qq (X (pv n i) - X i) (Y (pv n i) - Y i) (X i - x') (Y i - y') := by
  unfold RR
  rw [nx_pv hi, qp_r, gp_l]
  unfold QP gP
  have := q3s (X (pv n i) - X i) (Y (pv n i) - Y i) (X i - x') (Y i - y')
  rw [show X (pv n i) - X i + (X i - x') = X (pv n i) - x' by omega, show Y (pv n i) - Y i + (Y i - y') = Y (pv n i) - y' by omega] at this
  omega
theorem rr_s {i : Nat} : RR n X Y (X i) (Y i) (X (nx n i)) (Y (nx n i)) i = 0 := by
  unfold RR
  rw [qp_l, qp_r, gp_l, gp_r]; rfl
theorem nx_pv_ne {i : Nat} (hn : 3 ≤ n) (hi : i < n) : nx n i ≠ pv n i := by
  unfold nx pv; split <;> split <;> omega
theorem rr_sup (pm : PM n X Y) {i : Nat} (hi : i < n) (j : Nat) (hj : j < n) (h1 : j ≠ nx n i) (h2 : j ≠ pv n i) : RR n X Y (X i) (Y i) (X (nx n i)) (Y (nx n i)) j = 0 := by
  by_cases e : j = i
  · subst e; exact rr_s
  · exact rr_0 (pm.2.2.1 i j hi hj e h1 h2)
theorem rr_n' {i : Nat} (hi : i < n) : RR n X Y (X i) (Y i) (X (nx n i)) (Y (nx n i)) (nx n i) = tq n X Y (nx n i) := by
  rw [rr_n]; unfold tq; rw [pv_nx hi]
theorem rr_p' {i : Nat} (hi : i < n) : RR n X Y (X i) (Y i) (X (nx n i)) (Y (nx n i)) (pv n i) = - tq n X Y i := by
  rw [rr_p hi]; unfold tq
  rw [← qq_n]
  congr 2 <;> omega
theorem kc (pm : PM n X Y) {i : Nat} (hi : i < n) : Hh n X Y (X i) (Y i) + tq n X Y i = Hh n X Y (X (nx n i)) (Y (nx n i)) + tq n X Y (nx n i) := by
  have h := hr_all (n := n) (X := X) (Y := Y) (X i) (Y i) (X (nx n i)) (Y (nx n i))
  rw [sg_2 (nx_pv_ne pm.1 hi) n (fun j hj h1 h2 => rr_sup pm hi j hj h1 h2), if_pos (nx_lt hi), if_pos (pv_lt hi), rr_n' hi, rr_p' hi] at h
  omega
def KK (n : Nat) (X Y : Nat → Int) : Int := Hh n X Y (X 0) (Y 0) + tq n X Y 0
theorem kk (pm : PM n X Y) (i : Nat) (hi : i < n) : Hh n X Y (X i) (Y i) + tq n X Y i = KK n X Y := by
  induction i with
  | zero => rfl
  | succ i ih =>
    rw [← ih (by omega), kc pm (show i < n by omega), nx_1 hi]
theorem fk (pm : PM n X Y) {k : Nat} (h1 : 1 ≤ k) (hk : k + 1 < n) :
    (sg (fun j => QP X Y (X k) (Y k) j (nx n j)) n - sg (fun j => QP X Y (X k) (Y k) j (nx n j)) (k + 1)) - (sg (fun j => QP X Y (X (k + 1)) (Y (k + 1)) j (nx n j)) n - sg (fun j => QP X Y (X (k + 1)) (Y (k + 1)) j (nx n j)) (k + 1 + 1)) = tq n X Y (k + 1) - QP X Y (X 0) (Y 0) k (k + 1) := by
  have hk' : k < n := by omega
  have e1 : nx n k = k + 1 := nx_1 hk
  have e2 : pv n k = k - 1 := if_neg (by omega)
  have s1 := sg_2 (f := RR n X Y (X k) (Y k) (X (nx n k)) (Y (nx n k))) (nx_pv_ne pm.1 hk') n (fun j hj z1 z2 => rr_sup pm hk' j hj z1 z2)
  have s2 := sg_2 (f := RR n X Y (X k) (Y k) (X (nx n k)) (Y (nx n k))) (nx_pv_ne pm.1 hk') (k + 1) (fun j hj z1 z2 => rr_sup pm hk' j (by omega) z1 z2)
  rw [if_pos (nx_lt hk'), if_pos (pv_lt hk'), rr_n' hk', rr_p' hk', hr_sum, tele_n] at s1
  rw [if_neg (by omega), if_pos (by omega), rr_p' hk', hr_sum, tele _ (k + 1) hk] at s2
  rw [e1] at s1 s2
  rw [gp_r] at s2
  have s3 : sg (fun j => QP X Y (X (k + 1)) (Y (k + 1)) j (nx n j)) (k + 1 + 1) = sg (fun j => QP X Y (X (k + 1)) (Y (k + 1)) j (nx n j)) (k + 1) + QP X Y (X (k + 1)) (Y (k + 1)) (k + 1) (nx n (k + 1)) := rfl
  rw [qp_l] at s3
  have s4 : gP X Y (X k) (Y k) (X (k + 1)) (Y (k + 1)) 0 = QP X Y (X 0) (Y 0) k (k + 1) := by
    unfold gP QP
    rw [← qq_n]
    congr 1 <;> omega
  omega
theorem fk_sum (pm : PM n X Y) (k : Nat) (hk : k + 1 < n) :
    sg (fun j => QP X Y (X 1) (Y 1) j (nx n j)) n - sg (fun j => QP X Y (X 1) (Y 1) j (nx n j)) 2 = (sg (fun j => QP X Y (X (k + 1)) (Y (k + 1)) j (nx n j)) n - sg (fun j => QP X Y (X (k + 1)) (Y (k + 1)) j (nx n j)) (k + 1 + 1)) + (sg (tq n X Y) (k + 1 + 1) - sg (tq n X Y) 2) - (sg (fun j => QP X Y (X 0) (Y 0) j (nx n j)) (k + 1) - sg (fun j => QP X Y (X 0) (Y 0) j (nx n j)) 1) := by
  induction k with
  | zero =>
    have e1 : (0 : Nat) + 1 = 1 := rfl
    have e2 : (1 : Nat) + 1 = 2 := rfl
    rw [e1, e2]
    omega
  | succ k ih =>
    have h1 := ih (by omega)
    have h2 := fk pm (show 1 ≤ k + 1 by omega) hk
    have h3 : sg (tq n X Y) (k + 1 + 1 + 1) = sg (tq n X Y) (k + 1 + 1) + tq n X Y (k + 1 + 1) := rfl
    have h4 : sg (fun j => QP X Y (X 0) (Y 0) j (nx n j)) (k + 1 + 1) = sg (fun j => QP X Y (X 0) (Y 0) j (nx n j)) (k + 1) + QP X Y (X 0) (Y 0) (k + 1) (nx n (k + 1)) := rfl
    rw [nx_1 hk] at h4
    omega
theorem rot (pm : PM n X Y) : sg (tq n X Y) n = 2 * KK n X Y := by
  have h3 := pm.1
  obtain ⟨m, rfl⟩ : ∃ m, n = m + 2 := ⟨n - 2, by omega⟩
  have h := fk_sum pm m (by omega)
  have k0 := kk pm 0 (by omega)
  have k1 := kk pm 1 (by omega)
  have e1 : sg (fun j => QP X Y (X 1) (Y 1) j (nx (m + 2) j)) 2 = 0 + QP X Y (X 1) (Y 1) 0 (nx (m + 2) 0) + QP X Y (X 1) (Y 1) 1 (nx (m + 2) 1) := rfl
  rw [nx_1 (i := 0) (by omega), qp_l, qp_r] at e1
  have e2 : sg (tq (m + 2) X Y) 2 = 0 + tq (m + 2) X Y 0 + tq (m + 2) X Y 1 := rfl
  have e3 : sg (fun j => QP X Y (X 0) (Y 0) j (nx (m + 2) j)) 1 = 0 + QP X Y (X 0) (Y 0) 0 (nx (m + 2) 0) := rfl
  rw [qp_l] at e3
  have e4 : sg (fun j => QP X Y (X 0) (Y 0) j (nx (m + 2) j)) (m + 2) = sg (fun j => QP X Y (X 0) (Y 0) j (nx (m + 2) j)) (m + 1) + QP X Y (X 0) (Y 0) (m + 1) (nx (m + 2) (m + 1)) := rfl
  rw [nx_0 (by omega), qp_r] at e4
  unfold Hh at k0 k1
  have e5 : m + 1 + 1 = m + 2 := rfl
  rw [e5] at h
  omega
end
