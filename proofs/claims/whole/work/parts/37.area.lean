theorem cn_sg (f : Nat → Prop) (m : Nat) : sg (fun i => (ind (f i) : Int)) m = (cn f m : Int) := by
  induction m with
  | zero => rfl
  | succ m ih =>
    show sg (fun i => (ind (f i) : Int)) m + (ind (f m) : Int) = ((cn f m + ind (f m) : Nat) : Int)
    rw [ih]; omega
section
variable {n : Nat} {X Y : Nat → Int}
theorem ex_low (hn : 0 < n) : ∃ m, m < n ∧ ∀ j, j < n → lx X Y m j := by
  have : ∀ k, 0 < k → k ≤ n → ∃ m, m < k ∧ ∀ j, j < k → lx X Y m j := by
    intro k
    induction k with
    | zero => intro h; omega
    | succ k ih =>
      intro _ hk
      rcases Nat.eq_zero_or_pos k with z | z
      · subst z
        refine ⟨0, by omega, fun j hj => ?_⟩
        have : j = 0 := by omega
        subst this
        exact Or.inr ⟨rfl, Int.le_refl _⟩
      · obtain ⟨m, hm, all⟩ := ih z (by omega)
        by_cases c : lx X Y m k
        · refine ⟨m, by omega, fun j hj => ?_⟩
          by_cases e : j = k
          · subst e; exact c
          · exact all j (by omega)
        · refine ⟨k, by omega, fun j hj => ?_⟩
          by_cases e : j = k
          · subst e; exact Or.inr ⟨rfl, Int.le_refl _⟩
          · have := all j (by omega)
            unfold lx at this c ⊢
            omega
  exact this n hn (Nat.le_refl n)
theorem pl_1 {x y : Int} (h : plv n X Y x y = 1) : (∀ j, j < n → ¬ oE X Y x y j (nx n j)) ∧ pc n X Y x y n % 2 = 1 := by
  unfold plv at h
  by_cases c : ∃ i, i < n ∧ oE X Y x y i (nx n i)
  · rw [sel_t c] at h; omega
  · rw [sel_f c] at h
    refine ⟨fun j hj z => c ⟨j, hj, z⟩, ?_⟩
    by_cases d : pc n X Y x y n % 2 = 1
    · exact d
    · rw [sel_f d] at h; omega
theorem pl_m {x y : Int} (h : plv n X Y x y = -1) : (∀ j, j < n → ¬ oE X Y x y j (nx n j)) ∧ pc n X Y x y n % 2 = 0 := by
  unfold plv at h
  by_cases c : ∃ i, i < n ∧ oE X Y x y i (nx n i)
  · rw [sel_t c] at h; omega
  · rw [sel_f c] at h
    refine ⟨fun j hj z => c ⟨j, hj, z⟩, ?_⟩
    by_cases d : pc n X Y x y n % 2 = 1
    · rw [sel_t d] at h; omega
    · omega
theorem pl_0 {x y : Int} (h : plv n X Y x y = 0) : ∃ i, i < n ∧ oE X Y x y i (nx n i) := by
  unfold plv at h
  by_cases c : ∃ i, i < n ∧ oE X Y x y i (nx n i)
  · exact c
  · rw [sel_f c] at h
    by_cases d : pc n X Y x y n % 2 = 1
    · rw [sel_t d] at h; omega
    · rw [sel_f d] at h; omega
theorem pl_v {i : Nat} (hi : i < n) : plv n X Y (2 * X i) (2 * Y i) = 0 := by
  refine plv_0 hi (oe_2.mpr ?_)
  rw [Int.sub_self, Int.sub_self]
  exact ⟨by omega, by omega⟩
/-- the difference at a point of the grid -/
theorem pt_D (g : gr X Y) (pm : PM n X Y) (dis : ∀ a b, a < n → b < n → a ≠ b → ¬ SP X Y a b) (hK : KK n X Y = 2 ∨ KK n X Y = -2) {x y : Int} (hx : x ≤ 15) :
    Hh n X Y x y - 2 * KK n X Y * (ind (plv n X Y (2 * x) (2 * y) = 1) : Int) - KK n X Y * (ind (plv n X Y (2 * x) (2 * y) = 0) : Int) = sg (fun i => sel (X i = x ∧ Y i = y) (- tq n X Y i) 0) n := by
  have zero : (∀ i, i < n → ¬ (X i = x ∧ Y i = y)) → sg (fun i => sel (X i = x ∧ Y i = y) (- tq n X Y i) 0) n = 0 := fun h => sg_0' fun i hi => sel_f (h i hi)
  have novert : ¬ plv n X Y (2 * x) (2 * y) = 0 → ∀ i, i < n → ¬ (X i = x ∧ Y i = y) := by
    intro h i hi ⟨e1, e2⟩
    subst e1 e2
    exact h (pl_v hi)
  have offH : (∀ j, j < n → ¬ oE X Y (2 * x) (2 * y) j (nx n j)) → Hh n X Y x y = 0 ∨ Hh n X Y x y = KK n X Y + 2 ∨ Hh n X Y x y = KK n X Y - 2 := fun h => H_off g pm hx fun j hj o => h j hj (oe_2.mpr (on_oe o))
  rcases plv_r (n := n) (X := X) (Y := Y) (x := 2 * x) (y := 2 * y) with h | h | h
  · rw [ind_f (by rw [h]; decide), ind_t h]
    obtain ⟨i, hi, o⟩ := pl_0 h
    rw [oe_2] at o
    have o' := oe_on (pm.2.1 i hi) o.1 o.2
    by_cases c : ∃ m, m < n ∧ X m = x ∧ Y m = y
    · obtain ⟨m, hm, e1, e2⟩ := c
      rw [sg_1 hm (fun j hj ne => sel_f fun z => dis j m hj hm ne ⟨z.1.trans e1.symm, z.2.trans e2.symm⟩), sel_t ⟨e1, e2⟩]
      have k := kk pm m hm
      rw [e1, e2] at k
      omega
    · rw [zero fun j hj z => c ⟨j, hj, z.1, z.2⟩]
      have k := on_K pm hi o' (fun z => c ⟨i, hi, z.1.symm, z.2.symm⟩) (fun z => c ⟨_, nx_lt hi, z.1.symm, z.2.symm⟩)
      omega
  · rw [ind_t h, ind_f (by rw [h]; decide), zero (novert (by rw [h]; decide))]
    obtain ⟨off, odd⟩ := pl_1 h
    obtain ⟨C, hC, par⟩ := H_par off
    have := offH off
    omega
  · rw [ind_f (by rw [h]; decide), ind_f (by rw [h]; decide), zero (novert (by rw [h]; decide))]
    obtain ⟨off, odd⟩ := pl_m h
    obtain ⟨C, hC, par⟩ := H_par off
    have := offH off
    omega
theorem pt_ix (g : gr X Y) (i : Nat) : ∃ p : Nat, p < 256 ∧ ((p % 16 : Nat) : Int) = X i ∧ ((p / 16 : Nat) : Int) = Y i := by
  have := g i
  exact ⟨(16 * Y i + X i).toNat, by omega, by omega, by omega⟩
theorem pick2 (g : gr X Y) (h : PR n X Y) (hK : KK n X Y = 2 ∨ KK n X Y = -2) : 2 * sA n X Y n = KK n X Y * (2 * (cn (PT n X Y 1) 256 : Int) + (cn (PT n X Y 0) 256 : Int) - 2) := by
  have pm := pr_pm h
  have dis : ∀ a b, a < n → b < n → a ≠ b → ¬ SP X Y a b := fun a b ha hb ne => sp_all h.2.1 ha hb ne
  have e1 : sg (fun p => Hh n X Y ((p % 16 : Nat) : Int) ((p / 16 : Nat) : Int) - 2 * KK n X Y * (ind (PT n X Y 1 p) : Int) - KK n X Y * (ind (PT n X Y 0 p) : Int)) 256 = sg (fun p => sg (fun i => sel (X i = ((p % 16 : Nat) : Int) ∧ Y i = ((p / 16 : Nat) : Int)) (- tq n X Y i) 0) n) 256 := by
    refine sgc fun p hp => ?_
    exact pt_D g pm dis hK (by omega)
  rw [sg_swap] at e1
  have e2 : sg (fun i => sg (fun p => sel (X i = ((p % 16 : Nat) : Int) ∧ Y i = ((p / 16 : Nat) : Int)) (- tq n X Y i) 0) 256) n = sg (fun i => (-1) * tq n X Y i) n := by
    refine sgc fun i hi => ?_
    obtain ⟨p, hp, h1, h2⟩ := pt_ix g i
    rw [sg_1 hp (fun j hj ne => sel_f fun z => ne (by omega)), sel_t ⟨h1.symm, h2.symm⟩]
    omega
  rw [e2, sg_mul, rot pm, sg_sub, sg_sub, sg_mul, sg_mul, cn_sg, cn_sg, lat_H g] at e1
  grind
theorem three (g : gr X Y) (h : PR n X Y) : 3 ≤ cn (PT n X Y 0) 256 := by
  have h3 := h.1
  obtain ⟨p0, hp0, a0, b0⟩ := pt_ix g 0
  obtain ⟨p1, hp1, a1, b1⟩ := pt_ix g 1
  obtain ⟨p2, hp2, a2, b2⟩ := pt_ix g 2
  refine cn_3 hp0 hp1 hp2 ?_ ?_ ?_ ?_ ?_ ?_
  · unfold PT; rw [a0, b0]; exact pl_v (by omega)
  · unfold PT; rw [a1, b1]; exact pl_v (by omega)
  · unfold PT; rw [a2, b2]; exact pl_v (by omega)
  · intro e; subst e; exact h.2.1 0 1 (by omega) (by omega) ⟨by omega, by omega⟩
  · intro e; subst e; exact h.2.1 0 2 (by omega) (by omega) ⟨by omega, by omega⟩
  · intro e; subst e; exact h.2.1 1 2 (by omega) (by omega) ⟨by omega, by omega⟩
theorem k_at (h : PR n X Y) {m : Nat} (hm : m < n) (hl : ∀ j, j < n → lx X Y m j) : (0 < tn X Y (pv n m) m (nx n m) ∧ KK n X Y = 2) ∨ (tn X Y (pv n m) m (nx n m) < 0 ∧ KK n X Y = -2) :=
  k_low (pr_pm h) hm hl fun j hj ne => sp_all h.2.1 hm hj fun e => ne e.symm
theorem ar_eq (g : gr X Y) (h : PR n X Y) : (0 ≤ sA n X Y n → sA n X Y n = 2 * (cn (PT n X Y 1) 256 : Int) + cn (PT n X Y 0) 256 - 2) ∧ (sA n X Y n < 0 → - sA n X Y n = 2 * (cn (PT n X Y 1) 256 : Int) + cn (PT n X Y 0) 256 - 2) := by
  have h3 := h.1
  obtain ⟨m, hm, hl⟩ := ex_low (n := n) (X := X) (Y := Y) (by omega)
  have k := k_at h hm hl
  have p := pick2 g h (by omega)
  have t := three g h
  rcases k with ⟨_, k⟩ | ⟨_, k⟩ <;> rw [k] at p <;> omega
theorem lf_eq (g : gr X Y) (h : PR n X Y) (a : Nat) (ha : a < n) (hl : ∀ m, m < n → lx X Y a m) : 0 < sA n X Y n ↔ 0 < tn X Y (pv n a) a (nx n a) := by
  have k := k_at h ha hl
  have p := pick2 g h (by omega)
  have t := three g h
  rcases k with ⟨z, k⟩ | ⟨z, k⟩ <;> rw [k] at p <;> omega
end
