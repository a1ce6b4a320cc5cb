section
variable {n : Nat} {p : Int32} {X Y : Nat → Int} {k l q c : Nat → Int32} {post : Int32 → Prop}
def nxP (n i j : Nat) : Prop := j = i - 1 ∨ (j = 0 ∧ i = n - 1)
theorem yb_pr79 {J2 J12 : Int32 → Prop} {i j : Nat} {z0 : Int32} (g : gr X Y) (hn : n ≤ 10) (hi : i < n) (hj : j < i)
    (hm : z0 = 0 → LM X Y i (nx n i) j (j + 1) → post 0) (hJ : (¬ z0 = 0 ∨ ¬ LM X Y i (nx n i) j (j + 1)) → J12 (nI (j + 1))) :
    wY_isProper_79 post J2 J12 (nI i) (nI j) z0 0 (nI n) p (fun i => iN (X i)) (fun i => iN (Y i)) k l q c := by
  have li := nx_lt hi
  refine br_t rfl (br_c (fun e => ⟨nI_ne0 (by omega) (by omega), ?_⟩) (fun e => nm_r (nI_1 j) (hJ (Or.inl e))))
  rw [yr_1 hn hi, nI_1 j]
  exact yb_meet g (by omega) (by omega) (by omega) (by omega) (fun z => bo_1 (hm e z)) (fun z => bo_0 (nm_e (hJ (Or.inr z))))
theorem yb_pr43 {J2 J12 : Int32 → Prop} {i j : Nat} {z0 : Int32} (g : gr X Y) (hn : n ≤ 10) (hi : i < n) (hj : j < i)
    (hs : SP X Y i j → post 0) (hm : z0 = 0 → LM X Y i (nx n i) j (j + 1) → post 0) (hJ : ¬ SP X Y i j → (¬ z0 = 0 ∨ ¬ LM X Y i (nx n i) j (j + 1)) → J12 (nI (j + 1))) :
    wY_isProper_43 post J2 J12 (nI i) (nI j) z0 (nI n) p (fun i => iN (X i)) (fun i => iN (Y i)) k l q c := by
  have ii := vp_in_nI (n := i) (N := 10) (by omega) (by decide)
  have ij := vp_in_nI (n := j) (N := 10) (by omega) (by decide)
  have ci : (nI i).toNatClampNeg = i := nI_clamp (by omega)
  have cj : (nI j).toNatClampNeg = j := nI_clamp (by omega)
  have g1 := g i
  have g2 := g j
  refine ⟨ii, ij, ib_eq (X i) (X j) (by rw [ci]) (by rw [cj]) ⟨by omega, by omega⟩ ⟨by omega, by omega⟩ (fun e1 => ⟨ii, ij, ib_eq (Y i) (Y j) (by rw [ci]) (by rw [cj]) ⟨by omega, by omega⟩ ⟨by omega, by omega⟩ (fun e2 => ?_) (fun e2 => ?_)⟩) (fun e1 => ?_)⟩
  · exact br_f (by decide) (hs ⟨e1, e2⟩)
  · exact yb_pr79 g hn hi hj hm (hJ fun z => e2 z.2)
  · exact yb_pr79 g hn hi hj hm (hJ fun z => e1 z.1)
theorem yl_pr12 {J : Int32 → Prop} {i : Nat} (g : gr X Y) (hn : n ≤ 10) (hi : i < n)
    (hs : ∀ j, j < i → SP X Y i j → post 0) (hm : ∀ j, j < i → ¬ nxP n i j → LM X Y i (nx n i) j (j + 1) → post 0)
    (hJ : (∀ j, j < i → ¬ SP X Y i j ∧ (¬ nxP n i j → ¬ LM X Y i (nx n i) j (j + 1))) → J (nI (i + 1))) :
    ∀ d j, j + d = i → (∀ m, m < j → ¬ SP X Y i m ∧ (¬ nxP n i m → ¬ LM X Y i (nx n i) m (m + 1))) → wY_isProper_12 post J (nI i) (nI n) p (fun i => iN (X i)) (fun i => iN (Y i)) k l q c (d + 1) (nI j) := by
  intro d
  induction d with
  | zero => exact fun j e a => br_t (nI_le (by omega) (by omega)) (nm_r (nI_1 i) (hJ fun m hm => a m (by omega)))
  | succ d ih =>
    intro j e a
    have hj : j < i := by omega
    have e1 : nI i - 1 = nI (i - 1) := by rw [← nI_pred (i - 1)]; congr 1; congr 1; omega
    have e2 : nI n - 1 = nI (n - 1) := by rw [← nI_pred (n - 1)]; congr 1; congr 1; omega
    have s1 : nxP n i j → wY_isProper_38 post J (wY_isProper_12 post J (nI i) (nI n) p (fun i => iN (X i)) (fun i => iN (Y i)) k l q c (d + 1)) (nI i) (nI j) (nI n) p (fun i => iN (X i)) (fun i => iN (Y i)) k l q c := fun z =>
      yb_pr43 g hn hi hj (hs j hj) (fun y => absurd y (by decide)) (fun y1 _ => ih (j + 1) (by omega) fun m hm => by
        by_cases c : m = j
        · subst c; exact ⟨y1, fun y => absurd z y⟩
        · exact a m (by omega))
    have s0 : ¬ nxP n i j → wY_isProper_42 post J (wY_isProper_12 post J (nI i) (nI n) p (fun i => iN (X i)) (fun i => iN (Y i)) k l q c (d + 1)) (nI i) (nI j) (nI n) p (fun i => iN (X i)) (fun i => iN (Y i)) k l q c := fun z =>
      yb_pr43 g hn hi hj (hs j hj) (fun _ y => hm j hj z y) (fun y1 y2 => ih (j + 1) (by omega) fun m hm => by
        by_cases c : m = j
        · subst c; exact ⟨y1, fun _ => y2.resolve_left fun h => h rfl⟩
        · exact a m (by omega))
    refine br_f (nI_ge (by omega) (by omega)) (pk_eq j (i - 1) (fun z => s1 (Or.inl z)) (fun z => ?_) (hy := e1))
    refine pk_eq j 0 (fun z0 => pk_eq i (n - 1) (fun z1 => s1 (Or.inr ⟨z0, z1⟩)) (fun z1 => s0 ?_) (hy := e2)) (fun z0 => s0 ?_) (hb := by decide)
    · rintro (y | ⟨_, y⟩)
      · exact z y
      · exact z1 y
    · rintro (y | ⟨y, _⟩)
      · exact z y
      · exact z0 y
theorem yl_pr126 (g : gr X Y) (hn : n ≤ 10) (h0 : (∃ i, i < n ∧ 2 < n ∧ FO n X Y i) → post 0) (h0' : n ≤ 2 → post 0) (h1 : 2 < n → (∀ i, i < n → ¬ FO n X Y i) → post 1) :
    ∀ d i, i + d = n → (∀ m, m < i → ¬ FO n X Y m) → wY_isProper_126 post (nI n) p (fun i => iN (X i)) (fun i => iN (Y i)) k l q c (d + 1) (nI i) := by
  intro d
  induction d with
  | zero =>
    intro i e a
    refine br_t (nI_le (by omega) (by omega)) (pk_le n 2 (fun z => h0' z) (fun z => h1 z fun m hm => a m (by omega)) (hb := by decide))
  | succ d ih =>
    intro i e a
    refine br_f (nI_ge (by omega) (by omega)) (pk_le n 2 (fun z => pk_le n 2 (fun z => h0' z) (fun y => by omega) (hb := by decide)) (fun z => ?_) (hb := by decide))
    refine yb_isFolded g hn (by omega) (fun y => bo_1 (h0 ⟨i, by omega, z, y⟩)) (fun y => bo_0 (nm_r (nI_1 i) (ih (i + 1) (by omega) fun m hm => ?_)))
    by_cases c : m = i
    · exact c ▸ y
    · exact a m (by omega)
theorem yl_pr2 (g : gr X Y) (hn : n ≤ 10) (hs : ∀ i j, j < i → i < n → SP X Y i j → post 0) (hm : ∀ i j, j < i → i < n → ¬ nxP n i j → LM X Y i (nx n i) j (j + 1) → post 0)
    (hJ : (∀ i j, j < i → i < n → ¬ SP X Y i j ∧ (¬ nxP n i j → ¬ LM X Y i (nx n i) j (j + 1))) → ∃ m, wY_isProper_126 post (nI n) p (fun i => iN (X i)) (fun i => iN (Y i)) k l q c m 0) :
    ∀ d i, i + d = n → (∀ m j, m < i → j < m → ¬ SP X Y m j ∧ (¬ nxP n m j → ¬ LM X Y m (nx n m) j (j + 1))) → wY_isProper_2 post (nI n) p (fun i => iN (X i)) (fun i => iN (Y i)) k l q c (d + 1) (nI i) := by
  intro d
  induction d with
  | zero => exact fun i e a => br_t (nI_le (by omega) (by omega)) (hJ fun m j h1 h2 => a m j (by omega) h1)
  | succ d ih =>
    intro i e a
    refine br_f (nI_ge (by omega) (by omega)) ⟨i + 1, yl_pr12 g hn (by omega) (fun j h => hs i j h (by omega)) (fun j h => hm i j h (by omega)) (fun b => ih (i + 1) (by omega) fun m j h1 h2 => ?_) i 0 (by omega) (fun m h => absurd h (by omega))⟩
    by_cases c : m = i
    · subst c; exact b j h2
    · exact a m j (by omega) h2
theorem yb_isProper (g : gr X Y) (hn : n ≤ 10) (h1 : PR n X Y → post 1) (h0 : ¬ PR n X Y → post 0) : wpY_isProper post (sY n p X Y k l q c) := by
  rw [pr_eq] at h1 h0
  refine ⟨n + 1, yl_pr2 g hn (fun i j a b z => h0 fun y => y.2.1 i j a b z) (fun i j a b z1 z2 => h0 fun y => y.2.2.1 i j a b z1 z2) (fun a => ⟨n + 1, ?_⟩) n 0 (by omega) (fun m j h => absurd h (by omega))⟩
  refine yl_pr126 g hn (fun ⟨i, hi, _, z⟩ => h0 fun y => y.2.2.2 i hi z) (fun z => h0 fun y => by have := y.1; omega) (fun z1 z2 => h1 ⟨z1, fun i j x y => (a i j x y).1, fun i j x y => (a i j x y).2, z2⟩) n 0 (by omega) (fun m h => absurd h (by omega))
theorem yb_tog {J : Int32 → Int32 → Prop} {c i : Nat} (hJ : J (nI ((c + 1) % 2)) (nI (i + 1))) : (nI (c % 2) = 0 → (∀ x4, x4 = nI i + 1 → J 1 x4)) ∧ (¬ nI (c % 2) = 0 → (∀ x4, x4 = nI i + 1 → J 0 x4)) := xb_tog hJ
theorem yl_pl5 {x y : Int} (g : gr X Y) (hn : n ≤ 10) (hx : 0 ≤ x ∧ x ≤ 30) (hy : 0 ≤ y ∧ y ≤ 30)
    (h0 : (∃ i, i < n ∧ oE X Y x y i (nx n i)) → post 0) (h1 : (¬ ∃ i, i < n ∧ oE X Y x y i (nx n i)) → pc n X Y x y n % 2 = 1 → post 1) (h2 : (¬ ∃ i, i < n ∧ oE X Y x y i (nx n i)) → ¬ pc n X Y x y n % 2 = 1 → post (-1)) :
    ∀ d i, i + d = n → (∀ m, m < i → ¬ oE X Y x y m (nx n m)) → wY_place_5 post (iN x) (iN y) (nI n) p (fun i => iN (X i)) (fun i => iN (Y i)) k l q c (d + 1) (nI (pc n X Y x y i % 2)) (nI i) := by
  intro d
  induction d with
  | zero =>
    intro i e a
    have e' : i = n := by omega
    subst e'
    have no : ¬ ∃ m, m < i ∧ oE X Y x y m (nx i m) := fun ⟨m, hm, z⟩ => a m hm z
    refine br_t (nI_le (by omega) (by omega)) (pk_eq (pc i X Y x y i % 2) 0 (fun c => h2 no (by omega)) (fun c => h1 no (by omega)) (hb := by decide))
  | succ d ih =>
    intro i e a
    have hi : i < n := by omega
    have li := nx_lt hi
    have ci : (nI i).toNatClampNeg = i := nI_clamp (by omega)
    have cj : (nI (nx n i)).toNatClampNeg = nx n i := nI_clamp (by omega)
    have g1 := g i
    have g2 := g (nx n i)
    have e1 : 2 * (fun i => iN (X i)) (nI i).toNatClampNeg = iN (2 * X i) := by
      show 2 * iN (X _) = _
      rw [ci, ie_2, ie_mul]
    have e2 : 2 * (fun i => iN (Y i)) (nI i).toNatClampNeg = iN (2 * Y i) := by
      show 2 * iN (Y _) = _
      rw [ci, ie_2, ie_mul]
    have e3 : 2 * (fun i => iN (X i)) (nI (nx n i)).toNatClampNeg = iN (2 * X (nx n i)) := by
      show 2 * iN (X _) = _
      rw [cj, ie_2, ie_mul]
    have e4 : 2 * (fun i => iN (Y i)) (nI (nx n i)).toNatClampNeg = iN (2 * Y (nx n i)) := by
      show 2 * iN (Y _) = _
      rw [cj, ie_2, ie_mul]
    have ii := vp_in_nI (n := i) (N := 10) (by omega) (by decide)
    have ij := vp_in_nI (n := nx n i) (N := 10) (by omega) (by decide)
    have m2 : sm y := ⟨by omega, by omega⟩
    have m4 : sm (2 * Y i) := ⟨by omega, by omega⟩
    have m6 : sm (2 * Y (nx n i)) := ⟨by omega, by omega⟩
    refine br_f (nI_ge (by omega) (by omega)) (yb_isOnSide g hn hi hx hy (fun z => bo_1 (h0 ⟨i, hi, z⟩)) (fun z => bo_0 ⟨nI_ne0 (by omega) (by omega), nm_r (yr_1 hn hi) ⟨ii, ?_⟩⟩))
    have hJ : wY_place_5 post (iN x) (iN y) (nI n) p (fun i => iN (X i)) (fun i => iN (Y i)) k l q c (d + 1) (nI ((pc n X Y x y i + ind (cR X Y x y i (nx n i))) % 2)) (nI (i + 1)) := ih (i + 1) (by omega) fun m hm => by
      by_cases c : m = i
      · exact c ▸ z
      · exact a m (by omega)
    have hD : (2 * X (nx n i) - 2 * X i) * (y - 2 * Y i) - (x - 2 * X i) * (2 * Y (nx n i) - 2 * Y i) = (2 * X i - x) * (2 * Y (nx n i) - y) - (2 * Y i - y) * (2 * X (nx n i) - x) := by grind
    have tur : ∀ {P : Int32 → Prop}, (0 < (2 * X i - x) * (2 * Y (nx n i) - y) - (2 * Y i - y) * (2 * X (nx n i) - x) → P 1) → (¬ 0 < (2 * X i - x) * (2 * Y (nx n i) - y) - (2 * Y i - y) * (2 * X (nx n i) - x) → P 0) → wpY_turn (fun r_25 => (((r_25 ≤ 0 → P 0) ∧ (¬ r_25 ≤ 0 → P 1)))) (sY n p X Y k l q c) (2 * (fun i => iN (X i)) (nI i).toNatClampNeg) (2 * (fun i => iN (Y i)) (nI i).toNatClampNeg) (2 * (fun i => iN (X i)) (nI (nx n i)).toNatClampNeg) (2 * (fun i => iN (Y i)) (nI (nx n i)).toNatClampNeg) (iN x) (iN y) := by
      intro P f1 f0
      rw [e1, e2, e3, e4]
      refine yb_turn (by omega) (by omega) (by omega) (by omega) ?_
      rw [hD]
      refine ib_le _ 0 rfl ie_0 (sg_sm _) (sm_k 0) (fun z => f0 fun y => ?_) (fun z => f1 ((sg_pos _).mp z))
      have := (sg_pos _).mpr y
      omega
    have cc : cR X Y x y i (nx n i) ↔ ¬ (0 < 2 * Y i - y ↔ 0 < 2 * Y (nx n i) - y) ∧ (0 < (2 * X i - x) * (2 * Y (nx n i) - y) - (2 * Y i - y) * (2 * X (nx n i) - x) ↔ 0 < 2 * Y (nx n i) - y) := Iff.rfl
    refine ib_le (2 * Y i) y e2 rfl m4 m2 (fun p1 => ⟨ij, ib_le (2 * Y (nx n i)) y e4 rfl m6 m2 (fun p2 => ?_) (fun p2 => ?_)⟩) (fun p1 => ⟨ij, ib_le (2 * Y (nx n i)) y e4 rfl m6 m2 (fun p2 => ?_) (fun p2 => ?_)⟩)
    · rw [ind_f (by rw [cc]; omega)] at hJ
      exact br_t rfl (nm_r (nI_1 i) hJ)
    · refine br_f (by decide) ⟨ii, ii, ij, ij, tur (P := fun z => wY_place_135 post (wY_place_5 post (iN x) (iN y) (nI n) p (fun i => iN (X i)) (fun i => iN (Y i)) k l q c (d + 1)) (iN x) (iN y) (nI (pc n X Y x y i % 2)) (nI i) 0 z (nI n) p (fun i => iN (X i)) (fun i => iN (Y i)) k l q c) (fun p3 => ?_) (fun p3 => ?_)⟩
      · rw [ind_t (by rw [cc]; omega)] at hJ
        exact br_f (by decide) (xb_tog hJ)
      · rw [ind_f (by rw [cc]; omega)] at hJ
        exact br_t rfl (nm_r (nI_1 i) hJ)
    · refine br_f (by decide) ⟨ii, ii, ij, ij, tur (P := fun z => wY_place_135 post (wY_place_5 post (iN x) (iN y) (nI n) p (fun i => iN (X i)) (fun i => iN (Y i)) k l q c (d + 1)) (iN x) (iN y) (nI (pc n X Y x y i % 2)) (nI i) 1 z (nI n) p (fun i => iN (X i)) (fun i => iN (Y i)) k l q c) (fun p3 => ?_) (fun p3 => ?_)⟩
      · rw [ind_f (by rw [cc]; omega)] at hJ
        exact br_t rfl (nm_r (nI_1 i) hJ)
      · rw [ind_t (by rw [cc]; omega)] at hJ
        exact br_f (by decide) (xb_tog hJ)
    · rw [ind_f (by rw [cc]; omega)] at hJ
      exact br_t rfl (nm_r (nI_1 i) hJ)
theorem yb_place {x y : Int} (g : gr X Y) (hn : n ≤ 10) (hx : 0 ≤ x ∧ x ≤ 30) (hy : 0 ≤ y ∧ y ≤ 30) (h : post (iN (plv n X Y x y))) : wpY_place post (sY n p X Y k l q c) (iN x) (iN y) := by
  refine ⟨n + 1, yl_pl5 g hn hx hy (fun z => ?_) (fun z z2 => ?_) (fun z z2 => ?_) n 0 (by omega) (fun m hm => absurd hm (by omega))⟩
  · unfold plv at h; rw [sel_t z] at h; exact h
  · unfold plv at h; rw [sel_f z, sel_t z2] at h; exact h
  · unfold plv at h; rw [sel_f z, sel_f z2] at h; exact h
end
