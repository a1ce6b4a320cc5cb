def HF (n : Nat) (H : Nat → Nat → Prop) (i : Nat) : Prop := H (i / n) (i % n)
theorem hf_e {n a b : Nat} {H : Nat → Nat → Prop} (hb : b < n) : HF n H (n * a + b) ↔ H a b := by
  unfold HF
  rw [Nat.mul_add_div (by omega), Nat.mul_add_mod, Nat.div_eq_of_lt hb, Nat.mod_eq_of_lt hb, Nat.add_zero]
noncomputable def sF (f : Nat → Prop) (v : Nat → Int) : Nat → Int
  | 0 => 0
  | m + 1 => sF f v m + sel (f m) (v m) 0
def GA (n : Nat) (X Y : Nat → Int) (i : Nat) : Int := X (i / n) * Y (i % n) - X (i % n) * Y (i / n)
theorem ga_e {n a b : Nat} {X Y : Nat → Int} (hb : b < n) : GA n X Y (n * a + b) = X a * Y b - X b * Y a := by
  unfold GA
  rw [Nat.mul_add_div (by omega), Nat.mul_add_mod, Nat.div_eq_of_lt hb, Nat.mod_eq_of_lt hb, Nat.add_zero]
theorem sF_r {n : Nat} {X Y : Nat → Int} (g : gr X Y) (f : Nat → Prop) (m : Nat) : -(1800 * m) ≤ sF f (GA n X Y) m ∧ sF f (GA n X Y) m ≤ 1800 * m := by
  induction m with
  | zero => exact ⟨Int.le_refl _, Int.le_refl _⟩
  | succ m ih =>
    have h1 := ra_mul (gr_X g (m / n)) (gr_Y g (m % n))
    have h2 := ra_mul (gr_X g (m % n)) (gr_Y g (m / n))
    show -(1800 * ((m + 1 : Nat) : Int)) ≤ sF f (GA n X Y) m + sel (f m) (GA n X Y m) 0 ∧ sF f (GA n X Y) m + sel (f m) (GA n X Y m) 0 ≤ 1800 * ((m + 1 : Nat) : Int)
    by_cases h : f m
    · rw [sel_t h]; unfold GA; unfold GA at ih; omega
    · rw [sel_f h]; omega
section
variable {n : Nat} {p : Int32} {X Y : Nat → Int} {k l q c : Nat → Int32} {s t w : Nat → Int32} {post : Int32 → Prop}
theorem xl_hu14 {J : Int32 → Int32 → Prop} {a : Nat} (g : gr X Y) (hn : n ≤ 10) (ha : a < n) (hJ : J (nI (cn (HF n (HX n X Y)) (n * a + n))) (nI (a + 1))) :
    ∀ d b, b + d = n → wX_hull_14 post J (nI a) (nI n) (fun i => iN (X i)) (fun i => iN (Y i)) s t w (d + 1) (nI (cn (HF n (HX n X Y)) (n * a + b))) (nI b) := by
  intro d
  induction d with
  | zero =>
    intro b e
    have e' : b = n := by omega
    subst e'
    exact br_t (nI_le (by omega) (by omega)) (nm_r (nI_1 a) hJ)
  | succ d ih =>
    intro b e
    have hs : wX_hull_14 post J (nI a) (nI n) (fun i => iN (X i)) (fun i => iN (Y i)) s t w (d + 1) (nI (cn (HF n (HX n X Y)) (n * a + b) + ind (HF n (HX n X Y) (n * a + b)))) (nI (b + 1)) := ih (b + 1) (by omega)
    rw [ind_c (hf_e (by omega))] at hs
    refine br_f (nI_ge (by omega) (by omega)) (xb_isHullSide g hn ha (by omega) (fun z => bo_1 ?_) (fun z => bo_0 ?_))
    · rw [ind_t z] at hs; exact nm_r (nI_1 _) (nm_r (nI_1 b) hs)
    · rw [ind_f z] at hs; exact nm_r (nI_1 b) hs
theorem xl_hu4 (g : gr X Y) (hn : n ≤ 10) (h1 : 3 ≤ cn (HF n (HX n X Y)) (n * n) → post (nI (cn (HF n (HX n X Y)) (n * n)))) (h0 : cn (HF n (HX n X Y)) (n * n) < 3 → post (-1000)) :
    ∀ d a, a + d = n → wX_hull_4 post (nI n) (fun i => iN (X i)) (fun i => iN (Y i)) s t w (d + 1) (nI (cn (HF n (HX n X Y)) (n * a))) (nI a) := by
  intro d
  have hb := cn_le (HF n (HX n X Y)) (n * n)
  have hb2 := Nat.mul_le_mul hn hn
  induction d with
  | zero =>
    intro a e
    have e' : a = n := by omega
    subst e'
    exact br_t (nI_le (by omega) (by omega)) (pk_le 3 _ h1 h0)
  | succ d ih =>
    intro a e
    exact br_f (nI_ge (by omega) (by omega)) ⟨n + 1, xl_hu14 g hn (by omega) (by have := ih (a + 1) (by omega); rwa [Nat.mul_succ] at this) n 0 (by omega)⟩
theorem xb_hull (g : gr X Y) (hn : n ≤ 10) (h1 : 3 ≤ cn (HF n (HX n X Y)) (n * n) → post (nI (cn (HF n (HX n X Y)) (n * n)))) (h0 : cn (HF n (HX n X Y)) (n * n) < 3 → post (-1000)) : wpX_hull post (sX n X Y s t w) :=
  ⟨n + 1, xl_hu4 g hn h1 h0 n 0 (by omega)⟩
theorem yl_hu14 {J : Int32 → Int32 → Prop} {a : Nat} (g : gr X Y) (hn : n ≤ 10) (ha : a < n) (hJ : J (nI (cn (HF n (HY n X Y)) (n * a + n))) (nI (a + 1))) :
    ∀ d b, b + d = n → wY_hull_14 post J (nI a) (nI n) p (fun i => iN (X i)) (fun i => iN (Y i)) k l q c (d + 1) (nI (cn (HF n (HY n X Y)) (n * a + b))) (nI b) := by
  intro d
  induction d with
  | zero =>
    intro b e
    have e' : b = n := by omega
    subst e'
    exact br_t (nI_le (by omega) (by omega)) (nm_r (nI_1 a) hJ)
  | succ d ih =>
    intro b e
    have hs : wY_hull_14 post J (nI a) (nI n) p (fun i => iN (X i)) (fun i => iN (Y i)) k l q c (d + 1) (nI (cn (HF n (HY n X Y)) (n * a + b) + ind (HF n (HY n X Y) (n * a + b)))) (nI (b + 1)) := ih (b + 1) (by omega)
    rw [ind_c (hf_e (by omega))] at hs
    refine br_f (nI_ge (by omega) (by omega)) (yb_isHullSide g hn ha (by omega) (fun z => bo_1 ?_) (fun z => bo_0 ?_))
    · rw [ind_t z] at hs; exact nm_r (nI_1 _) (nm_r (nI_1 b) hs)
    · rw [ind_f z] at hs; exact nm_r (nI_1 b) hs
theorem yl_hu4 (g : gr X Y) (hn : n ≤ 10) (h1 : cn (HF n (HY n X Y)) (n * n) ≠ 0 → post (nI (cn (HF n (HY n X Y)) (n * n)))) (h0 : cn (HF n (HY n X Y)) (n * n) = 0 → post (-1000)) :
    ∀ d a, a + d = n → wY_hull_4 post (nI n) p (fun i => iN (X i)) (fun i => iN (Y i)) k l q c (d + 1) (nI (cn (HF n (HY n X Y)) (n * a))) (nI a) := by
  intro d
  have hb := cn_le (HF n (HY n X Y)) (n * n)
  have hb2 := Nat.mul_le_mul hn hn
  induction d with
  | zero =>
    intro a e
    have e' : a = n := by omega
    subst e'
    exact br_t (nI_le (by omega) (by omega)) (pk_eq _ 0 h0 h1 (hb := by decide))
  | succ d ih =>
    intro a e
    exact br_f (nI_ge (by omega) (by omega)) ⟨n + 1, yl_hu14 g hn (by omega) (by have := ih (a + 1) (by omega); rwa [Nat.mul_succ] at this) n 0 (by omega)⟩
theorem yb_hull (g : gr X Y) (hn : n ≤ 10) (h1 : cn (HF n (HY n X Y)) (n * n) ≠ 0 → post (nI (cn (HF n (HY n X Y)) (n * n)))) (h0 : cn (HF n (HY n X Y)) (n * n) = 0 → post (-1000)) : wpY_hull post (sY n p X Y k l q c) :=
  ⟨n + 1, yl_hu4 g hn h1 h0 n 0 (by omega)⟩
theorem xl_ha14 {J : Int32 → Int32 → Prop} {a : Nat} (g : gr X Y) (hn : n ≤ 10) (ha : a < n) (hJ : J (iN (sF (HF n (HX n X Y)) (GA n X Y) (n * a + n))) (nI (a + 1))) :
    ∀ d b, b + d = n → wX_hullArea_14 post J (nI a) (nI n) (fun i => iN (X i)) (fun i => iN (Y i)) s t w (d + 1) (iN (sF (HF n (HX n X Y)) (GA n X Y) (n * a + b))) (nI b) := by
  intro d
  induction d with
  | zero =>
    intro b e
    have e' : b = n := by omega
    subst e'
    exact br_t (nI_le (by omega) (by omega)) (nm_r (nI_1 a) hJ)
  | succ d ih =>
    intro b e
    have ia := vp_in_nI (n := a) (N := 10) (by omega) (by decide)
    have ib := vp_in_nI (n := b) (N := 10) (by omega) (by decide)
    have ca : (nI a).toNatClampNeg = a := nI_clamp (by omega)
    have cb : (nI b).toNatClampNeg = b := nI_clamp (by omega)
    have hs : wX_hullArea_14 post J (nI a) (nI n) (fun i => iN (X i)) (fun i => iN (Y i)) s t w (d + 1) (iN (sF (HF n (HX n X Y)) (GA n X Y) (n * a + b) + sel (HF n (HX n X Y) (n * a + b)) (GA n X Y (n * a + b)) 0)) (nI (b + 1)) := ih (b + 1) (by omega)
    rw [ga_e (by omega), show HF n (HX n X Y) (n * a + b) = HX n X Y a b from propext (hf_e (by omega))] at hs
    refine br_f (nI_ge (by omega) (by omega)) (xb_isHullSide g hn ha (by omega) (fun z => bo_1 ⟨ia, ib, ib, ia, ?_⟩) (fun z => bo_0 ?_))
    · rw [sel_t z] at hs
      refine nm_r ?_ (nm_r (nI_1 b) hs)
      rw [ca, cb]
      simp only [ie_mul, ie_sub, ie_add]
    · rw [sel_f z, Int.add_zero] at hs; exact nm_r (nI_1 b) hs
theorem xl_ha4 (g : gr X Y) (hn : n ≤ 10) (h1 : sF (HF n (HX n X Y)) (GA n X Y) (n * n) ≠ 0 → post (iN (sF (HF n (HX n X Y)) (GA n X Y) (n * n)))) (h0 : sF (HF n (HX n X Y)) (GA n X Y) (n * n) = 0 → post (-1000)) :
    ∀ d a, a + d = n → wX_hullArea_4 post (nI n) (fun i => iN (X i)) (fun i => iN (Y i)) s t w (d + 1) (iN (sF (HF n (HX n X Y)) (GA n X Y) (n * a))) (nI a) := by
  intro d
  have hb := sF_r (n := n) g (HF n (HX n X Y)) (n * n)
  have hb2 := Nat.mul_le_mul hn hn
  induction d with
  | zero =>
    intro a e
    have e' : a = n := by omega
    subst e'
    exact br_t (nI_le (by omega) (by omega)) (ib_eq _ 0 rfl ie_0 ⟨by omega, by omega⟩ (sm_k 0) h0 h1)
  | succ d ih =>
    intro a e
    exact br_f (nI_ge (by omega) (by omega)) ⟨n + 1, xl_ha14 g hn (by omega) (by have := ih (a + 1) (by omega); rwa [Nat.mul_succ] at this) n 0 (by omega)⟩
theorem xb_hullArea (g : gr X Y) (hn : n ≤ 10) (h1 : sF (HF n (HX n X Y)) (GA n X Y) (n * n) ≠ 0 → post (iN (sF (HF n (HX n X Y)) (GA n X Y) (n * n)))) (h0 : sF (HF n (HX n X Y)) (GA n X Y) (n * n) = 0 → post (-1000)) : wpX_hullArea post (sX n X Y s t w) :=
  ⟨n + 1, xl_ha4 g hn h1 h0 n 0 (by omega)⟩
theorem yl_ha14 {J : Int32 → Int32 → Prop} {a : Nat} (g : gr X Y) (hn : n ≤ 10) (ha : a < n) (hJ : J (iN (sF (HF n (HY n X Y)) (GA n X Y) (n * a + n))) (nI (a + 1))) :
    ∀ d b, b + d = n → wY_hullArea_14 post J (nI a) (nI n) p (fun i => iN (X i)) (fun i => iN (Y i)) k l q c (d + 1) (iN (sF (HF n (HY n X Y)) (GA n X Y) (n * a + b))) (nI b) := by
  intro d
  induction d with
  | zero =>
    intro b e
    have e' : b = n := by omega
    subst e'
    exact br_t (nI_le (by omega) (by omega)) (nm_r (nI_1 a) hJ)
  | succ d ih =>
    intro b e
    have ia := vp_in_nI (n := a) (N := 10) (by omega) (by decide)
    have ib := vp_in_nI (n := b) (N := 10) (by omega) (by decide)
    have ca : (nI a).toNatClampNeg = a := nI_clamp (by omega)
    have cb : (nI b).toNatClampNeg = b := nI_clamp (by omega)
    have hs : wY_hullArea_14 post J (nI a) (nI n) p (fun i => iN (X i)) (fun i => iN (Y i)) k l q c (d + 1) (iN (sF (HF n (HY n X Y)) (GA n X Y) (n * a + b) + sel (HF n (HY n X Y) (n * a + b)) (GA n X Y (n * a + b)) 0)) (nI (b + 1)) := ih (b + 1) (by omega)
    rw [ga_e (by omega), show HF n (HY n X Y) (n * a + b) = HY n X Y a b from propext (hf_e (by omega))] at hs
    refine br_f (nI_ge (by omega) (by omega)) (yb_isHullSide g hn ha (by omega) (fun z => bo_1 ⟨ia, ib, ib, ia, ?_⟩) (fun z => bo_0 ?_))
    · rw [sel_t z] at hs
      refine nm_r ?_ (nm_r (nI_1 b) hs)
      rw [ca, cb]
      simp only [ie_mul, ie_sub, ie_add]
      rw [Int.add_sub_assoc]
    · rw [sel_f z, Int.add_zero] at hs; exact nm_r (nI_1 b) hs
theorem yl_ha4 (g : gr X Y) (hn : n ≤ 10) (h1 : sF (HF n (HY n X Y)) (GA n X Y) (n * n) ≠ 0 → post (iN (sF (HF n (HY n X Y)) (GA n X Y) (n * n)))) (h0 : sF (HF n (HY n X Y)) (GA n X Y) (n * n) = 0 → post (-1000)) :
    ∀ d a, a + d = n → wY_hullArea_4 post (nI n) p (fun i => iN (X i)) (fun i => iN (Y i)) k l q c (d + 1) (iN (sF (HF n (HY n X Y)) (GA n X Y) (n * a))) (nI a) := by
  intro d
  have hb := sF_r (n := n) g (HF n (HY n X Y)) (n * n)
  have hb2 := Nat.mul_le_mul hn hn
  induction d with
  | zero =>
    intro a e
    have e' : a = n := by omega
    subst e'
    exact br_t (nI_le (by omega) (by omega)) (ib_eq _ 0 rfl ie_0 ⟨by omega, by omega⟩ (sm_k 0) h0 h1)
  | succ d ih =>
    intro a e
    exact br_f (nI_ge (by omega) (by omega)) ⟨n + 1, yl_ha14 g hn (by omega) (by have := ih (a + 1) (by omega); rwa [Nat.mul_succ] at this) n 0 (by omega)⟩
theorem yb_hullArea (g : gr X Y) (hn : n ≤ 10) (h1 : sF (HF n (HY n X Y)) (GA n X Y) (n * n) ≠ 0 → post (iN (sF (HF n (HY n X Y)) (GA n X Y) (n * n)))) (h0 : sF (HF n (HY n X Y)) (GA n X Y) (n * n) = 0 → post (-1000)) : wpY_hullArea post (sY n p X Y k l q c) :=
  ⟨n + 1, yl_ha4 g hn h1 h0 n 0 (by omega)⟩
/-- the squared distance -/
def dd (X Y : Nat → Int) (i j : Nat) : Int := (X i - X j) * (X i - X j) + (Y i - Y j) * (Y i - Y j)
theorem dd_sm (g : gr X Y) (i j : Nat) : sm (dd X Y i j) := sm_s (gr_x g _ _) (gr_x g _ _) (gr_y g _ _) (gr_y g _ _)
def WX (n : Nat) (X Y : Nat → Int) (i j : Nat) (r : Int) : Prop := (∀ i' j', i' < j' → j' < n → (i' < i ∨ (i' = i ∧ j' < j)) → dd X Y i' j' ≤ r) ∧ (r = 0 ∨ ∃ i' j', i' < j' ∧ j' < n ∧ r = dd X Y i' j')
theorem wx_sm (g : gr X Y) {i j : Nat} {r : Int} (h : WX n X Y i j r) : sm r := by
  rcases h.2 with h | ⟨i', j', _, _, h⟩
  · rw [h]; exact sm_k 0
  · rw [h]; exact dd_sm g _ _
theorem xl_wi28 {J : Int32 → Int32 → Prop} {i : Nat} (g : gr X Y) (hn : n ≤ 10) (hi : i < n) (hJ : ∀ r, WX n X Y i n r → J (iN r) (nI (i + 1))) :
    ∀ d j, i < j → j + d = n → ∀ r, WX n X Y i j r → wX_widest_28 post J (nI i) (nI n) (fun i => iN (X i)) (fun i => iN (Y i)) s t w (d + 1) (iN r) (nI j) := by
  intro d
  induction d with
  | zero =>
    intro j hj e r z
    have e' : j = n := by omega
    subst e'
    exact br_t (nI_le (by omega) (by omega)) (nm_r (nI_1 i) (hJ r z))
  | succ d ih =>
    intro j hj e r z
    have ii := vp_in_nI (n := i) (N := 10) (by omega) (by decide)
    have ij := vp_in_nI (n := j) (N := 10) (by omega) (by decide)
    have ci : (nI i).toNatClampNeg = i := nI_clamp (by omega)
    have cj : (nI j).toNatClampNeg = j := nI_clamp (by omega)
    refine br_f (nI_ge (by omega) (by omega)) ⟨ii, ij, nm_r (e' := iN (X i - X j)) (by rw [ci, cj]; exact ie_sub _ _) ⟨ii, ij, nm_r (e' := iN (Y i - Y j)) (by rw [ci, cj]; exact ie_sub _ _) (nm_r (e' := iN (dd X Y i j)) (by rw [ie_mul, ie_mul, ie_add]; rfl) ?_)⟩⟩
    refine ib_le _ _ rfl rfl (dd_sm g _ _) (wx_sm g z) (fun y => nm_r (nI_1 j) (ih (j + 1) (by omega) (by omega) _ ⟨fun i' j' a b u => ?_, z.2⟩)) (fun y => nm_r (nI_1 j) (ih (j + 1) (by omega) (by omega) _ ⟨fun i' j' a b u => ?_, Or.inr ⟨i, j, hj, by omega, rfl⟩⟩))
    · by_cases v : i' = i ∧ j' = j
      · rw [v.1, v.2]; exact y
      · exact z.1 i' j' a b (by omega)
    · by_cases v : i' = i ∧ j' = j
      · rw [v.1, v.2]; omega
      · have := z.1 i' j' a b (by omega); omega
theorem xl_wi16 (g : gr X Y) (hn : n ≤ 10) (h : ∀ r, WX n X Y n 0 r → post (iN r)) :
    ∀ d i, i + d = n → ∀ r, WX n X Y i 0 r → wX_widest_16 post (nI n) (fun i => iN (X i)) (fun i => iN (Y i)) s t w (d + 1) (iN r) (nI i) := by
  intro d
  induction d with
  | zero =>
    intro i e r z
    have e' : i = n := by omega
    subst e'
    exact br_t (nI_le (by omega) (by omega)) (h r z)
  | succ d ih =>
    intro i e r z
    refine br_f (nI_ge (by omega) (by omega)) (nm_r (nI_1 i) ⟨n - (i + 1) + 1, xl_wi28 g hn (by omega) (fun r' z' => ih (i + 1) (by omega) r' ⟨fun i' j' a b u => z'.1 i' j' a b (by omega), z'.2⟩) (n - (i + 1)) (i + 1) (by omega) (by omega) r ⟨fun i' j' a b u => z.1 i' j' a b (by omega), z.2⟩⟩)
def WY (X Y : Nat → Int) (i j : Nat) (r : Int) : Prop := (∀ i' j', j' < i' → (i' < i ∨ (i' = i ∧ j' < j)) → dd X Y i' j' ≤ r) ∧ (r = -1000 ∨ ∃ i' j', j' < i' ∧ i' < n ∧ r = dd X Y i' j')
theorem wy_sm (g : gr X Y) {i j : Nat} {r : Int} (h : WY (n := n) X Y i j r) : sm r := by
  rcases h.2 with h | ⟨i', j', _, _, h⟩
  · rw [h]; exact sm_k _
  · rw [h]; exact dd_sm g _ _
theorem yl_wi16 {J : Int32 → Int32 → Prop} {i : Nat} (g : gr X Y) (hn : n ≤ 10) (hi : i < n) (hJ : ∀ r, WY (n := n) X Y i i r → J (iN r) (nI (i + 1))) :
    ∀ d j, j + d = i → ∀ r, WY (n := n) X Y i j r → wY_widest_16 post J (nI i) (nI n) p (fun i => iN (X i)) (fun i => iN (Y i)) k l q c (d + 1) (iN r) (nI j) := by
  intro d
  induction d with
  | zero =>
    intro j e r z
    have e' : j = i := by omega
    subst e'
    exact br_t (nI_le (by omega) (by omega)) (nm_r (nI_1 j) (hJ r z))
  | succ d ih =>
    intro j e r z
    have ii := vp_in_nI (n := i) (N := 10) (by omega) (by decide)
    have ij := vp_in_nI (n := j) (N := 10) (by omega) (by decide)
    have ci : (nI i).toNatClampNeg = i := nI_clamp (by omega)
    have cj : (nI j).toNatClampNeg = j := nI_clamp (by omega)
    refine br_f (nI_ge (by omega) (by omega)) ⟨ii, ij, nm_r (e' := iN (X i - X j)) (by rw [ci, cj]; exact ie_sub _ _) ⟨ii, ij, nm_r (e' := iN (Y i - Y j)) (by rw [ci, cj]; exact ie_sub _ _) (nm_r (e' := iN (dd X Y i j)) (by rw [ie_mul, ie_mul, ie_add]; rfl) ?_)⟩⟩
    refine ib_le _ _ rfl rfl (dd_sm g _ _) (wy_sm g z) (fun y => nm_r (nI_1 j) (ih (j + 1) (by omega) _ ⟨fun i' j' a u => ?_, z.2⟩)) (fun y => nm_r (nI_1 j) (ih (j + 1) (by omega) _ ⟨fun i' j' a u => ?_, Or.inr ⟨i, j, by omega, by omega, rfl⟩⟩))
    · by_cases v : i' = i ∧ j' = j
      · rw [v.1, v.2]; exact y
      · exact z.1 i' j' a (by omega)
    · by_cases v : i' = i ∧ j' = j
      · rw [v.1, v.2]; omega
      · have := z.1 i' j' a (by omega); omega
theorem yl_wi6 (g : gr X Y) (hn : n ≤ 10) (h : ∀ r, WY (n := n) X Y n 0 r → post (iN r)) :
    ∀ d i, i + d = n → ∀ r, WY (n := n) X Y i 0 r → wY_widest_6 post (nI n) p (fun i => iN (X i)) (fun i => iN (Y i)) k l q c (d + 1) (iN r) (nI i) := by
  intro d
  induction d with
  | zero =>
    intro i e r z
    have e' : i = n := by omega
    subst e'
    exact br_t (nI_le (by omega) (by omega)) (h r z)
  | succ d ih =>
    intro i e r z
    exact br_f (nI_ge (by omega) (by omega)) ⟨i + 1, yl_wi16 g hn (by omega) (fun r' z' => ih (i + 1) (by omega) r' ⟨fun i' j' a u => z'.1 i' j' a (by omega), z'.2⟩) i 0 (by omega) r z⟩
theorem dd_sw (i j : Nat) : dd X Y i j = dd X Y j i := by unfold dd; grind
theorem dd_0 (i j : Nat) : 0 ≤ dd X Y i j := by
  have := al_sq (X i - X j); have := al_sq (Y i - Y j); unfold dd; omega
theorem wi_eq {r r' : Int} (hn : 2 ≤ n) (h : WX n X Y n 0 r) (h' : WY (n := n) X Y n 0 r') : r' = r := by
  have a : ∀ i j, i < j → j < n → dd X Y i j ≤ r := fun i j x y => h.1 i j x y (by omega)
  have b : ∀ i j, i < j → j < n → dd X Y i j ≤ r' := fun i j x y => by rw [dd_sw]; exact h'.1 j i x (by omega)
  have z := dd_0 (X := X) (Y := Y) 0 1
  have a0 := a 0 1 (by omega) (by omega)
  have b0 := b 0 1 (by omega) (by omega)
  have c1 : r' ≤ r := by
    rcases h'.2 with e | ⟨i, j, x, y, e⟩
    · omega
    · rw [e, dd_sw]; exact a j i x y
  have c2 : r ≤ r' := by
    rcases h.2 with e | ⟨i, j, x, y, e⟩
    · omega
    · rw [e]; exact b i j x y
  omega
end
