section
variable {n : Nat} {p : Int32} {X Y : Nat → Int} {k l q c : Nat → Int32} {s t w : Nat → Int32} {post : Int32 → Prop}
def BAD (n : Nat) (X Y : Nat → Int) (a b i : Nat) : Prop := (i ≠ a ∧ i ≠ b ∧ BT X Y a b i) ∨ (¬ (i = a ∨ i = b ∨ nx n i = a ∨ nx n i = b) ∧ LM X Y a b i (nx n i))
theorem yl_cut44 {a b : Nat} (g : gr X Y) (hn : n ≤ 10) (ha : a < n) (hb : b < n)
    (h0 : ∀ i, i < n → BAD n X Y a b i → post 0)
    (h1 : (∀ i, i < n → ¬ BAD n X Y a b i) → (plv n X Y (X a + X b) (Y a + Y b) = 1 → post 1) ∧ (¬ plv n X Y (X a + X b) (Y a + Y b) = 1 → post 0)) :
    ∀ d i, i + d = n → (∀ m, m < i → ¬ BAD n X Y a b m) → wY_isCut_44 post (nI a) (nI b) (nI n) p (fun i => iN (X i)) (fun i => iN (Y i)) k l q c (d + 1) (nI i) := by
  intro d
  induction d with
  | zero =>
    intro i e z
    have ia := vp_in_nI (n := a) (N := 10) (by omega) (by decide)
    have ib := vp_in_nI (n := b) (N := 10) (by omega) (by decide)
    have ca : (nI a).toNatClampNeg = a := nI_clamp (by omega)
    have cb : (nI b).toNatClampNeg = b := nI_clamp (by omega)
    refine br_t (nI_le (by omega) (by omega)) ⟨ia, ib, ia, ib, ?_⟩
    rw [ca, cb]
    show wpY_place _ _ (iN (X a) + iN (X b)) (iN (Y a) + iN (Y b))
    rw [ie_add, ie_add]
    have g1 := g a
    have g2 := g b
    have := h1 fun m hm => z m (by omega)
    refine yb_place g hn (by omega) (by omega) ?_
    refine ib_eq _ 1 rfl ie_1 ?_ (sm_k 1) this.1 this.2
    rcases plv_r (n := n) (X := X) (Y := Y) (x := X a + X b) (y := Y a + Y b) with h | h | h <;> rw [h] <;> exact sm_k _
  | succ d ih =>
    intro i e z
    have hi : i < n := by omega
    have li := nx_lt hi
    have hs : ¬ BAD n X Y a b i → ∀ x, x = nI i + 1 → wY_isCut_44 post (nI a) (nI b) (nI n) p (fun i => iN (X i)) (fun i => iN (Y i)) k l q c (d + 1) x := by
      intro y
      refine nm_r (nI_1 i) (ih (i + 1) (by omega) fun m hm => ?_)
      by_cases cc : m = i
      · subst cc; exact y
      · exact z m (by omega)
    have s118 : ∀ z0 : Int32, (z0 = 0 ↔ (i = a ∨ i = b ∨ nx n i = a ∨ nx n i = b)) → ¬ (i ≠ a ∧ i ≠ b ∧ BT X Y a b i) → wY_isCut_118 post (wY_isCut_44 post (nI a) (nI b) (nI n) p (fun i => iN (X i)) (fun i => iN (Y i)) k l q c (d + 1)) (nI a) (nI b) (nI i) (nI (nx n i)) z0 (nI n) p (fun i => iN (X i)) (fun i => iN (Y i)) k l q c := by
      intro z0 hz hb1
      refine br_c (fun y => hs ?_) (fun y => yb_meet g (by omega) (by omega) (by omega) (by omega) (fun y2 => bo_1 (h0 i hi (Or.inr ⟨fun y3 => y (hz.mpr y3), y2⟩))) (fun y2 => bo_0 (hs ?_)))
      · rintro (x | x)
        · exact hb1 x
        · exact x.1 (hz.mp y)
      · rintro (x | x)
        · exact hb1 x
        · exact y2 x.2
    have s93 : ∀ z0 : Int32, (z0 = 0 ↔ (i = a ∨ i = b ∨ nx n i = a ∨ nx n i = b)) → wY_isCut_93 post (wY_isCut_44 post (nI a) (nI b) (nI n) p (fun i => iN (X i)) (fun i => iN (Y i)) k l q c (d + 1)) (nI a) (nI b) (nI i) (nI (nx n i)) z0 (nI n) p (fun i => iN (X i)) (fun i => iN (Y i)) k l q c := by
      intro z0 hz
      refine pk_eq i a (fun y => s118 z0 hz fun x => x.1 y) (fun y1 => pk_eq i b (fun y => s118 z0 hz fun x => x.2.1 y) (fun y2 => ?_))
      exact yb_isBetween g (by omega) (by omega) (by omega) (fun y3 => bo_1 (h0 i hi (Or.inl ⟨y1, y2, y3⟩))) (fun y3 => bo_0 (s118 z0 hz fun x => y3 x.2.2))
    refine br_f (nI_ge (by omega) (by omega)) ⟨nI_ne0 (by omega) (by omega), nm_r (yr_1 hn hi) ?_⟩
    refine pk_eq i a (fun y => s93 0 ⟨fun _ => Or.inl y, fun _ => rfl⟩) (fun c1 => ?_)
    refine pk_eq i b (fun y => s93 0 ⟨fun _ => Or.inr (Or.inl y), fun _ => rfl⟩) (fun c2 => ?_)
    refine pk_eq (nx n i) a (fun y => s93 0 ⟨fun _ => Or.inr (Or.inr (Or.inl y)), fun _ => rfl⟩) (fun c3 => ?_)
    refine pk_eq (nx n i) b (fun y => s93 0 ⟨fun _ => Or.inr (Or.inr (Or.inr y)), fun _ => rfl⟩) (fun c4 => ?_)
    refine s93 1 ⟨fun y => absurd y (by decide), ?_⟩
    rintro (y | y | y | y)
    · exact absurd y c1
    · exact absurd y c2
    · exact absurd y c3
    · exact absurd y c4
theorem yb_isCut {a b : Nat} (g : gr X Y) (hn : n ≤ 10) (ha : a < n) (hb : b < n) (h1 : CUX n X Y a b → post 1) (h0 : ¬ CUX n X Y a b → post 0) : wpY_isCut post (sY n p X Y k l q c) (nI a) (nI b) := by
  rw [cu_eq ha hb] at h1 h0
  have la := nx_lt ha
  have lb := nx_lt hb
  have z : ¬ nI n = 0 := nI_ne0 (by omega) (by omega)
  have s24 : (nx n a = b ∨ nx n b = a) → wY_isCut_24 post (nI a) (nI b) (nI n) p (fun i => iN (X i)) (fun i => iN (Y i)) k l q c := fun y =>
    br_c (fun _ => h0 fun x => x.2.1 y) (fun _ => br_f (by decide) (h0 fun x => x.2.1 y))
  refine ⟨z, pk_eq (nx n a) b (fun y => s24 (Or.inl y)) (fun c1 => ⟨z, pk_eq (nx n b) a (fun y => s24 (Or.inr y)) (fun c2 => ?_) (hx := yr_1 hn hb)⟩) (hx := yr_1 hn ha)⟩
  refine pk_eq a b (fun y => h0 fun x => x.1 y) (fun y => br_t rfl ⟨n + 1, yl_cut44 g hn ha hb (fun i hi z => h0 fun x => x.2.2.1 i hi z) (fun z => ⟨fun z2 => h1 ⟨y, ?_, z, z2⟩, fun z2 => h0 fun x => z2 x.2.2.2⟩) n 0 (by omega) (fun m hm => absurd hm (by omega))⟩)
  rintro (x | x)
  · exact c1 x
  · exact c2 x
def CT (n : Nat) (X Y : Nat → Int) (z1 z2 : Int32) : Prop := PR n X Y ∧ ∃ a b, a < n ∧ b < n ∧ z1 = nI a ∧ z2 = nI b ∧ CUX n X Y a b
theorem ct_n {a b : Nat} (hn : n ≤ 10) (ha : a < n) (hb : b < n) (h : CT n X Y (nI a) (nI b)) : CUX n X Y a b := by
  obtain ⟨_, a', b', ha', hb', e1, e2, z⟩ := h
  rw [nI_eq (by omega) (by omega)] at e1 e2
  subst e1 e2
  exact z
theorem xb_cut {z1 z2 : Int32} (g : gr X Y) (hn : n ≤ 10) (h1 : CT n X Y z1 z2 → post 1) (h0 : ¬ CT n X Y z1 z2 → post 0) : wpX_cut post (sX n X Y s t w) z1 z2 := by
  unfold wpX_cut
  refine xb_proper g hn (fun y => bo_1 ?_) (fun y => bo_0 (h0 fun x => y x.1))
  refine xb_isCut g hn (fun a b ha hb e1 e2 z => bo_1 (h1 ⟨y, a, b, ha, hb, e1, e2, z⟩)) (fun z => bo_0 (h0 fun ⟨_, a, b, ha, hb, e1, e2, x⟩ => z a b ha hb e1 e2 x))
theorem yb_cut {z1 z2 : Int32} (g : gr X Y) (hn : n ≤ 10) (h1 : CT n X Y z1 z2 → post 1) (h0 : ¬ CT n X Y z1 z2 → post 0) : wpY_cut post (sY n p X Y k l q c) z1 z2 := by
  unfold wpY_cut
  refine yb_isCorner hn (fun a ha ea => bo_1 ?_) (fun z => bo_0 (h0 fun ⟨_, a, b, ha, hb, e1, e2, x⟩ => z a ha e1))
  refine yb_isCorner hn (fun b hb eb => bo_1 ?_) (fun z => bo_0 (h0 fun ⟨_, a, b, ha, hb, e1, e2, x⟩ => z b hb e2))
  subst ea eb
  refine yb_isProper g hn (fun y => bo_1 ?_) (fun y => bo_0 (h0 fun x => y x.1))
  exact yb_isCut g hn ha hb (fun z => bo_1 (h1 ⟨y, a, b, ha, hb, rfl, rfl, z⟩)) (fun z => bo_0 (h0 fun x => z (ct_n hn ha hb x)))
end
/-- how many below m -/
noncomputable def cn (f : Nat → Prop) : Nat → Nat
  | 0 => 0
  | m + 1 => cn f m + ind (f m)
theorem ind_le (p : Prop) : ind p ≤ 1 := by
  by_cases h : p
  · rw [ind_t h]; omega
  · rw [ind_f h]; omega
theorem cn_le (f : Nat → Prop) (m : Nat) : cn f m ≤ m := by
  induction m with
  | zero => exact Nat.le_refl 0
  | succ m ih =>
    have := ind_le (f m)
    show cn f m + ind (f m) ≤ m + 1
    omega
theorem cn_c {f f' : Nat → Prop} {m : Nat} (h : ∀ i, i < m → (f i ↔ f' i)) : cn f m = cn f' m := by
  induction m with
  | zero => rfl
  | succ m ih =>
    show cn f m + ind (f m) = cn f' m + ind (f' m)
    rw [ih fun i hi => h i (by omega), ind_c (h m (by omega))]
section
variable {n : Nat} {p : Int32} {X Y : Nat → Int} {k l q c : Nat → Int32} {s t w : Nat → Int32} {post : Int32 → Prop}
/-- the points of the grid with the place v -/
def PT (n : Nat) (X Y : Nat → Int) (v : Int) (i : Nat) : Prop := plv n X Y (2 * ((i % 16 : Nat) : Int)) (2 * ((i / 16 : Nat) : Int)) = v
theorem plv_sm {x y : Int} : sm (plv n X Y x y) := by
  rcases plv_r (n := n) (X := X) (Y := Y) (x := x) (y := y) with h | h | h <;> rw [h] <;> exact sm_k _
theorem xl_cp13 {J : Int32 → Int32 → Prop} {v : Int} {y : Nat} (g : gr X Y) (hn : n ≤ 10) (hv : sm v) (hy : y < 16) (hJ : J (nI (cn (PT n X Y v) (16 * (y + 1)))) (nI (y + 1))) :
    ∀ d x, x + d = 16 → wX_countPoints_13 post J (iN v) (nI y) (nI n) (fun i => iN (X i)) (fun i => iN (Y i)) s t w (d + 1) (nI (cn (PT n X Y v) (16 * y + x))) (nI x) := by
  intro d
  induction d with
  | zero =>
    intro x e
    have e' : x = 16 := by omega
    subst e'
    exact br_t (nI_le (a := 16) (b := 16) (by omega) (by omega)) (nm_r (nI_1 y) hJ)
  | succ d ih =>
    intro x e
    have e1 : 2 * nI x = iN (2 * (((16 * y + x) % 16 : Nat) : Int)) := by
      rw [show (16 * y + x) % 16 = x by omega, ie_nI, ie_2, ie_mul]
    have e2 : 2 * nI y = iN (2 * (((16 * y + x) / 16 : Nat) : Int)) := by
      rw [show (16 * y + x) / 16 = y by omega, ie_nI, ie_2, ie_mul]
    refine br_f (nI_ge (b := 16) (by omega) (by omega)) ?_
    rw [e1, e2]
    have hs := ih (x + 1) (by omega)
    rw [show 16 * y + (x + 1) = (16 * y + x) + 1 by omega] at hs
    refine xb_placeOf g hn (by omega) (by omega) (ib_eq _ v rfl rfl plv_sm hv (fun z => ?_) (fun z => ?_))
    · have hs' : wX_countPoints_13 post J (iN v) (nI y) (nI n) (fun i => iN (X i)) (fun i => iN (Y i)) s t w (d + 1) (nI (cn (PT n X Y v) (16 * y + x) + ind (PT n X Y v (16 * y + x)))) (nI (x + 1)) := hs
      rw [ind_t (p := PT n X Y v (16 * y + x)) z] at hs'
      exact nm_r (nI_1 _) (nm_r (nI_1 x) hs')
    · have hs' : wX_countPoints_13 post J (iN v) (nI y) (nI n) (fun i => iN (X i)) (fun i => iN (Y i)) s t w (d + 1) (nI (cn (PT n X Y v) (16 * y + x) + ind (PT n X Y v (16 * y + x)))) (nI (x + 1)) := hs
      rw [ind_f (p := PT n X Y v (16 * y + x)) z] at hs'
      exact nm_r (nI_1 x) hs'
theorem xl_cp4 {v : Int} (g : gr X Y) (hn : n ≤ 10) (hv : sm v) (h : post (nI (cn (PT n X Y v) 256))) :
    ∀ d y, y + d = 16 → wX_countPoints_4 post (iN v) (nI n) (fun i => iN (X i)) (fun i => iN (Y i)) s t w (d + 1) (nI (cn (PT n X Y v) (16 * y))) (nI y) := by
  intro d
  induction d with
  | zero =>
    intro y e
    have e' : y = 16 := by omega
    subst e'
    exact br_t (nI_le (a := 16) (b := 16) (by omega) (by omega)) h
  | succ d ih =>
    intro y e
    exact br_f (nI_ge (b := 16) (by omega) (by omega)) ⟨17, xl_cp13 g hn hv (by omega) (ih (y + 1) (by omega)) 16 0 (by omega)⟩
theorem xb_countPoints {v : Int} (g : gr X Y) (hn : n ≤ 10) (hv : sm v) (h : post (nI (cn (PT n X Y v) 256))) : wpX_countPoints post (sX n X Y s t w) (iN v) :=
  ⟨17, xl_cp4 g hn hv h 16 0 (by omega)⟩
theorem yl_cp4 {v : Int} (g : gr X Y) (hn : n ≤ 10) (hv : sm v) (h : post (nI (cn (PT n X Y v) 256))) :
    ∀ d i, i + d = 256 → wY_countPlaces_4 post (iN v) (nI n) p (fun i => iN (X i)) (fun i => iN (Y i)) k l q c (d + 1) (nI (cn (PT n X Y v) i)) (nI i) := by
  intro d
  induction d with
  | zero =>
    intro i e
    have e' : i = 256 := by omega
    subst e'
    exact br_t (nI_le (a := 256) (b := 256) (by omega) (by omega)) h
  | succ d ih =>
    intro i e
    have z16 : ¬ (16 : Int32) = 0 := by decide
    have e1 : 2 * (nI i - nI i / 16 * 16) = iN (2 * ((i % 16 : Nat) : Int)) := by
      rw [show nI i - nI i / 16 * 16 = nI (i % 16) from pk_rem (d := 16) (by omega) (by omega) (by omega), ie_nI, ie_2, ie_mul]
    have e2 : nI i / 16 * 2 = iN (2 * ((i / 16 : Nat) : Int)) := by
      rw [show nI i / 16 = nI (i / 16) from pk_div (d := 16) (by omega) (by omega) (by omega), ie_nI, ie_2, ie_mul, Int.mul_comm]
    refine br_f (nI_ge (b := 256) (by omega) (by omega)) ⟨z16, z16, ?_⟩
    rw [e1, e2]
    have hs : wY_countPlaces_4 post (iN v) (nI n) p (fun i => iN (X i)) (fun i => iN (Y i)) k l q c (d + 1) (nI (cn (PT n X Y v) i + ind (PT n X Y v i))) (nI (i + 1)) := ih (i + 1) (by omega)
    refine yb_place g hn (by omega) (by omega) (ib_eq _ v rfl rfl plv_sm hv (fun z => ?_) (fun z => ?_))
    · rw [ind_t (p := PT n X Y v i) z] at hs
      exact nm_r (nI_1 _) (nm_r (nI_1 i) hs)
    · rw [ind_f (p := PT n X Y v i) z] at hs
      exact nm_r (nI_1 i) hs
theorem yb_countPlaces {v : Int} (g : gr X Y) (hn : n ≤ 10) (hv : sm v) (h : post (nI (cn (PT n X Y v) 256))) : wpY_countPlaces post (sY n p X Y k l q c) (iN v) :=
  ⟨257, yl_cp4 g hn hv h 256 0 (by omega)⟩
end
