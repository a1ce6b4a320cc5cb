noncomputable def fb (p : Prop) : Int32 := nI (ind p)
theorem fb_t {p : Prop} (h : p) : fb p = 1 := by unfold fb; rw [ind_t h]; rfl
theorem fb_f {p : Prop} (h : ¬ p) : fb p = 0 := by unfold fb; rw [ind_f h]; rfl
theorem fb_br {p A B : Prop} (f : p → B) (g : ¬ p → A) : (fb p = 0 → A) ∧ (¬ fb p = 0 → B) := by
  by_cases h : p
  · rw [fb_t h]; exact bo_1 (f h)
  · rw [fb_f h]; exact bo_0 (g h)
theorem fb_c {p q : Prop} (h : p ↔ q) : fb p = fb q := by rw [propext h]
section
variable {n : Nat} {p : Int32} {X Y : Nat → Int} {k l q c : Nat → Int32} {s t w : Nat → Int32} {post : Int32 → Prop}
/-- the shoelace sum over the sides before k -/
def sA (n : Nat) (X Y : Nat → Int) : Nat → Int
  | 0 => 0
  | k + 1 => sA n X Y k + (X k * Y (nx n k) - X (nx n k) * Y k)
theorem gr_X {X Y : Nat → Int} (g : gr X Y) (i : Nat) : -30 ≤ X i ∧ X i ≤ 30 := by have := g i; omega
theorem gr_Y {X Y : Nat → Int} (g : gr X Y) (i : Nat) : -30 ≤ Y i ∧ Y i ≤ 30 := by have := g i; omega
theorem sA_r (g : gr X Y) (k : Nat) : -(1800 * k) ≤ sA n X Y k ∧ sA n X Y k ≤ 1800 * k := by
  induction k with
  | zero => exact ⟨Int.le_refl _, Int.le_refl _⟩
  | succ k ih =>
    have h1 := ra_mul (gr_X g k) (gr_Y g (nx n k))
    have h2 := ra_mul (gr_X g (nx n k)) (gr_Y g k)
    show -(1800 * ((k + 1 : Nat) : Int)) ≤ sA n X Y k + (X k * Y (nx n k) - X (nx n k) * Y k) ∧ sA n X Y k + (X k * Y (nx n k) - X (nx n k) * Y k) ≤ 1800 * ((k + 1 : Nat) : Int)
    omega
theorem xl_sa4 (hn : n ≤ 10) (h : post (iN (sA n X Y n))) :
    ∀ d i, i + d = n → wX_signedArea_4 post (nI n) (fun i => iN (X i)) (fun i => iN (Y i)) s t w (d + 1) (iN (sA n X Y i)) (nI i) := by
  intro d
  induction d with
  | zero =>
    intro i e
    have e' : i = n := by omega
    subst e'
    exact br_t (nI_le (by omega) (by omega)) h
  | succ d ih =>
    intro i e
    have hi : i < n := by omega
    have li := nx_lt hi
    have ci : (nI i).toNatClampNeg = i := nI_clamp (by omega)
    have cj : (nI (nx n i)).toNatClampNeg = nx n i := nI_clamp (by omega)
    have ii := vp_in_nI (n := i) (N := 10) (by omega) (by decide)
    have ij := vp_in_nI (n := nx n i) (N := 10) (by omega) (by decide)
    refine br_f (nI_ge (by omega) (by omega)) (xb_next hn hi ⟨ii, ij, ij, ii, nm_r (e' := iN (sA n X Y (i + 1))) ?_ (nm_r (nI_1 i) (ih (i + 1) (by omega)))⟩)
    rw [ci, cj]
    simp only [ie_mul, ie_sub, ie_add]
    rfl
theorem xb_signedArea (hn : n ≤ 10) (h : post (iN (sA n X Y n))) : wpX_signedArea post (sX n X Y s t w) := ⟨n + 1, xl_sa4 hn h n 0 (by omega)⟩
/-- the turn at the corner behind i -/
def tu (n : Nat) (X Y : Nat → Int) (i : Nat) : Int := tn X Y i (nx n i) (nx n (nx n i))
theorem ex_s {i : Nat} {P : Nat → Prop} : (∃ m, m < i + 1 ∧ P m) ↔ ((∃ m, m < i ∧ P m) ∨ P i) := by
  constructor
  · rintro ⟨m, h1, h2⟩
    by_cases e : m = i
    · exact Or.inr (e ▸ h2)
    · exact Or.inl ⟨m, by omega, h2⟩
  · rintro (⟨m, h1, h2⟩ | h)
    · exact ⟨m, by omega, h2⟩
    · exact ⟨i, by omega, h⟩
theorem xb_cv63 {J : Int32 → Int32 → Int32 → Prop} {R : Prop} {z : Int} {i : Nat} {z0 : Int32} (hz : sm z) (hJ : J z0 (fb (R ∨ z < 0)) (nI (i + 1))) :
    wX_convex_63 post J (fb R) (nI i) (iN z) z0 (nI n) (fun i => iN (X i)) (fun i => iN (Y i)) s t w := by
  refine fb_br (fun r => nm_r (nI_1 i) ?_) (fun r => ib_le 0 z ie_0 rfl (sm_k 0) hz (fun y => nm_r (nI_1 i) ?_) (fun y => nm_r (nI_1 i) ?_))
  · rwa [fb_t (Or.inl r)] at hJ
  · rwa [fb_f (by rintro (x | x); exact r x; omega)] at hJ
  · rwa [fb_t (Or.inr y)] at hJ
theorem yb_cv51 {J : Int32 → Int32 → Int32 → Prop} {R : Prop} {z : Int} {i : Nat} {z0 : Int32} (hz : sm z) (hJ : J z0 (fb (R ∨ z < 0)) (nI (i + 1))) :
    wY_convex_51 post J (fb R) (nI i) (iN z) z0 (nI n) p (fun i => iN (X i)) (fun i => iN (Y i)) k l q c := by
  refine fb_br (fun r => nm_r (nI_1 i) ?_) (fun r => ib_le 0 z ie_0 rfl (sm_k 0) hz (fun y => nm_r (nI_1 i) ?_) (fun y => nm_r (nI_1 i) ?_))
  · rwa [fb_t (Or.inl r)] at hJ
  · rwa [fb_f (by rintro (x | x); exact r x; omega)] at hJ
  · rwa [fb_t (Or.inr y)] at hJ
def CV (n : Nat) (X Y : Nat → Int) : Prop := ¬ ((∃ m, m < n ∧ 0 < tu n X Y m) ∧ (∃ m, m < n ∧ tu n X Y m < 0))
theorem xl_cv15 (g : gr X Y) (hn : n ≤ 10) (h1 : CV n X Y → post 1) (h0 : ¬ CV n X Y → post 0) :
    ∀ d i, i + d = n → wX_convex_15 post (nI n) (fun i => iN (X i)) (fun i => iN (Y i)) s t w (d + 1) (fb (∃ m, m < i ∧ 0 < tu n X Y m)) (fb (∃ m, m < i ∧ tu n X Y m < 0)) (nI i) := by
  intro d
  induction d with
  | zero =>
    intro i e
    have e' : i = n := by omega
    subst e'
    exact br_t (nI_le (by omega) (by omega)) (fb_br (fun a => fb_br (fun b => h0 fun z => z ⟨a, b⟩) (fun b => h1 fun z => b z.2)) (fun a => h1 fun z => a z.1))
  | succ d ih =>
    intro i e
    have hi : i < n := by omega
    have li := nx_lt hi
    have lj := nx_lt li
    have hJ := ih (i + 1) (by omega)
    rw [fb_c (ex_s (P := fun m => 0 < tu n X Y m)), fb_c (ex_s (P := fun m => tu n X Y m < 0))] at hJ
    refine br_f (nI_ge (by omega) (by omega)) (xb_next hn hi (xb_next hn li (xb_turnOf (by omega) (by omega) (by omega) ?_)))
    have hz : sm (tn X Y i (nx n i) (nx n (nx n i))) := tn_sm g _ _ _
    refine fb_br (fun a => xb_cv63 hz ?_) (fun a => xb_pos hz (fun b => xb_cv63 hz ?_) (fun b => xb_cv63 hz ?_))
    · rw [fb_t (Or.inl a)] at hJ; exact hJ
    · rw [fb_t (p := (∃ m, m < i ∧ 0 < tu n X Y m) ∨ 0 < tu n X Y i) (Or.inr b)] at hJ; exact hJ
    · rw [fb_f (p := (∃ m, m < i ∧ 0 < tu n X Y m) ∨ 0 < tu n X Y i) (by rintro (x | x); exact a x; exact b x)] at hJ; exact hJ
theorem yl_cv6 (g : gr X Y) (hn : n ≤ 10) (h1 : PR n X Y → CV n X Y → post 1) (h0 : ¬ (PR n X Y ∧ CV n X Y) → post 0) :
    ∀ d i, i + d = n → wY_convex_6 post (nI n) p (fun i => iN (X i)) (fun i => iN (Y i)) k l q c (d + 1) (fb (∃ m, m < i ∧ 0 < tu n X Y m)) (fb (∃ m, m < i ∧ tu n X Y m < 0)) (nI i) := by
  intro d
  induction d with
  | zero =>
    intro i e
    have e' : i = n := by omega
    subst e'
    refine br_t (nI_le (by omega) (by omega)) (yb_isProper g hn (fun y => bo_1 ?_) (fun y => bo_0 (h0 fun x => y x.1)))
    exact (fb_br (fun a => fb_br (fun b => h0 fun z => z.2 ⟨a, b⟩) (fun b => h1 y fun z => b z.2)) (fun a => h1 y fun z => a z.1))
  | succ d ih =>
    intro i e
    have hi : i < n := by omega
    have li := nx_lt hi
    have lj := nx_lt li
    have z0 : ¬ nI n = 0 := nI_ne0 (by omega) (by omega)
    have hJ := ih (i + 1) (by omega)
    have f1 : (∃ m, m < i + 1 ∧ 0 < tu n X Y m) ↔ ((∃ m, m < i ∧ 0 < tu n X Y m) ∨ 0 < Int.sign (tu n X Y i)) := by rw [sg_pos, ex_s]
    have f2 : (∃ m, m < i + 1 ∧ tu n X Y m < 0) ↔ ((∃ m, m < i ∧ tu n X Y m < 0) ∨ Int.sign (tu n X Y i) < 0) := by rw [sg_neg, ex_s]
    rw [fb_c f1, fb_c f2] at hJ
    refine br_f (nI_ge (by omega) (by omega)) ⟨z0, z0, ?_⟩
    rw [yr_1 hn hi, yr_2 hn hi]
    refine yb_turnOf g (by omega) (by omega) (by omega) ?_
    have hz : sm (Int.sign (tn X Y i (nx n i) (nx n (nx n i)))) := sg_sm _
    refine fb_br (fun a => yb_cv51 hz ?_) (fun a => xb_pos hz (fun b => yb_cv51 hz ?_) (fun b => yb_cv51 hz ?_))
    · rw [fb_t (Or.inl a)] at hJ; exact hJ
    · rw [fb_t (p := (∃ m, m < i ∧ 0 < tu n X Y m) ∨ 0 < Int.sign (tu n X Y i)) (Or.inr b)] at hJ; exact hJ
    · rw [fb_f (p := (∃ m, m < i ∧ 0 < tu n X Y m) ∨ 0 < Int.sign (tu n X Y i)) (by rintro (x | x); exact a x; exact b x)] at hJ; exact hJ
def FI (X Y : Nat → Int) (i : Nat) : Prop := ∀ m, m < i → ¬ SP X Y m i
def HX (n : Nat) (X Y : Nat → Int) (a b : Nat) : Prop := ¬ SP X Y a b ∧ FI X Y a ∧ FI X Y b ∧ ∀ m, m < n → (0 < tn X Y a b m ∨ BT X Y a b m)
def HY (n : Nat) (X Y : Nat → Int) (a b : Nat) : Prop := a ≠ b ∧ FI X Y a ∧ FI X Y b ∧ (∀ m, m < n → (0 < tn X Y a b m ∨ BT X Y a b m)) ∧ ∃ m, m < n ∧ 0 < tn X Y a b m
theorem xl_rep {a : Nat} (g : gr X Y) (ha : a < 10) (h1 : ¬ FI X Y a → post 1) (h0 : FI X Y a → post 0) :
    ∀ d i, i + d = a → (∀ m, m < i → ¬ SP X Y m a) → wX_isRepeated_2 post (nI a) (nI n) (fun i => iN (X i)) (fun i => iN (Y i)) s t w (d + 1) (nI i) := by
  intro d
  induction d with
  | zero => exact fun i e z => br_t (nI_le (by omega) (by omega)) (h0 fun m hm => z m (by omega))
  | succ d ih =>
    intro i e z
    refine br_f (nI_ge (by omega) (by omega)) (xb_isSamePoint g (by omega) ha (fun y => bo_1 (h1 fun x => x i (by omega) y)) (fun y => bo_0 (nm_r (nI_1 i) (ih (i + 1) (by omega) fun m hm => ?_))))
    by_cases e : m = i
    · exact e ▸ y
    · exact z m (by omega)
theorem xb_isRepeated {a : Nat} (g : gr X Y) (ha : a < 10) (h1 : ¬ FI X Y a → post 1) (h0 : FI X Y a → post 0) : wpX_isRepeated post (sX n X Y s t w) (nI a) :=
  ⟨a + 1, xl_rep g ha h1 h0 a 0 (by omega) (fun m hm => absurd hm (by omega))⟩
theorem yl_fst {a : Nat} (g : gr X Y) (ha : a < 10) (h1 : ¬ FI X Y a → post 0) (h0 : FI X Y a → post 1) :
    ∀ d i, i + d = a → (∀ m, m < i → ¬ SP X Y m a) → wY_isFirst_2 post (nI a) (nI n) p (fun i => iN (X i)) (fun i => iN (Y i)) k l q c (d + 1) (nI i) := by
  intro d
  induction d with
  | zero => exact fun i e z => br_t (nI_le (by omega) (by omega)) (h0 fun m hm => z m (by omega))
  | succ d ih =>
    intro i e z
    have ii := vp_in_nI (n := i) (N := 10) (by omega) (by decide)
    have ia := vp_in_nI (n := a) (N := 10) (by omega) (by decide)
    have ci : (nI i).toNatClampNeg = i := nI_clamp (by omega)
    have ca : (nI a).toNatClampNeg = a := nI_clamp (by omega)
    have g1 := g i
    have g2 := g a
    have hs : ¬ SP X Y i a → ∀ x, x = nI i + 1 → wY_isFirst_2 post (nI a) (nI n) p (fun i => iN (X i)) (fun i => iN (Y i)) k l q c (d + 1) x := fun y => nm_r (nI_1 i) (ih (i + 1) (by omega) fun m hm => by
      by_cases e : m = i
      · exact e ▸ y
      · exact z m (by omega))
    refine br_f (nI_ge (by omega) (by omega)) ⟨ii, ia, ib_eq (X i) (X a) (by rw [ci]) (by rw [ca]) ⟨by omega, by omega⟩ ⟨by omega, by omega⟩ (fun e1 => ⟨ii, ia, ib_eq (Y i) (Y a) (by rw [ci]) (by rw [ca]) ⟨by omega, by omega⟩ ⟨by omega, by omega⟩ (fun e2 => h1 fun x => x i (by omega) ⟨e1, e2⟩) (fun e2 => hs fun x => e2 x.2)⟩) (fun e1 => hs fun x => e1 x.1)⟩
theorem yb_isFirst {a : Nat} (g : gr X Y) (ha : a < 10) (h1 : ¬ FI X Y a → post 0) (h0 : FI X Y a → post 1) : wpY_isFirst post (sY n p X Y k l q c) (nI a) :=
  ⟨a + 1, yl_fst g ha h1 h0 a 0 (by omega) (fun m hm => absurd hm (by omega))⟩
theorem xl_hs {a b : Nat} (g : gr X Y) (hn : n ≤ 10) (ha : a < n) (hb : b < n) (h1 : (∀ m, m < n → (0 < tn X Y a b m ∨ BT X Y a b m)) → post 1) (h0 : ¬ (∀ m, m < n → (0 < tn X Y a b m ∨ BT X Y a b m)) → post 0) :
    ∀ d i, i + d = n → (∀ m, m < i → (0 < tn X Y a b m ∨ BT X Y a b m)) → wX_isHullSide_29 post (nI a) (nI b) (nI n) (fun i => iN (X i)) (fun i => iN (Y i)) s t w (d + 1) (nI i) := by
  intro d
  induction d with
  | zero => exact fun i e z => br_t (nI_le (by omega) (by omega)) (h1 fun m hm => z m (by omega))
  | succ d ih =>
    intro i e z
    have hs : (0 < tn X Y a b i ∨ BT X Y a b i) → ∀ x, x = nI i + 1 → wX_isHullSide_29 post (nI a) (nI b) (nI n) (fun i => iN (X i)) (fun i => iN (Y i)) s t w (d + 1) x := fun y => nm_r (nI_1 i) (ih (i + 1) (by omega) fun m hm => by
      by_cases e : m = i
      · exact e ▸ y
      · exact z m (by omega))
    refine br_f (nI_ge (by omega) (by omega)) (xb_turnOf (by omega) (by omega) (by omega) (ib_lt 0 _ ie_0 rfl (sm_k 0) (tn_sm g _ _ _) (fun y => hs (Or.inl y)) (fun y => ?_)))
    refine xb_isBetween g (by omega) (by omega) (by omega) (fun y2 => bo_1 (hs (Or.inr y2))) (fun y2 => bo_0 (h0 fun x => ?_))
    rcases x i (by omega) with x | x
    · omega
    · exact y2 x
theorem xb_isHullSide {a b : Nat} (g : gr X Y) (hn : n ≤ 10) (ha : a < n) (hb : b < n) (h1 : HX n X Y a b → post 1) (h0 : ¬ HX n X Y a b → post 0) : wpX_isHullSide post (sX n X Y s t w) (nI a) (nI b) := by
  unfold wpX_isHullSide
  refine xb_isSamePoint g (by omega) (by omega) (fun y => bo_1 (h0 fun x => x.1 y)) (fun y1 => bo_0 ?_)
  refine xb_isRepeated g (by omega) (fun y => bo_1 (h0 fun x => y x.2.1)) (fun y2 => bo_0 ?_)
  refine xb_isRepeated g (by omega) (fun y => bo_1 (h0 fun x => y x.2.2.1)) (fun y3 => bo_0 ?_)
  exact ⟨n + 1, xl_hs g hn ha hb (fun y => h1 ⟨y1, y2, y3, y⟩) (fun y => h0 fun x => y x.2.2.2) n 0 (by omega) (fun m hm => absurd hm (by omega))⟩
theorem yl_hs {a b : Nat} (g : gr X Y) (hn : n ≤ 10) (ha : a < n) (hb : b < n) (h1 : (∀ m, m < n → (0 < tn X Y a b m ∨ BT X Y a b m)) → (∃ m, m < n ∧ 0 < tn X Y a b m) → post 1) (h0 : ¬ ((∀ m, m < n → (0 < tn X Y a b m ∨ BT X Y a b m)) ∧ (∃ m, m < n ∧ 0 < tn X Y a b m)) → post 0) :
    ∀ d i, i + d = n → (∀ m, m < i → (0 < tn X Y a b m ∨ BT X Y a b m)) → wY_isHullSide_28 post (nI a) (nI b) (nI n) p (fun i => iN (X i)) (fun i => iN (Y i)) k l q c (d + 1) (fb (∃ m, m < i ∧ 0 < tn X Y a b m)) (nI i) := by
  intro d
  induction d with
  | zero =>
    intro i e z
    have e' : i = n := by omega
    subst e'
    refine br_t (nI_le (by omega) (by omega)) ?_
    by_cases y : ∃ m, m < i ∧ 0 < tn X Y a b m
    · rw [fb_t y]; exact ⟨rfl, h1 z y⟩
    · rw [fb_f y]; exact ⟨rfl, h0 fun x => y x.2⟩
  | succ d ih =>
    intro i e z
    have f1 : (∃ m, m < i + 1 ∧ 0 < tn X Y a b m) ↔ ((∃ m, m < i ∧ 0 < tn X Y a b m) ∨ 0 < Int.sign (tn X Y a b i)) := by rw [sg_pos, ex_s]
    have hz : sm (Int.sign (tn X Y a b i)) := sg_sm _
    have hs : (0 < tn X Y a b i ∨ BT X Y a b i) → wY_isHullSide_70 post (wY_isHullSide_28 post (nI a) (nI b) (nI n) p (fun i => iN (X i)) (fun i => iN (Y i)) k l q c (d + 1)) (nI a) (nI b) (fb (∃ m, m < i ∧ 0 < tn X Y a b m)) (nI i) (iN (Int.sign (tn X Y a b i))) (nI n) p (fun i => iN (X i)) (fun i => iN (Y i)) k l q c := by
      intro y
      have hJ := ih (i + 1) (by omega) fun m hm => by
        by_cases e : m = i
        · exact e ▸ y
        · exact z m (by omega)
      rw [fb_c f1] at hJ
      refine fb_br (fun x => nm_r (nI_1 i) ?_) (fun x => xb_pos hz (fun b => nm_r (nI_1 i) ?_) (fun b => nm_r (nI_1 i) ?_))
      · rwa [fb_t (Or.inl x)] at hJ
      · rwa [fb_t (Or.inr b)] at hJ
      · rwa [fb_f (by rintro (u | u); exact x u; exact b u)] at hJ
    have no : ¬ 0 < tn X Y a b i → ¬ BT X Y a b i → post 0 := fun y1 y2 => h0 fun x => (x.1 i (by omega)).elim y1 y2
    refine br_f (nI_ge (by omega) (by omega)) (yb_turnOf g (by omega) (by omega) (by omega) (ib_lt _ 0 rfl ie_0 hz (sm_k 0) (fun y => ?_) (fun y => ib_eq _ 0 rfl ie_0 hz (sm_k 0) (fun y2 => ?_) (fun y2 => hs (Or.inl ?_)))))
    · have := (sg_neg _).mp y
      exact no (by omega) fun x => by have := ((bt_y _ _ _).mp x).2.2; omega
    · have := (sg_0 _).mp y2
      exact yb_isBetween g (by omega) (by omega) (by omega) (fun y3 => bo_1 (hs (Or.inr y3))) (fun y3 => bo_0 (no (by omega) y3))
    · exact (sg_pos _).mp (by omega)
theorem yb_isHullSide {a b : Nat} (g : gr X Y) (hn : n ≤ 10) (ha : a < n) (hb : b < n) (h1 : HY n X Y a b → post 1) (h0 : ¬ HY n X Y a b → post 0) : wpY_isHullSide post (sY n p X Y k l q c) (nI a) (nI b) := by
  refine pk_eq a b (fun y => h0 fun x => x.1 y) (fun y1 => ?_)
  refine yb_isFirst g (by omega) (fun y => bo_0 (h0 fun x => y x.2.1)) (fun y2 => bo_1 ?_)
  refine yb_isFirst g (by omega) (fun y => bo_0 (h0 fun x => y x.2.2.1)) (fun y3 => bo_1 ?_)
  refine ⟨n + 1, ?_⟩
  have := yl_hs (p := p) (k := k) (l := l) (q := q) (c := c) g hn ha hb (fun y z => h1 ⟨y1, y2, y3, y, z⟩) (fun y => h0 fun x => y x.2.2.2) n 0 (by omega) (fun m hm => absurd hm (by omega))
  rw [fb_f (by rintro ⟨m, hm, _⟩; omega)] at this
  exact this
end
