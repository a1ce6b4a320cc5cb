section
variable {n : Nat} {X Y : Nat → Int} {s t w : Nat → Int32} {post : Int32 → Prop}
theorem xl_p69 {J : Int32 → Prop} {i : Nat} (g : gr X Y) (hn : n ≤ 10) (hi : i < n) (h0 : ∀ j, i < j → j < n → SC n X Y i j → post 0) (hJ : (∀ j, i < j → j < n → ¬ SC n X Y i j) → J (nI (i + 1))) :
    ∀ d j, i < j → j + d = n → (∀ k, i < k → k < j → ¬ SC n X Y i k) → wX_proper_69 post J (nI i) (nI n) (fun i => iN (X i)) (fun i => iN (Y i)) s t w (d + 1) (nI j) := by
  intro d
  induction d with
  | zero => exact fun j hj e a => br_t (nI_le (by omega) (by omega)) (nm_r (nI_1 i) (hJ fun k h1 h2 => a k h1 (by omega)))
  | succ d ih =>
    intro j hj e a
    refine br_f (nI_ge (by omega) (by omega)) (xb_sidesClash g hn hi (by omega) (fun z => bo_1 (h0 j hj (by omega) z)) (fun z => bo_0 (nm_r (nI_1 j) (ih (j + 1) (by omega) (by omega) fun k h1 h2 => ?_))))
    by_cases c : k = j
    · exact c ▸ z
    · exact a k h1 (by omega)
theorem xl_p57 (g : gr X Y) (hn : n ≤ 10) (h0 : ∀ i j, i < j → j < n → SC n X Y i j → post 0) (h1 : (∀ i j, i < j → j < n → ¬ SC n X Y i j) → post 1) :
    ∀ d i, i + d = n → (∀ k j, k < i → k < j → j < n → ¬ SC n X Y k j) → wX_proper_57 post (nI n) (fun i => iN (X i)) (fun i => iN (Y i)) s t w (d + 1) (nI i) := by
  intro d
  induction d with
  | zero => exact fun i e a => br_t (nI_le (by omega) (by omega)) (h1 fun k j h2 h3 => a k j (by omega) h2 h3)
  | succ d ih =>
    intro i e a
    refine br_f (nI_ge (by omega) (by omega)) (nm_r (nI_1 i) ⟨n - (i + 1) + 1, xl_p69 g hn (by omega) (fun j h2 h3 => h0 i j h2 h3) (fun b => ih (i + 1) (by omega) fun k j h2 h3 h4 => ?_) (n - (i + 1)) (i + 1) (by omega) (by omega) (fun k h2 h3 => absurd h2 (by omega))⟩)
    by_cases c : k = i
    · exact c ▸ b j (by omega) h4
    · exact a k j (by omega) h3 h4
theorem xl_p24 {J : Int32 → Prop} {i : Nat} (g : gr X Y) (hn : n ≤ 10) (hi : i < n) (h0 : ∀ j, i < j → j < n → SP X Y i j → post 0) (hJ : (∀ j, i < j → j < n → ¬ SP X Y i j) → J (nI (i + 1))) :
    ∀ d j, i < j → j + d = n → (∀ k, i < k → k < j → ¬ SP X Y i k) → wX_proper_24 post J (nI i) (nI n) (fun i => iN (X i)) (fun i => iN (Y i)) s t w (d + 1) (nI j) := by
  intro d
  induction d with
  | zero => exact fun j hj e a => br_t (nI_le (by omega) (by omega)) (nm_r (nI_1 i) (hJ fun k h1 h2 => a k h1 (by omega)))
  | succ d ih =>
    intro j hj e a
    refine br_f (nI_ge (by omega) (by omega)) (xb_isSamePoint g (by omega) (by omega) (fun z => bo_1 (h0 j hj (by omega) z)) (fun z => bo_0 (nm_r (nI_1 j) (ih (j + 1) (by omega) (by omega) fun k h1 h2 => ?_))))
    by_cases c : k = j
    · exact c ▸ z
    · exact a k h1 (by omega)
theorem xl_p12 (g : gr X Y) (hn : n ≤ 10) (h0 : ∀ i j, i < j → j < n → SP X Y i j → post 0) (h1 : (∀ i j, i < j → j < n → ¬ SP X Y i j) → ∃ m, wX_proper_57 post (nI n) (fun i => iN (X i)) (fun i => iN (Y i)) s t w m 0) :
    ∀ d i, i + d = n → (∀ k j, k < i → k < j → j < n → ¬ SP X Y k j) → wX_proper_12 post (nI n) (fun i => iN (X i)) (fun i => iN (Y i)) s t w (d + 1) (nI i) := by
  intro d
  induction d with
  | zero => exact fun i e a => br_t (nI_le (by omega) (by omega)) (h1 fun k j h2 h3 => a k j (by omega) h2 h3)
  | succ d ih =>
    intro i e a
    refine br_f (nI_ge (by omega) (by omega)) (nm_r (nI_1 i) ⟨n - (i + 1) + 1, xl_p24 g hn (by omega) (fun j h2 h3 => h0 i j h2 h3) (fun b => ih (i + 1) (by omega) fun k j h2 h3 h4 => ?_) (n - (i + 1)) (i + 1) (by omega) (by omega) (fun k h2 h3 => absurd h2 (by omega))⟩)
    by_cases c : k = i
    · exact c ▸ b j (by omega) h4
    · exact a k j (by omega) h3 h4
theorem xb_proper (g : gr X Y) (hn : n ≤ 10) (h1 : PR n X Y → post 1) (h0 : ¬ PR n X Y → post 0) : wpX_proper post (sX n X Y s t w) := by
  refine pk_le 3 n (fun c => ?_) (fun c => h0 fun z => by have := z.1; omega)
  refine ⟨n + 1, xl_p12 g hn (fun i j a b z => h0 fun y => y.2.1 i j a b z) (fun a => ⟨n + 1, ?_⟩) n 0 (by omega) (fun k j h2 => absurd h2 (by omega))⟩
  exact xl_p57 g hn (fun i j a b z => h0 fun y => y.2.2 i j a b z) (fun b => h1 ⟨c, a, b⟩) n 0 (by omega) (fun k j h2 => absurd h2 (by omega))
theorem xb_tog {J : Int32 → Int32 → Prop} {c i : Nat} (hJ : J (nI ((c + 1) % 2)) (nI (i + 1))) : (nI (c % 2) = 0 → (∀ x4, x4 = nI i + 1 → J 1 x4)) ∧ (¬ nI (c % 2) = 0 → (∀ x4, x4 = nI i + 1 → J 0 x4)) := by
  refine pk_eq (c % 2) 0 (fun e => nm_r (nI_1 i) ?_) (fun e => nm_r (nI_1 i) ?_) (hb := by decide)
  · rw [show (c + 1) % 2 = 1 by omega] at hJ; exact hJ
  · rw [show (c + 1) % 2 = 0 by omega] at hJ; exact hJ
theorem xb_pl108 {J : Int32 → Int32 → Prop} {x1 x2 : Int32} {c i : Nat} {ay by' tu : Int} (h1 : sm ay) (h2 : sm by') (h3 : sm tu)
    (hJ : J (nI ((c + ind (¬ (0 < ay ↔ 0 < by') ∧ (0 < tu ↔ 0 < by'))) % 2)) (nI (i + 1))) :
    wX_placeOf_108 post J x1 x2 (nI (c % 2)) (nI i) (iN ay) (iN by') (iN tu) (nI n) (fun i => iN (X i)) (fun i => iN (Y i)) s t w := by
  have e00 : ∀ {A B : Prop}, A → ((0 : Int32) = 0 → A) ∧ (¬ (0 : Int32) = 0 → B) := fun a => br_t rfl a
  have e11 : ∀ {A B : Prop}, A → ((1 : Int32) = 1 → A) ∧ (¬ (1 : Int32) = 1 → B) := fun a => br_t rfl a
  have e01 : ∀ {A B : Prop}, B → ((0 : Int32) = 1 → A) ∧ (¬ (0 : Int32) = 1 → B) := fun a => br_f (by decide) a
  have e10 : ∀ {A B : Prop}, B → ((1 : Int32) = 0 → A) ∧ (¬ (1 : Int32) = 0 → B) := fun a => br_f (by decide) a
  refine xb_pos h2 (fun p1 => ?_) (fun p1 => ?_) <;> refine xb_pos h1 (fun p2 => ?_) (fun p2 => ?_)
  · rw [ind_f (by simp [p1, p2])] at hJ
    exact e11 (nm_r (nI_1 i) hJ)
  · refine e01 (xb_pos h3 (fun p3 => ?_) (fun p3 => ?_))
    · rw [ind_t (by simp [p1, p2, p3])] at hJ
      exact e11 (xb_tog hJ)
    · rw [ind_f (by simp [p1, p2, p3])] at hJ
      exact e01 (nm_r (nI_1 i) hJ)
  · refine e10 (xb_pos h3 (fun p3 => ?_) (fun p3 => ?_))
    · rw [ind_f (by simp [p1, p2, p3])] at hJ
      exact e10 (nm_r (nI_1 i) hJ)
    · rw [ind_t (by simp [p1, p2, p3])] at hJ
      exact e00 (xb_tog hJ)
  · rw [ind_f (by simp [p1, p2])] at hJ
    exact e00 (nm_r (nI_1 i) hJ)
theorem xl_pl5 {x y : Int} (g : gr X Y) (hn : n ≤ 10) (hx : 0 ≤ x ∧ x ≤ 30) (hy : 0 ≤ y ∧ y ≤ 30)
    (h0 : (∃ i, i < n ∧ oE X Y x y i (nx n i)) → post 0) (h1 : (¬ ∃ i, i < n ∧ oE X Y x y i (nx n i)) → pc n X Y x y n % 2 = 1 → post 1) (h2 : (¬ ∃ i, i < n ∧ oE X Y x y i (nx n i)) → ¬ pc n X Y x y n % 2 = 1 → post (-1)) :
    ∀ d i, i + d = n → (∀ k, k < i → ¬ oE X Y x y k (nx n k)) → wX_placeOf_5 post (iN x) (iN y) (nI n) (fun i => iN (X i)) (fun i => iN (Y i)) s t w (d + 1) (nI (pc n X Y x y i % 2)) (nI i) := by
  intro d
  induction d with
  | zero =>
    intro i e a
    have e' : i = n := by omega
    subst e'
    have no : ¬ ∃ k, k < i ∧ oE X Y x y k (nx i k) := fun ⟨k, hk, z⟩ => a k hk z
    refine br_t (nI_le (by omega) (by omega)) (pk_eq (pc i X Y x y i % 2) 0 (fun c => h2 no (by omega)) (fun c => h1 no (by omega)) (hb := by decide))
  | succ d ih =>
    intro i e a
    have hi : i < n := by omega
    have li := nx_lt hi
    have ci : (nI i).toNatClampNeg = i := nI_clamp (by omega)
    have cj : (nI (nx n i)).toNatClampNeg = nx n i := nI_clamp (by omega)
    have g1 := g i
    have g2 := g (nx n i)
    have r1 : -30 ≤ 2 * X i - x ∧ 2 * X i - x ≤ 30 := by omega
    have r2 : -30 ≤ 2 * Y i - y ∧ 2 * Y i - y ≤ 30 := by omega
    have r3 : -30 ≤ 2 * X (nx n i) - x ∧ 2 * X (nx n i) - x ≤ 30 := by omega
    have r4 : -30 ≤ 2 * Y (nx n i) - y ∧ 2 * Y (nx n i) - y ≤ 30 := by omega
    have e1 : 2 * (fun i => iN (X i)) (nI i).toNatClampNeg - iN x = iN (2 * X i - x) := by
      show 2 * iN (X _) - iN x = _
      rw [ci, ie_2, ie_mul, ie_sub]
    have e2 : 2 * (fun i => iN (Y i)) (nI i).toNatClampNeg - iN y = iN (2 * Y i - y) := by
      show 2 * iN (Y _) - iN y = _
      rw [ci, ie_2, ie_mul, ie_sub]
    have e3 : 2 * (fun i => iN (X i)) (nI (nx n i)).toNatClampNeg - iN x = iN (2 * X (nx n i) - x) := by
      show 2 * iN (X _) - iN x = _
      rw [cj, ie_2, ie_mul, ie_sub]
    have e4 : 2 * (fun i => iN (Y i)) (nI (nx n i)).toNatClampNeg - iN y = iN (2 * Y (nx n i) - y) := by
      show 2 * iN (Y _) - iN y = _
      rw [cj, ie_2, ie_mul, ie_sub]
    have ii := vp_in_nI (n := i) (N := 10) (by omega) (by decide)
    have ij := vp_in_nI (n := nx n i) (N := 10) (by omega) (by decide)
    refine br_f (nI_ge (by omega) (by omega)) (xb_next hn hi ⟨ii, nm_r e1 ⟨ii, nm_r e2 ⟨ij, nm_r e3 ⟨ij, nm_r e4 ?_⟩⟩⟩⟩)
    refine nm_r (e' := iN ((2 * X i - x) * (2 * Y (nx n i) - y) - (2 * Y i - y) * (2 * X (nx n i) - x))) (by rw [ie_mul, ie_mul, ie_sub]) ?_
    have hs : ¬ oE X Y x y i (nx n i) → wX_placeOf_108 post (wX_placeOf_5 post (iN x) (iN y) (nI n) (fun i => iN (X i)) (fun i => iN (Y i)) s t w (d + 1)) (iN x) (iN y) (nI (pc n X Y x y i % 2)) (nI i) (iN (2 * Y i - y)) (iN (2 * Y (nx n i) - y)) (iN ((2 * X i - x) * (2 * Y (nx n i) - y) - (2 * Y i - y) * (2 * X (nx n i) - x))) (nI n) (fun i => iN (X i)) (fun i => iN (Y i)) s t w := by
      intro z
      refine xb_pl108 ⟨by omega, by omega⟩ ⟨by omega, by omega⟩ (sm_d r1 r4 r2 r3) ?_
      refine ih (i + 1) (by omega) fun k hk => ?_
      by_cases c : k = i
      · exact c ▸ z
      · exact a k (by omega)
    refine ib_eq _ 0 rfl ie_0 (sm_d r1 r4 r2 r3) (sm_k 0) (fun c1 => ?_) (fun c1 => hs fun z => c1 z.1)
    refine ib_lt 0 ((2 * X i - x) * (2 * X (nx n i) - x) + (2 * Y i - y) * (2 * Y (nx n i) - y)) ie_0 (by rw [ie_mul, ie_mul, ie_add]) (sm_k 0) (sm_s r1 r3 r2 r4) (fun c2 => hs fun z => ?_) (fun c2 => h0 ⟨i, hi, c1, c2⟩)
    have := z.2
    omega
theorem xb_placeOf {x y : Int} (g : gr X Y) (hn : n ≤ 10) (hx : 0 ≤ x ∧ x ≤ 30) (hy : 0 ≤ y ∧ y ≤ 30) (h : post (iN (plv n X Y x y))) : wpX_placeOf post (sX n X Y s t w) (iN x) (iN y) := by
  refine ⟨n + 1, xl_pl5 g hn hx hy (fun z => ?_) (fun z z2 => ?_) (fun z z2 => ?_) n 0 (by omega) (fun k hk => absurd hk (by omega))⟩
  · unfold plv at h; rw [sel_t z] at h; exact h
  · unfold plv at h; rw [sel_f z, sel_t z2] at h; exact h
  · unfold plv at h; rw [sel_f z, sel_f z2] at h; exact h
theorem xl_cut34 {p q : Nat} (g : gr X Y) (hn : n ≤ 10) (hp : p < n) (hq : q < n)
    (h0 : ∀ i, i < n → ¬ (i = p ∨ i = q ∨ nx n i = p ∨ nx n i = q) → LM X Y p q i (nx n i) → post 0)
    (h1 : (∀ i, i < n → ¬ (i = p ∨ i = q ∨ nx n i = p ∨ nx n i = q) → ¬ LM X Y p q i (nx n i)) → (plv n X Y (X p + X q) (Y p + Y q) = 1 → post 1) ∧ (¬ plv n X Y (X p + X q) (Y p + Y q) = 1 → post 0)) :
    ∀ d i, i + d = n → (∀ k, k < i → ¬ (k = p ∨ k = q ∨ nx n k = p ∨ nx n k = q) → ¬ LM X Y p q k (nx n k)) → wX_isCut_34 post (nI p) (nI q) (nI n) (fun i => iN (X i)) (fun i => iN (Y i)) s t w (d + 1) (nI i) := by
  intro d
  induction d with
  | zero =>
    intro i e a
    have ip := vp_in_nI (n := p) (N := 10) (by omega) (by decide)
    have iq := vp_in_nI (n := q) (N := 10) (by omega) (by decide)
    have cp : (nI p).toNatClampNeg = p := nI_clamp (by omega)
    have cq : (nI q).toNatClampNeg = q := nI_clamp (by omega)
    refine br_t (nI_le (by omega) (by omega)) ⟨ip, iq, ip, iq, ?_⟩
    rw [cp, cq]
    show wpX_placeOf _ _ (iN (X p) + iN (X q)) (iN (Y p) + iN (Y q))
    rw [ie_add, ie_add]
    have g1 := g p
    have g2 := g q
    have := h1 fun k hk => a k (by omega)
    refine xb_placeOf g hn (by omega) (by omega) ?_
    refine ib_eq _ 1 rfl ie_1 ?_ (sm_k 1) this.1 this.2
    rcases plv_r (n := n) (X := X) (Y := Y) (x := X p + X q) (y := Y p + Y q) with h | h | h <;> rw [h] <;> exact sm_k _
  | succ d ih =>
    intro i e a
    have hi : i < n := by omega
    have li := nx_lt hi
    have hs : ((i = p ∨ i = q ∨ nx n i = p ∨ nx n i = q) ∨ ¬ LM X Y p q i (nx n i)) → ∀ x, x = nI i + 1 → wX_isCut_34 post (nI p) (nI q) (nI n) (fun i => iN (X i)) (fun i => iN (Y i)) s t w (d + 1) x := by
      intro z
      refine nm_r (nI_1 i) (ih (i + 1) (by omega) fun k hk => ?_)
      by_cases c : k = i
      · subst c; exact fun y => z.resolve_left y
      · exact a k (by omega)
    refine br_f (nI_ge (by omega) (by omega)) (xb_next hn hi ?_)
    refine pk_eq i p (fun c => br_f (by decide) (hs (Or.inl (Or.inl c)))) (fun c1 => ?_)
    refine pk_eq i q (fun c => br_f (by decide) (hs (Or.inl (Or.inr (Or.inl c))))) (fun c2 => ?_)
    refine pk_eq (nx n i) p (fun c => br_f (by decide) (hs (Or.inl (Or.inr (Or.inr (Or.inl c)))))) (fun c3 => ?_)
    refine pk_eq (nx n i) q (fun c => br_f (by decide) (hs (Or.inl (Or.inr (Or.inr (Or.inr c)))))) (fun c4 => ?_)
    refine br_t rfl (xb_linesMeet g (by omega) (by omega) (by omega) (by omega) (fun z => bo_1 (h0 i hi ?_ z)) (fun z => bo_0 (hs (Or.inr z))))
    rintro (y | y | y | y)
    · exact c1 y
    · exact c2 y
    · exact c3 y
    · exact c4 y
theorem xb_isCut {p q : Int32} (g : gr X Y) (hn : n ≤ 10) (h1 : ∀ a b, a < n → b < n → p = nI a → q = nI b → CUX n X Y a b → post 1) (h0 : (∀ a b, a < n → b < n → p = nI a → q = nI b → ¬ CUX n X Y a b) → post 0) : wpX_isCut post (sX n X Y s t w) p q := by
  unfold wpX_isCut
  refine xb_isCorner hn (fun a ha ea => bo_1 ?_) (fun z => bo_0 (h0 fun a b ha _ e _ => absurd e (z a ha)))
  refine xb_isCorner hn (fun b hb eb => bo_1 ?_) (fun z => bo_0 (h0 fun a b _ hb _ e => absurd e (z b hb)))
  subst ea eb
  have h0' : ¬ CUX n X Y a b → post 0 := fun z => h0 fun a' b' ha' hb' e1 e2 => by
    rw [nI_eq (by omega) (by omega)] at e1 e2
    subst e1 e2
    exact z
  have h1' := h1 a b ha hb rfl rfl
  refine pk_eq a b (fun c => h0' fun z => z.1 c) (fun c => ?_)
  refine xb_areNeighbours hn ha hb (fun z => bo_1 (h0' fun y => y.2.1 z)) (fun z => bo_0 ?_)
  refine ⟨n + 1, xl_cut34 g hn ha hb (fun i hi c1 c2 => h0' fun y => y.2.2.1 i hi c1 c2) (fun y => ⟨fun y2 => h1' ⟨c, z, y, y2⟩, fun y2 => h0' fun x => y2 x.2.2.2⟩) n 0 (by omega) (fun k hk => absurd hk (by omega))⟩
end
