section
variable {n : Nat} {X Y : Nat → Int} {s t w : Nat → Int32} {post : Int32 → Prop}
theorem xb_isPoint {p : Int32} (h1 : (0 ≤ p.toInt ∧ p.toInt < 256) → post 1) (h0 : ¬ (0 ≤ p.toInt ∧ p.toInt < 256) → post 0) : wpX_isPoint post p := by
  have e0 : (0 : Int32).toInt = 0 := by decide
  have e1 : (256 : Int32).toInt = 256 := by decide
  refine br_c (fun a => h0 ?_) (fun a => br_c (fun b => h0 ?_) (fun b => h1 ?_))
  · rw [Int32.lt_iff_toInt_lt, e0] at a; omega
  · rw [Int32.le_iff_toInt_le, e1] at b; omega
  · rw [Int32.lt_iff_toInt_lt, e0] at a; rw [Int32.le_iff_toInt_le, e1] at b; omega
theorem xb_isCorner {p : Int32} (hn : n ≤ 10) (h1 : ∀ a, a < n → p = nI a → post 1) (h0 : (∀ a, a < n → p ≠ nI a) → post 0) : wpX_isCorner post (sX n X Y s t w) p := by
  show (p < 0 → post 0) ∧ (¬ p < 0 → (nI n ≤ p → post 0) ∧ (¬ nI n ≤ p → post 1))
  rcases pk_ix p (n := n) (by omega) with h | h | ⟨j, hj, rfl⟩
  · exact br_t h (h0 fun a ha e => by subst e; exact nI_pos (by omega) h)
  · refine br_c (fun _ => ?_) (fun _ => br_t h ?_) <;> exact h0 fun a ha e => by subst e; exact nI_ge ha (by omega) h
  · exact br_f (nI_pos (by omega)) (br_f (nI_ge hj (by omega)) (h1 j hj rfl))
theorem xb_next {i : Nat} (hn : n ≤ 10) (hi : i < n) (h : post (nI (nx n i))) : wpX_next post (sX n X Y s t w) (nI i) := by
  show (nI n ≤ nI i + 1 → post 0) ∧ (¬ nI n ≤ nI i + 1 → post (nI i + 1))
  rw [nI_1]
  unfold nx at h
  by_cases c : i + 1 < n
  · rw [if_pos c] at h
    exact br_f (nI_ge c (by omega)) h
  · rw [if_neg c] at h
    exact br_t (nI_le (by omega) (by omega)) h
theorem xb_isSamePoint {a b : Nat} (g : gr X Y) (ha : a < 10) (hb : b < 10) (h1 : SP X Y a b → post 1) (h0 : ¬ SP X Y a b → post 0) : wpX_isSamePoint post (sX n X Y s t w) (nI a) (nI b) := by
  have ia := vp_in_nI ha (by decide : 10 < 2 ^ 31)
  have ib := vp_in_nI hb (by decide : 10 < 2 ^ 31)
  have g1 := g a
  have g2 := g b
  simp only [wpX_isSamePoint, nI_clamp (n := a) (by omega), nI_clamp (n := b) (by omega)]
  refine ⟨ia, ib, ib_eq (X a) (X b) rfl rfl ⟨by omega, by omega⟩ ⟨by omega, by omega⟩ (fun e => ⟨ia, ib, ib_eq (Y a) (Y b) rfl rfl ⟨by omega, by omega⟩ ⟨by omega, by omega⟩ (fun e2 => h1 ⟨e, e2⟩) (fun e2 => h0 fun z => e2 z.2)⟩) (fun e => h0 fun z => e z.1)⟩
theorem xb_turnOf {a b c : Nat} (ha : a < 10) (hb : b < 10) (hc : c < 10) (h : post (iN (tn X Y a b c))) : wpX_turnOf post (sX n X Y s t w) (nI a) (nI b) (nI c) := by
  have ia := vp_in_nI ha (by decide : 10 < 2 ^ 31)
  have ib := vp_in_nI hb (by decide : 10 < 2 ^ 31)
  have ic := vp_in_nI hc (by decide : 10 < 2 ^ 31)
  simp only [wpX_turnOf, nI_clamp (n := a) (by omega), nI_clamp (n := b) (by omega), nI_clamp (n := c) (by omega), ie_sub, ie_mul]
  exact ⟨ib, ia, ic, ia, ib, ia, ic, ia, h⟩
theorem xb_isBetween {a b c : Nat} (g : gr X Y) (ha : a < 10) (hb : b < 10) (hc : c < 10) (h1 : BT X Y a b c → post 1) (h0 : ¬ BT X Y a b c → post 0) : wpX_isBetween post (sX n X Y s t w) (nI a) (nI b) (nI c) := by
  have ia := vp_in_nI ha (by decide : 10 < 2 ^ 31)
  have ib := vp_in_nI hb (by decide : 10 < 2 ^ 31)
  have ic := vp_in_nI hc (by decide : 10 < 2 ^ 31)
  simp only [wpX_isBetween, nI_clamp (n := a) (by omega), nI_clamp (n := b) (by omega), nI_clamp (n := c) (by omega), ie_sub]
  refine ⟨ia, ic, nm_e ⟨ia, ic, nm_e ⟨ib, ic, nm_e ⟨ib, ic, nm_e ?_⟩⟩⟩⟩
  refine ib_eq _ _ (ie_mul _ _) (ie_mul _ _) (sm_m (gr_x g _ _) (gr_y g _ _)) (sm_m (gr_y g _ _) (gr_x g _ _)) (fun e => ?_) (fun e => h0 fun z => e z.1)
  simp only [ie_mul, ie_add]
  refine ib_lt 0 _ ie_0 rfl (sm_k 0) (sm_s (gr_x g _ _) (gr_x g _ _) (gr_y g _ _) (gr_y g _ _)) (fun e2 => h0 fun z => ?_) (fun e2 => h1 ⟨e, e2⟩)
  have := z.2
  omega
theorem xb_pos {z : Int} {A B : Prop} (hz : sm z) (f : 0 < z → B) (g : ¬ 0 < z → A) : (iN z ≤ 0 → A) ∧ (¬ iN z ≤ 0 → B) :=
  ib_le z 0 rfl ie_0 hz (sm_k 0) (fun h => g (by omega)) f
/-- the last half of linesMeet: the four turns -/
theorem xb_lm2 {a b c d : Nat} (g : gr X Y) (ha : a < 10) (hb : b < 10) (hc : c < 10) (hd : d < 10)
    (h1 : (¬ (0 < tn X Y a b c ↔ 0 < tn X Y a b d) ∧ ¬ (0 < tn X Y c d a ↔ 0 < tn X Y c d b)) → post 1)
    (h0 : ¬ (¬ (0 < tn X Y a b c ↔ 0 < tn X Y a b d) ∧ ¬ (0 < tn X Y c d a ↔ 0 < tn X Y c d b)) → post 0) :
    wpX_turnOf (fun r_33 => (((r_33 ≤ 0 → (wX_linesMeet_60 post (nI a) (nI b) (nI c) (nI d) 0 (nI n) (fun i => iN (X i)) (fun i => iN (Y i)) s t w)) ∧ (¬ r_33 ≤ 0 → (wX_linesMeet_60 post (nI a) (nI b) (nI c) (nI d) 1 (nI n) (fun i => iN (X i)) (fun i => iN (Y i)) s t w))))) (sX n X Y s t w) (nI a) (nI b) (nI c) := by
  have e00 : ∀ {A B : Prop}, A → ((0 : Int32) = 0 → A) ∧ (¬ (0 : Int32) = 0 → B) := fun a => br_t rfl a
  have e11 : ∀ {A B : Prop}, A → ((1 : Int32) = 1 → A) ∧ (¬ (1 : Int32) = 1 → B) := fun a => br_t rfl a
  have e01 : ∀ {A B : Prop}, B → ((0 : Int32) = 1 → A) ∧ (¬ (0 : Int32) = 1 → B) := fun a => br_f (by decide) a
  have e10 : ∀ {A B : Prop}, B → ((1 : Int32) = 0 → A) ∧ (¬ (1 : Int32) = 0 → B) := fun a => br_f (by decide) a
  refine xb_turnOf ha hb hc (xb_pos (tn_sm g _ _ _) (fun p1 => ?_) (fun p1 => ?_)) <;>
  refine xb_turnOf ha hb hd (xb_pos (tn_sm g _ _ _) (fun p2 => ?_) (fun p2 => ?_)) <;>
  refine xb_turnOf hc hd ha (xb_pos (tn_sm g _ _ _) (fun p3 => ?_) (fun p3 => ?_)) <;>
  refine xb_turnOf hc hd hb (xb_pos (tn_sm g _ _ _) (fun p4 => ?_) (fun p4 => ?_)) <;>
  unfold wX_linesMeet_114 <;>
  first
    | exact e00 (h0 (by simp [p1, p2, p3, p4]))
    | exact e11 (h0 (by simp [p1, p2, p3, p4]))
    | exact e01 (e00 (h0 (by simp [p1, p2, p3, p4])))
    | exact e01 (e11 (h0 (by simp [p1, p2, p3, p4])))
    | exact e10 (e00 (h0 (by simp [p1, p2, p3, p4])))
    | exact e10 (e11 (h0 (by simp [p1, p2, p3, p4])))
    | exact e01 (e01 (h1 (by simp [p1, p2, p3, p4])))
    | exact e01 (e10 (h1 (by simp [p1, p2, p3, p4])))
    | exact e10 (e01 (h1 (by simp [p1, p2, p3, p4])))
    | exact e10 (e10 (h1 (by simp [p1, p2, p3, p4])))
theorem xb_linesMeet {a b c d : Nat} (g : gr X Y) (ha : a < 10) (hb : b < 10) (hc : c < 10) (hd : d < 10) (h1 : LM X Y a b c d → post 1) (h0 : ¬ LM X Y a b c d → post 0) : wpX_linesMeet post (sX n X Y s t w) (nI a) (nI b) (nI c) (nI d) := by
  unfold wpX_linesMeet
  refine xb_isBetween g ha hb hc (fun z => bo_1 (h1 (Or.inl z))) (fun z1 => bo_0 ?_)
  refine xb_isBetween g ha hb hd (fun z => bo_1 (h1 (Or.inr (Or.inl z)))) (fun z2 => bo_0 ?_)
  refine xb_isBetween g hc hd ha (fun z => bo_1 (h1 (Or.inr (Or.inr (Or.inl z))))) (fun z3 => bo_0 ?_)
  refine xb_isBetween g hc hd hb (fun z => bo_1 (h1 (Or.inr (Or.inr (Or.inr (Or.inl z)))))) (fun z4 => bo_0 ?_)
  exact xb_lm2 g ha hb hc hd (fun z => h1 (Or.inr (Or.inr (Or.inr (Or.inr z))))) (fun z => h0 fun y => by
    rcases y with y | y | y | y | y
    · exact z1 y
    · exact z2 y
    · exact z3 y
    · exact z4 y
    · exact z y)
theorem xb_sidesClash {i j : Nat} (g : gr X Y) (hn : n ≤ 10) (hi : i < n) (hj : j < n) (h1 : SC n X Y i j → post 1) (h0 : ¬ SC n X Y i j → post 0) : wpX_sidesClash post (sX n X Y s t w) (nI i) (nI j) := by
  have li := nx_lt hi
  have lj := nx_lt hj
  have k1 : narrow .boolean (.int 1) = .int 1 := rfl
  have k0 : narrow .boolean (.int 0) = .int 0 := rfl
  unfold wpX_sidesClash
  refine xb_next hn hi (xb_next hn hj ?_)
  refine pk_eq (nx n i) j (fun e => ?_) (fun e => pk_eq (nx n j) i (fun e2 => ?_) (fun e2 => ?_))
  · refine xb_isBetween g (by omega) (by omega) (by omega) (fun z => bo_1 (h1 (Or.inl ⟨e, Or.inl z⟩))) (fun z1 => bo_0 ?_)
    refine xb_isBetween g (by omega) (by omega) (by omega) (fun z => bo_1 (h1 (Or.inl ⟨e, Or.inr z⟩))) (fun z2 => bo_0 (h0 ?_))
    rintro (⟨_, z | z⟩ | ⟨z, _⟩ | ⟨z, _⟩)
    · exact z1 z
    · exact z2 z
    · exact z e
    · exact z e
  · refine xb_isBetween g (by omega) (by omega) (by omega) (fun z => bo_1 (h1 (Or.inr (Or.inl ⟨e, e2, Or.inl z⟩)))) (fun z1 => bo_0 ?_)
    refine xb_isBetween g (by omega) (by omega) (by omega) (fun z => bo_1 (h1 (Or.inr (Or.inl ⟨e, e2, Or.inr z⟩)))) (fun z2 => bo_0 (h0 ?_))
    rintro (⟨z, _⟩ | ⟨_, _, z | z⟩ | ⟨_, z, _⟩)
    · exact e z
    · exact z1 z
    · exact z2 z
    · exact z e2
  · refine xb_linesMeet g (by omega) (by omega) (by omega) (by omega) (fun z => ⟨k1, h1 (Or.inr (Or.inr ⟨e, e2, z⟩))⟩) (fun z => ⟨k0, h0 ?_⟩)
    rintro (⟨y, _⟩ | ⟨_, y, _⟩ | ⟨_, _, y⟩)
    · exact e y
    · exact e2 y
    · exact z y
theorem xb_areNeighbours {i j : Nat} (hn : n ≤ 10) (hi : i < n) (hj : j < n) (h1 : (nx n i = j ∨ nx n j = i) → post 1) (h0 : ¬ (nx n i = j ∨ nx n j = i) → post 0) : wpX_areNeighbours post (sX n X Y s t w) (nI i) (nI j) := by
  have li := nx_lt hi
  have lj := nx_lt hj
  unfold wpX_areNeighbours
  refine xb_next hn hi ?_
  refine pk_eq (nx n i) j (fun e => h1 (Or.inl e)) (fun e => xb_next hn hj ?_)
  exact pk_eq (nx n j) i (fun e2 => h1 (Or.inr e2)) (fun e2 => h0 (by rintro (z | z); exact e z; exact e2 z))
end
