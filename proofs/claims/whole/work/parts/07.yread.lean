theorem yr_1 {n i : Nat} (hn : n ≤ 10) (hi : i < n) : nI i + 1 - (nI i + 1) / nI n * nI n = nI (nx n i) := by
  rw [nI_1, pk_rem (by omega) (by omega) (by omega), nx_mod hi]
theorem yr_2 {n i : Nat} (hn : n ≤ 10) (hi : i < n) : nI i + 2 - (nI i + 2) / nI n * nI n = nI (nx n (nx n i)) := by
  rw [show nI i + 2 = nI (i + 2) from nI_add i 2, pk_rem (by omega) (by omega) (by omega)]
  congr 1
  unfold nx
  split
  · split
    · exact Nat.mod_eq_of_lt (by omega)
    · rw [show i + 2 = n by omega, Nat.mod_self]
  · have e : i + 2 = n + 1 := by omega
    rw [e, Nat.add_mod_left]
    split
    · exact Nat.mod_eq_of_lt (by omega)
    · rw [show n = 1 by omega]
theorem yr_m {n i : Nat} (hn : n ≤ 10) (hi : i < n) : nI i + nI n - 1 - (nI i + nI n - 1) / nI n * nI n = nI (pv n i) := by
  rw [nI_add, show i + n = (i + n - 1) + 1 by omega, nI_pred, pk_rem (by omega) (by omega) (by omega)]
  congr 1
  unfold pv
  split
  · rw [show i + n - 1 = n - 1 by omega]; exact Nat.mod_eq_of_lt (by omega)
  · rw [show i + n - 1 = n + (i - 1) by omega, Nat.add_mod_left]; exact Nat.mod_eq_of_lt (by omega)
theorem sg_sm (z : Int) : sm (Int.sign z) := by
  rcases Int.lt_trichotomy z 0 with h | h | h
  · rw [Int.sign_eq_neg_one_of_neg h]; exact sm_k _
  · rw [h, Int.sign_zero]; exact sm_k _
  · rw [Int.sign_eq_one_of_pos h]; exact sm_k _
theorem sg_pos (z : Int) : 0 < Int.sign z ↔ 0 < z := by
  rcases Int.lt_trichotomy z 0 with h | h | h
  · rw [Int.sign_eq_neg_one_of_neg h]; omega
  · rw [h, Int.sign_zero]
  · rw [Int.sign_eq_one_of_pos h]; omega
theorem sg_neg (z : Int) : Int.sign z < 0 ↔ z < 0 := by
  rcases Int.lt_trichotomy z 0 with h | h | h
  · rw [Int.sign_eq_neg_one_of_neg h]; omega
  · rw [h, Int.sign_zero]
  · rw [Int.sign_eq_one_of_pos h]; omega
theorem sg_0 (z : Int) : Int.sign z = 0 ↔ z = 0 := Int.sign_eq_zero_iff_zero
section
variable {n : Nat} {p : Int32} {X Y : Nat → Int} {k l q c : Nat → Int32} {post : Int32 → Prop}
theorem yb_isPoint {z : Int32} (h1 : (0 ≤ z.toInt ∧ z.toInt < 256) → post 1) (h0 : ¬ (0 ≤ z.toInt ∧ z.toInt < 256) → post 0) : wpY_isPoint post (sY n p X Y k l q c) z := by
  have e0 : (0 : Int32).toInt = 0 := by decide
  have e1 : (255 : Int32).toInt = 255 := by decide
  refine br_c (fun a => h0 ?_) (fun a => br_c (fun b => h0 ?_) (fun b => h1 ?_))
  · rw [Int32.lt_iff_toInt_lt, e0] at a; omega
  · rw [Int32.lt_iff_toInt_lt, e1] at b; omega
  · rw [Int32.lt_iff_toInt_lt, e0] at a; rw [Int32.lt_iff_toInt_lt, e1] at b; omega
theorem yb_isCorner {z : Int32} (hn : n ≤ 10) (h1 : ∀ a, a < n → z = nI a → post 1) (h0 : (∀ a, a < n → z ≠ nI a) → post 0) : wpY_isCorner post (sY n p X Y k l q c) z := by
  show (z < 0 → post 0) ∧ (¬ z < 0 → (nI n ≤ z → post 0) ∧ (¬ nI n ≤ z → post 1))
  rcases pk_ix z (n := n) (by omega) with h | h | ⟨j, hj, rfl⟩
  · exact br_t h (h0 fun a ha e => by subst e; exact nI_pos (by omega) h)
  · refine br_c (fun _ => ?_) (fun _ => br_t h ?_) <;> exact h0 fun a ha e => by subst e; exact nI_ge ha (by omega) h
  · exact br_f (nI_pos (by omega)) (br_f (nI_ge hj (by omega)) (h1 j hj rfl))
theorem yb_turn {x0 y0 x1 y1 x y : Int} (r1 : -30 ≤ x1 - x0 ∧ x1 - x0 ≤ 30) (r2 : -30 ≤ y - y0 ∧ y - y0 ≤ 30) (r3 : -30 ≤ x - x0 ∧ x - x0 ≤ 30) (r4 : -30 ≤ y1 - y0 ∧ y1 - y0 ≤ 30)
    (h : post (iN (Int.sign ((x1 - x0) * (y - y0) - (x - x0) * (y1 - y0))))) : wpY_turn post (sY n p X Y k l q c) (iN x0) (iN y0) (iN x1) (iN y1) (iN x) (iN y) := by
  have hs := sm_d r1 r2 r3 r4
  refine nm_r (e' := iN ((x1 - x0) * (y - y0) - (x - x0) * (y1 - y0))) (by simp only [ie_sub, ie_mul]) ?_
  refine ib_le _ 0 rfl ie_0 hs (sm_k 0) (fun a => ib_le 0 _ ie_0 rfl (sm_k 0) hs (fun b => ?_) (fun b => ?_)) (fun a => ?_)
  · rw [show (x1 - x0) * (y - y0) - (x - x0) * (y1 - y0) = 0 by omega] at h; exact h
  · rw [Int.sign_eq_neg_one_of_neg b] at h; exact h
  · rw [Int.sign_eq_one_of_pos a] at h; exact h
theorem yb_turnOf {a b d : Nat} (g : gr X Y) (ha : a < 10) (hb : b < 10) (hd : d < 10) (h : post (iN (Int.sign (tn X Y a b d)))) : wpY_turnOf post (sY n p X Y k l q c) (nI a) (nI b) (nI d) := by
  have ia := vp_in_nI ha (by decide : 10 < 2 ^ 31)
  have ib := vp_in_nI hb (by decide : 10 < 2 ^ 31)
  have id := vp_in_nI hd (by decide : 10 < 2 ^ 31)
  simp only [wpY_turnOf, nI_clamp (n := a) (by omega), nI_clamp (n := b) (by omega), nI_clamp (n := d) (by omega)]
  refine ⟨ia, ia, ib, ib, id, id, yb_turn (gr_x g _ _) (gr_y g _ _) (gr_x g _ _) (gr_y g _ _) ?_⟩
  rw [show (X b - X a) * (Y d - Y a) - (X d - X a) * (Y b - Y a) = tn X Y a b d by unfold tn; rw [Int.mul_comm (X d - X a)]]
  exact h
theorem yb_isBetween {a b d : Nat} (g : gr X Y) (ha : a < 10) (hb : b < 10) (hd : d < 10) (h1 : BT X Y a b d → post 1) (h0 : ¬ BT X Y a b d → post 0) : wpY_isBetween post (sY n p X Y k l q c) (nI a) (nI b) (nI d) := by
  have ia := vp_in_nI ha (by decide : 10 < 2 ^ 31)
  have ib := vp_in_nI hb (by decide : 10 < 2 ^ 31)
  have id := vp_in_nI hd (by decide : 10 < 2 ^ 31)
  rw [bt_y] at h1 h0
  simp only [wpY_isBetween, wY_isBetween_35, nI_clamp (n := a) (by omega), nI_clamp (n := b) (by omega), nI_clamp (n := d) (by omega), ie_sub, ie_mul]
  refine ⟨id, ia, id, ib, ib_lt 0 _ ie_0 rfl (sm_k 0) (sm_m (gr_x g _ _) (gr_x g _ _)) (fun e1 => ?_) (fun e1 => ?_)⟩
  · refine ⟨id, ia, id, ib, br_c (fun _ => ?_) (fun _ => ?_)⟩ <;> exact bo_0 (h0 fun z => by have := z.1; omega)
  · refine ⟨id, ia, id, ib, ib_lt 0 _ ie_0 rfl (sm_k 0) (sm_m (gr_y g _ _) (gr_y g _ _)) (fun e2 => ?_) (fun e2 => ?_)⟩
    · exact bo_1 (bo_0 (h0 fun z => by have := z.2.1; omega))
    · refine bo_1 (bo_1 (yb_turnOf g ha hb hd ?_))
      exact ib_eq _ 0 rfl ie_0 (sg_sm _) (sm_k 0) (fun e3 => h1 ⟨e1, e2, (sg_0 _).mp e3⟩) (fun e3 => h0 fun z => e3 ((sg_0 _).mpr z.2.2))
theorem yb_meet {a b d e : Nat} (g : gr X Y) (ha : a < 10) (hb : b < 10) (hd : d < 10) (he : e < 10) (h1 : LM X Y a b d e → post 1) (h0 : ¬ LM X Y a b d e → post 0) : wpY_meet post (sY n p X Y k l q c) (nI a) (nI b) (nI d) (nI e) := by
  rw [lm_y] at h1 h0
  unfold wpY_meet
  refine yb_isBetween g ha hb hd (fun z => bo_1 (h1 (Or.inl z))) (fun z1 => bo_0 ?_)
  refine yb_isBetween g ha hb he (fun z => bo_1 (h1 (Or.inr (Or.inl z)))) (fun z2 => bo_0 ?_)
  refine yb_isBetween g hd he ha (fun z => bo_1 (h1 (Or.inr (Or.inr (Or.inl z))))) (fun z3 => bo_0 ?_)
  refine yb_isBetween g hd he hb (fun z => bo_1 (h1 (Or.inr (Or.inr (Or.inr (Or.inl z)))))) (fun z4 => bo_0 ?_)
  have h0' : ¬ (tn X Y a b d * tn X Y a b e < 0 ∧ tn X Y d e a * tn X Y d e b < 0) → post 0 := fun z => h0 fun y => by
    rcases y with y | y | y | y | y
    · exact z1 y
    · exact z2 y
    · exact z3 y
    · exact z4 y
    · exact z y
  have h1' := fun z => h1 (Or.inr (Or.inr (Or.inr (Or.inr z))))
  refine yb_turnOf g ha hb hd (yb_turnOf g ha hb he ?_)
  refine ib_le 0 (Int.sign (tn X Y a b d * tn X Y a b e)) ie_0 (by rw [ie_mul, Int.sign_mul]) (sm_k 0) (sg_sm _) (fun e1 => h0' fun z => ?_) (fun e1 => ?_)
  · have := (sg_neg _).mpr z.1; omega
  · refine yb_turnOf g hd he ha (yb_turnOf g hd he hb ?_)
    refine ib_le 0 (Int.sign (tn X Y d e a * tn X Y d e b)) ie_0 (by rw [ie_mul, Int.sign_mul]) (sm_k 0) (sg_sm _) (fun e2 => h0' fun z => ?_) (fun e2 => h1' ⟨(sg_neg _).mp e1, (sg_neg _).mp e2⟩)
    have := (sg_neg _).mpr z.2; omega
theorem yb_os112 {x y x0 y0 x1 y1 : Int} {x9 z0 : Int32} (r1 : -30 ≤ x1 - x0 ∧ x1 - x0 ≤ 30) (r2 : -30 ≤ y - y0 ∧ y - y0 ≤ 30) (r3 : -30 ≤ x - x0 ∧ x - x0 ≤ 30) (r4 : -30 ≤ y1 - y0 ∧ y1 - y0 ≤ 30)
    (h1 : ¬ x9 = 0 → ¬ z0 = 0 → (x1 - x0) * (y - y0) - (x - x0) * (y1 - y0) = 0 → post 1) (h0 : (x9 = 0 ∨ z0 = 0 ∨ ¬ (x1 - x0) * (y - y0) - (x - x0) * (y1 - y0) = 0) → post 0) :
    wY_isOnSide_112 post (iN x) (iN y) (iN x0) (iN y0) (iN x1) (iN y1) x9 z0 (nI n) p (fun i => iN (X i)) (fun i => iN (Y i)) k l q c := by
  refine br_c (fun a => h0 (Or.inl a)) (fun a => br_c (fun b => h0 (Or.inr (Or.inl b))) (fun b => yb_turn r1 r2 r3 r4 ?_))
  exact ib_eq _ 0 rfl ie_0 (sg_sm _) (sm_k 0) (fun e3 => h1 a b ((sg_0 _).mp e3)) (fun e3 => h0 (Or.inr (Or.inr fun z => e3 ((sg_0 _).mpr z))))
theorem yb_os81 {x y x0 y0 x1 y1 : Int} {z0 : Int32} (m1 : sm y) (m2 : sm y0) (m3 : sm y1) (r1 : -30 ≤ x1 - x0 ∧ x1 - x0 ≤ 30) (r2 : -30 ≤ y - y0 ∧ y - y0 ≤ 30) (r3 : -30 ≤ x - x0 ∧ x - x0 ≤ 30) (r4 : -30 ≤ y1 - y0 ∧ y1 - y0 ≤ 30)
    (h1 : ¬ z0 = 0 → ((y0 ≤ y ∧ y ≤ y1) ∨ (y1 ≤ y ∧ y ≤ y0)) → (x1 - x0) * (y - y0) - (x - x0) * (y1 - y0) = 0 → post 1) (h0 : (z0 = 0 ∨ ¬ ((y0 ≤ y ∧ y ≤ y1) ∨ (y1 ≤ y ∧ y ≤ y0)) ∨ ¬ (x1 - x0) * (y - y0) - (x - x0) * (y1 - y0) = 0) → post 0) :
    wY_isOnSide_81 post (iN x) (iN y) (iN x0) (iN y0) (iN x1) (iN y1) z0 (nI n) p (fun i => iN (X i)) (fun i => iN (Y i)) k l q c := by
  have a1 : ((y0 ≤ y ∧ y ≤ y1) ∨ (y1 ≤ y ∧ y ≤ y0)) → wY_isOnSide_107 post (iN x) (iN y) (iN x0) (iN y0) (iN x1) (iN y1) z0 (nI n) p (fun i => iN (X i)) (fun i => iN (Y i)) k l q c := fun u =>
    yb_os112 r1 r2 r3 r4 (fun a _ d => h1 a u d) (fun z => h0 (by
      rcases z with z | z | z
      · exact Or.inl z
      · exact absurd z (by decide)
      · exact Or.inr (Or.inr z)))
  have a0 : ¬ ((y0 ≤ y ∧ y ≤ y1) ∨ (y1 ≤ y ∧ y ≤ y0)) → wY_isOnSide_111 post (iN x) (iN y) (iN x0) (iN y0) (iN x1) (iN y1) z0 (nI n) p (fun i => iN (X i)) (fun i => iN (Y i)) k l q c := fun u =>
    yb_os112 r1 r2 r3 r4 (fun _ b _ => absurd rfl b) (fun z => h0 (Or.inr (Or.inl u)))
  have a95 : ¬ (y0 ≤ y ∧ y ≤ y1) → wY_isOnSide_95 post (iN x) (iN y) (iN x0) (iN y0) (iN x1) (iN y1) z0 (nI n) p (fun i => iN (X i)) (fun i => iN (Y i)) k l q c := fun u =>
    ib_lt _ _ rfl rfl m1 m3 (fun e => a0 (by omega)) (fun e => ib_lt _ _ rfl rfl m2 m1 (fun e => a0 (by omega)) (fun e => a1 (by omega)))
  exact ib_lt _ _ rfl rfl m1 m2 (fun e => a95 (by omega)) (fun e => ib_le _ _ rfl rfl m1 m3 (fun e => a1 (by omega)) (fun e => a95 (by omega)))
theorem yb_isOnSide {x y : Int} {i : Nat} (g : gr X Y) (hn : n ≤ 10) (hi : i < n) (hx : 0 ≤ x ∧ x ≤ 30) (hy : 0 ≤ y ∧ y ≤ 30) (h1 : oE X Y x y i (nx n i) → post 1) (h0 : ¬ oE X Y x y i (nx n i) → post 0) : wpY_isOnSide post (sY n p X Y k l q c) (iN x) (iN y) (nI i) := by
  rw [oe_y] at h1 h0
  have li := nx_lt hi
  have ci : (nI i).toNatClampNeg = i := nI_clamp (by omega)
  have cj : (nI (nx n i)).toNatClampNeg = nx n i := nI_clamp (by omega)
  have g1 := g i
  have g2 := g (nx n i)
  have e1 : 2 * (fun i => iN (X i)) (nI i).toNatClampNeg = iN (2 * X i) := by
    show 2 * iN (X _) = _
    rw [ci, ie_2, ie_mul]
  have e2 : 2 * (fun i => iN (Y i)) (nI i).toNatClampNeg = iN (2 * Y i) := by
    show 2 * iN (Y _) = _
    rw [ci, ie_2, ie_mul]
  have e3 : 2 * (fun i => iN (X i)) (nI (nx n i)).toNatClampNeg = iN (2 * X (nx n i)) := by
    show 2 * iN (X _) = _
    rw [cj, ie_2, ie_mul]
  have e4 : 2 * (fun i => iN (Y i)) (nI (nx n i)).toNatClampNeg = iN (2 * Y (nx n i)) := by
    show 2 * iN (Y _) = _
    rw [cj, ie_2, ie_mul]
  have ii := vp_in_nI (n := i) (N := 10) (by omega) (by decide)
  have ij := vp_in_nI (n := nx n i) (N := 10) (by omega) (by decide)
  have m1 : sm x := ⟨by omega, by omega⟩
  have m2 : sm y := ⟨by omega, by omega⟩
  have m3 : sm (2 * X i) := ⟨by omega, by omega⟩
  have m4 : sm (2 * Y i) := ⟨by omega, by omega⟩
  have m5 : sm (2 * X (nx n i)) := ⟨by omega, by omega⟩
  have m6 : sm (2 * Y (nx n i)) := ⟨by omega, by omega⟩
  refine ⟨nI_ne0 (by omega) (by omega), nm_r (yr_1 hn hi) ⟨ii, nm_r e1 ⟨ii, nm_r e2 ⟨ij, nm_r e3 ⟨ij, nm_r e4 ?_⟩⟩⟩⟩⟩
  have b1 : ((2 * X i ≤ x ∧ x ≤ 2 * X (nx n i)) ∨ (2 * X (nx n i) ≤ x ∧ x ≤ 2 * X i)) → wY_isOnSide_76 post (iN x) (iN y) (iN (2 * X i)) (iN (2 * Y i)) (iN (2 * X (nx n i))) (iN (2 * Y (nx n i))) (nI n) p (fun i => iN (X i)) (fun i => iN (Y i)) k l q c := fun u =>
    yb_os81 m2 m4 m6 (by omega) (by omega) (by omega) (by omega) (fun _ a b => h1 ⟨u, a, b⟩) (fun z => h0 (by
      rintro ⟨z1, z2, z3⟩
      rcases z with z | z | z
      · exact absurd z (by decide)
      · exact z z2
      · exact z z3))
  have b0 : ¬ ((2 * X i ≤ x ∧ x ≤ 2 * X (nx n i)) ∨ (2 * X (nx n i) ≤ x ∧ x ≤ 2 * X i)) → wY_isOnSide_80 post (iN x) (iN y) (iN (2 * X i)) (iN (2 * Y i)) (iN (2 * X (nx n i))) (iN (2 * Y (nx n i))) (nI n) p (fun i => iN (X i)) (fun i => iN (Y i)) k l q c := fun u =>
    yb_os81 m2 m4 m6 (by omega) (by omega) (by omega) (by omega) (fun a _ _ => absurd rfl a) (fun z => h0 fun z => u z.1)
  have b64 : ¬ (2 * X i ≤ x ∧ x ≤ 2 * X (nx n i)) → wY_isOnSide_64 post (iN x) (iN y) (iN (2 * X i)) (iN (2 * Y i)) (iN (2 * X (nx n i))) (iN (2 * Y (nx n i))) (nI n) p (fun i => iN (X i)) (fun i => iN (Y i)) k l q c := fun u =>
    ib_lt _ _ rfl rfl m1 m5 (fun e => b0 (by omega)) (fun e => ib_lt _ _ rfl rfl m3 m1 (fun e => b0 (by omega)) (fun e => b1 (by omega)))
  exact ib_lt _ _ rfl rfl m1 m3 (fun e => b64 (by omega)) (fun e => ib_le _ _ rfl rfl m1 m5 (fun e => b1 (by omega)) (fun e => b64 (by omega)))
theorem yb_isFolded {i : Nat} (g : gr X Y) (hn : n ≤ 10) (hi : i < n) (h1 : FO n X Y i → post 1) (h0 : ¬ FO n X Y i → post 0) : wpY_isFolded post (sY n p X Y k l q c) (nI i) := by
  have li := nx_lt hi
  have lh := pv_lt hi
  have ci : (nI i).toNatClampNeg = i := nI_clamp (by omega)
  have cj : (nI (nx n i)).toNatClampNeg = nx n i := nI_clamp (by omega)
  have ch : (nI (pv n i)).toNatClampNeg = pv n i := nI_clamp (by omega)
  have ii := vp_in_nI (n := i) (N := 10) (by omega) (by decide)
  have ij := vp_in_nI (n := nx n i) (N := 10) (by omega) (by decide)
  have ih := vp_in_nI (n := pv n i) (N := 10) (by omega) (by decide)
  have z0 : ¬ nI n = 0 := nI_ne0 (by omega) (by omega)
  refine ⟨z0, nm_r (yr_1 hn hi) ⟨z0, nm_r (yr_m hn hi) ⟨ij, ii, ih, ii, ij, ii, ih, ii, ?_⟩⟩⟩
  refine nm_r (e' := iN ((X (nx n i) - X i) * (X (pv n i) - X i) + (Y (nx n i) - Y i) * (Y (pv n i) - Y i))) ?_ (yb_turnOf g (by omega) (by omega) (by omega) ?_)
  · rw [ci, cj, ch]
    simp only [ie_sub, ie_mul, ie_add]
  · refine ib_eq _ 0 rfl ie_0 (sg_sm _) (sm_k 0) (fun e1 => ?_) (fun e1 => h0 fun z => e1 ((sg_0 _).mpr z.1))
    refine ib_le _ 0 rfl ie_0 (sm_s (gr_x g _ _) (gr_x g _ _) (gr_y g _ _) (gr_y g _ _)) (sm_k 0) (fun e2 => h0 fun z => ?_) (fun e2 => h1 ⟨(sg_0 _).mp e1, e2⟩)
    have := z.2
    omega
end
