/-- the same corners on both sides, all of them on the grid -/
def i_Rel (k : Nat) (u : SX) (v : SY) : Prop := ∃ (n : Nat) (X Y : Nat → Int) (s t w : Nat → Int32) (p : Int32) (a b q c : Nat → Int32), n ≤ 10 ∧ gr X Y ∧ u = sX n X Y s t w ∧ v = sY n p X Y a b q c
theorem rl {k n : Nat} {X Y : Nat → Int} {s t w : Nat → Int32} {p : Int32} {a b q c : Nat → Int32} (hn : n ≤ 10) (g : gr X Y) : i_Rel k (sX n X Y s t w) (sY n p X Y a b q c) := ⟨n, X, Y, s, t, w, p, a, b, q, c, hn, g, rfl, rfl⟩
theorem i_up {k : Nat} {u : SX} {v : SY} (h : i_Rel k u v) : i_Rel (k + 3) u v := h
theorem i_vc0 : wpX_init (fun u => wpY_init (fun v => i_Rel 0 u v)) := by
  have e : (fun _ => 0 : Nat → Int32) = fun i => iN ((fun _ => 0 : Nat → Int) i) := by funext i; exact ie_0
  refine ⟨0, fun _ => 0, fun _ => 0, fun _ => 0, fun _ => 0, fun _ => 0, 0, fun _ => 0, fun _ => 0, fun _ => 0, fun _ => 0, by omega, fun i => ⟨⟨Int.le_refl 0, (by decide : (0 : Int) ≤ 15)⟩, ⟨Int.le_refl 0, (by decide : (0 : Int) ≤ 15)⟩⟩, ?_, ?_⟩
  · show (_, _, _, _) = (_, _, _, _)
    rw [← e]; rfl
  · show (_, _, _, _) = (_, _, _, _)
    rw [← e]; rfl
theorem i_vc_corner {k : Nat} {u : SX} {v : SY} (I : i_Rel k u v) (hk : k + 3 ≤ 1536) (v1 : Int32) : wpX_corner (fun r u' => wpY_corner (fun r' v' => r' = r ∧ i_Rel (k + 3) u' v') v v1) u v1 := by
  obtain ⟨n, X, Y, s, t, w, p, a, b, q, c, hn, g, rfl, rfl⟩ := I
  refine xb_corner hn (fun y => ?_) (fun y e => ?_) (fun m hm e hl => ?_)
  · exact yb_corner hn (fun _ => ⟨rfl, rl hn g⟩) (fun z => absurd z y) (fun m hm e => by subst e; exact absurd ⟨by rw [nI_toInt (by omega)]; omega, by rw [nI_toInt (by omega)]; omega⟩ y)
  · exact yb_corner hn (fun z => absurd y z) (fun _ _ => ⟨rfl, rl hn g⟩) (fun m hm _ hl => by omega)
  · refine yb_corner hn (fun z => ?_) (fun _ e2 => by omega) (fun m' hm' e' _ => ?_)
    · subst e; exact absurd ⟨by rw [nI_toInt (by omega)]; omega, by rw [nI_toInt (by omega)]; omega⟩ z
    · subst e
      rw [nI_eq (by omega) (by omega)] at e'
      subst e'
      exact ⟨rfl, rl (by omega) (gr_ok.mpr ⟨ok_us (gr_ok.mp g).1 (by omega), ok_us (gr_ok.mp g).2 (by omega)⟩)⟩
theorem i_vc_insert {k : Nat} {u : SX} {v : SY} (I : i_Rel k u v) (hk : k + 3 ≤ 1536) (v1 : Int32) (v2 : Int32) : wpX_insert (fun r u' => wpY_insert (fun r' v' => r' = r ∧ i_Rel (k + 3) u' v') v v1 v2) u v1 v2 := by
  obtain ⟨n, X, Y, s, t, w, p, a, b, q, c, hn, g, rfl, rfl⟩ := I
  have hp : ∀ i m, i ≤ n → m < 256 → v1 = nI i → v2 = nI m → ((0 ≤ v2.toInt ∧ v2.toInt < 256) ∧ ∃ i, i ≤ n ∧ v1 = nI i) := by
    intro i m hi hm e1 e2
    refine ⟨?_, i, hi, e1⟩
    rw [e2, nI_toInt (by omega)]; omega
  refine xb_insert hn (fun y => ?_) (fun y e => ?_) (fun i m hi hm e1 e2 hl => ?_)
  · exact yb_insert hn (fun _ => ⟨rfl, rl hn g⟩) (fun z => absurd z y) (fun i m hi hm e1 e2 => absurd (hp i m hi hm e1 e2) y)
  · exact yb_insert hn (fun z => absurd y z) (fun _ _ => ⟨rfl, rl hn g⟩) (fun i m _ _ _ _ hl => by clear y; omega)
  · refine yb_insert hn (fun z => absurd (hp i m hi hm e1 e2) z) (fun _ e3 => by clear hp; omega) (fun i' m' hi' hm' e1' e2' _ => ?_)
    subst e1 e2
    rw [nI_eq (by omega) (by omega)] at e1' e2'
    subst e1' e2'
    exact ⟨rfl, rl (by omega) (gr_ok.mpr ⟨ok_us (ok_shU (gr_ok.mp g).1 _ _) (by omega), ok_us (ok_shU (gr_ok.mp g).2 _ _) (by omega)⟩)⟩
theorem i_vc_remove {k : Nat} {u : SX} {v : SY} (I : i_Rel k u v) (hk : k + 3 ≤ 1536) (v1 : Int32) : wpX_remove (fun r u' => wpY_remove (fun r' v' => r' = r ∧ i_Rel (k + 3) u' v') v v1) u v1 := by
  obtain ⟨n, X, Y, s, t, w, p, a, b, q, c, hn, g, rfl, rfl⟩ := I
  refine xb_remove hn (fun y => ?_) (fun i m hi e1 e2 => ?_)
  · exact yb_remove hn (fun _ => ⟨rfl, rl hn g⟩) (fun i m hi _ e => absurd e (y i hi))
  · refine yb_remove hn (fun z => absurd e2 (z i hi)) (fun i' m' hi' e1' e2' => ?_)
    subst e2
    rw [nI_eq (by omega) (by omega)] at e2'
    subst e2'
    have em : m' = m := by omega
    subst em
    exact ⟨rfl, rl (by omega) (gr_ok.mpr ⟨ok_shD (gr_ok.mp g).1 _ _, ok_shD (gr_ok.mp g).2 _ _⟩)⟩
theorem i_vc_clear {k : Nat} {u : SX} {v : SY} (I : i_Rel k u v) (hk : k + 3 ≤ 1536) : wpX_clear (fun u' => wpY_clear (fun v' => i_Rel (k + 3) u' v') v) u := by
  obtain ⟨n, X, Y, s, t, w, p, a, b, q, c, hn, g, rfl, rfl⟩ := I
  exact rl (k := k + 3) (n := 0) (by omega) g
theorem i_vc_corners {k : Nat} {u : SX} {v : SY} (I : i_Rel k u v) (hk : k + 3 ≤ 1536) : wpX_corners (fun r => wpY_corners (fun r' => r' = r ∧ i_Rel (k + 3) u v) v) u := by
  obtain ⟨n, X, Y, s, t, w, p, a, b, q, c, hn, g, rfl, rfl⟩ := I
  exact ⟨rfl, rl hn g⟩
theorem i_vc_move {k : Nat} {u : SX} {v : SY} (I : i_Rel k u v) (hk : k + 3 ≤ 1536) (v1 : Int32) (v2 : Int32) : wpX_move (fun r u' => wpY_move (fun r' v' => r' = r ∧ i_Rel (k + 3) u' v') v v1 v2) u v1 v2 := by
  obtain ⟨n, X, Y, s, t, w, p, a, b, q, c, hn, g, rfl, rfl⟩ := I
  obtain ⟨d, rfl, hd⟩ := in_dx v1
  obtain ⟨e, rfl, he⟩ := in_dx v2
  refine xb_move g hn hd he (fun y => ?_) (fun y => ?_)
  · refine yb_move g hn hd he (fun _ => ⟨rfl, rl hn g⟩) (fun z => ?_)
    obtain ⟨i, hi, x⟩ := y
    exact absurd (z i hi) x
  · refine yb_move g hn hd he (fun ⟨i, hi, x⟩ => absurd (y i hi) x) (fun _ => ⟨rfl, rl hn (gr_ok.mpr ⟨ok_mvF (gr_ok.mp g).1 fun i hi => (y i hi).1, ok_mvF (gr_ok.mp g).2 fun i hi => (y i hi).2⟩)⟩)
theorem i_vc_reverse {k : Nat} {u : SX} {v : SY} (I : i_Rel k u v) (hk : k + 3 ≤ 1536) : wpX_reverse (fun r u' => wpY_reverse (fun r' v' => r' = r ∧ i_Rel (k + 3) u' v') v) u := by
  obtain ⟨n, X, Y, s, t, w, p, a, b, q, c, hn, g, rfl, rfl⟩ := I
  exact xb_reverse hn (yb_reverse hn fun k' l' => ⟨rfl, rl hn (gr_ok.mpr ⟨ok_rvE (gr_ok.mp g).1 _, ok_rvE (gr_ok.mp g).2 _⟩)⟩)
theorem i_vc_keep {k : Nat} {u : SX} {v : SY} (I : i_Rel k u v) (hk : k + 3 ≤ 1536) (v1 : Int32) (v2 : Int32) : wpX_keep (fun r u' => wpY_keep (fun r' v' => r' = r ∧ i_Rel (k + 3) u' v') v v1 v2) u v1 v2 := by
  obtain ⟨n, X, Y, s, t, w, p, a, b, q, c, hn, g, rfl, rfl⟩ := I
  refine xb_keep g hn (fun y => ?_) (fun i j s' t' hi hj e1 e2 y => ?_)
  · exact yb_keep g hn (fun _ => ⟨rfl, rl hn g⟩) (fun i j k' l' _ _ _ _ z => absurd z y)
  · refine yb_keep g hn (fun z => absurd y z) (fun i' j' k' l' hi' hj' e1' e2' z => ?_)
    subst e1 e2
    rw [nI_eq (by omega) (by omega)] at e1' e2'
    subst e1' e2'
    have hl : (j + n - i) % n < n := Nat.mod_lt _ (by omega)
    exact ⟨rfl, rl (by unfold kpM; omega) (gr_ok.mpr ⟨ok_kpE (gr_ok.mp g).1 _ _ _, ok_kpE (gr_ok.mp g).2 _ _ _⟩)⟩
theorem i_vc_proper {k : Nat} {u : SX} {v : SY} (I : i_Rel k u v) (hk : k + 3 ≤ 1536) : wpX_proper (fun r => wpY_proper (fun r' => r' = r ∧ i_Rel (k + 3) u v) v) u := by
  obtain ⟨n, X, Y, s, t, w, p, a, b, q, c, hn, g, rfl, rfl⟩ := I
  refine xb_proper g hn (fun y => ?_) (fun y => ?_)
  · unfold wpY_proper
    exact yb_isProper g hn (fun _ => ⟨rfl, rfl, rl hn g⟩) (fun z => absurd y z)
  · unfold wpY_proper
    exact yb_isProper g hn (fun z => absurd z y) (fun _ => ⟨rfl, rfl, rl hn g⟩)
theorem i_vc_area {k : Nat} {u : SX} {v : SY} (I : i_Rel k u v) (hk : k + 3 ≤ 1536) : wpX_area (fun r => wpY_area (fun r' => r' = r ∧ i_Rel (k + 3) u v) v) u := by
  obtain ⟨n, X, Y, s, t, w, p, a, b, q, c, hn, g, rfl, rfl⟩ := I
  unfold wpX_area
  refine xb_proper g hn (fun y => bo_1 (xb_signedArea hn ?_)) (fun y => bo_0 ?_)
  · have h := ar_eq g y
    have r := sA_r (n := n) g n
    have fin : ∀ z : Int, z = 2 * (cn (PT n X Y 1) 256 : Int) + cn (PT n X Y 0) 256 - 2 → wpY_area (fun r' => r' = iN z ∧ i_Rel (k + 3) (sX n X Y s t w) (sY n p X Y a b q c)) (sY n p X Y a b q c) := by
      intro z e
      unfold wpY_area
      refine yb_isProper g hn (fun _ => bo_1 (yb_countPlaces (v := 1) g hn (sm_k _) (yb_countPlaces (v := 0) g hn (sm_k _) ⟨?_, rl hn g⟩))) (fun x => absurd y x)
      rw [e, ie_nI, ie_nI, ie_2, ie_mul, ie_add, ie_sub]
    refine ib_le 0 _ ie_0 rfl (sm_k 0) ⟨by omega, by omega⟩ (fun z => fin _ (h.1 z)) (fun z => ?_)
    rw [ie_neg]
    exact fin _ (h.2 z)
  · unfold wpY_area
    exact yb_isProper g hn (fun z => absurd z y) (fun _ => bo_0 ⟨rfl, rl hn g⟩)
theorem i_vc_left {k : Nat} {u : SX} {v : SY} (I : i_Rel k u v) (hk : k + 3 ≤ 1536) : wpX_left (fun r => wpY_left (fun r' => r' = r ∧ i_Rel (k + 3) u v) v) u := by
  obtain ⟨n, X, Y, s, t, w, p, a, b, q, c, hn, g, rfl, rfl⟩ := I
  unfold wpX_left
  have r := sA_r (n := n) g n
  refine xb_proper g hn (fun y => bo_1 (xb_signedArea hn (xb_pos ⟨by omega, by omega⟩ (fun z => ?_) (fun z => ?_)))) (fun y => bo_0 ?_)
  · exact yb_left g hn (fun x => absurd y x) (fun _ i hi hl => ⟨fun _ => ⟨rfl, rl hn g⟩, fun x => absurd ((lf_eq g y i hi hl).mp z) x⟩)
  · exact yb_left g hn (fun x => absurd y x) (fun _ i hi hl => ⟨fun x => absurd ((lf_eq g y i hi hl).mpr x) z, fun _ => ⟨rfl, rl hn g⟩⟩)
  · exact yb_left g hn (fun _ => ⟨rfl, rl hn g⟩) (fun x => absurd x y)
theorem i_vc_edge {k : Nat} {u : SX} {v : SY} (I : i_Rel k u v) (hk : k + 3 ≤ 1536) : wpX_edge (fun r => wpY_edge (fun r' => r' = r ∧ i_Rel (k + 3) u v) v) u := by
  obtain ⟨n, X, Y, s, t, w, p, a, b, q, c, hn, g, rfl, rfl⟩ := I
  unfold wpX_edge
  refine xb_proper g hn (fun y => bo_1 (xb_countPoints (v := 0) g hn (sm_k _) ?_)) (fun y => bo_0 ?_)
  · unfold wpY_edge
    exact yb_isProper g hn (fun _ => bo_1 (yb_countPlaces (v := 0) g hn (sm_k _) ⟨rfl, rl hn g⟩)) (fun x => absurd y x)
  · unfold wpY_edge
    exact yb_isProper g hn (fun x => absurd x y) (fun _ => bo_0 ⟨rfl, rl hn g⟩)
theorem i_vc_inside {k : Nat} {u : SX} {v : SY} (I : i_Rel k u v) (hk : k + 3 ≤ 1536) : wpX_inside (fun r => wpY_inside (fun r' => r' = r ∧ i_Rel (k + 3) u v) v) u := by
  obtain ⟨n, X, Y, s, t, w, p, a, b, q, c, hn, g, rfl, rfl⟩ := I
  unfold wpX_inside
  refine xb_proper g hn (fun y => bo_1 (xb_countPoints (v := 1) g hn (sm_k _) ?_)) (fun y => bo_0 ?_)
  · unfold wpY_inside
    exact yb_isProper g hn (fun _ => bo_1 (yb_countPlaces (v := 1) g hn (sm_k _) ⟨rfl, rl hn g⟩)) (fun x => absurd y x)
  · unfold wpY_inside
    exact yb_isProper g hn (fun x => absurd x y) (fun _ => bo_0 ⟨rfl, rl hn g⟩)
theorem i_vc_where {k : Nat} {u : SX} {v : SY} (I : i_Rel k u v) (hk : k + 3 ≤ 1536) (v1 : Int32) : wpX_where (fun r => wpY_where (fun r' => r' = r ∧ i_Rel (k + 3) u v) v v1) u v1 := by
  obtain ⟨n, X, Y, s, t, w, p, a, b, q, c, hn, g, rfl, rfl⟩ := I
  unfold wpX_where
  refine xb_isPoint (fun x => bo_1 ?_) (fun x => bo_0 ?_)
  · obtain ⟨m, hm, rfl⟩ := pt_of x
    refine xb_proper g hn (fun y => bo_1 ⟨nz16, nz16, ?_⟩) (fun y => bo_0 ?_)
    · have e1 : 2 * (nI m - nI m / 16 * 16) = iN (2 * ((m % 16 : Nat) : Int)) := by rw [pt_r hm, ie_2, ie_mul]
      have e2 : 2 * (nI m / 16) = iN (2 * ((m / 16 : Nat) : Int)) := by rw [pt_q hm, ie_2, ie_mul]
      have e3 : nI m / 16 * 2 = iN (2 * ((m / 16 : Nat) : Int)) := by rw [pt_q hm, ie_2, ie_mul, Int.mul_comm]
      rw [e1, e2]
      refine xb_placeOf g hn (by omega) (by omega) ?_
      unfold wpY_where
      refine yb_isPoint (fun _ => bo_1 (yb_isProper g hn (fun _ => bo_1 ⟨nz16, nz16, ?_⟩) (fun z => absurd y z))) (fun z => absurd x z)
      rw [e1, e3]
      exact yb_place g hn (by omega) (by omega) ⟨rfl, rl hn g⟩
    · unfold wpY_where
      exact yb_isPoint (fun _ => bo_1 (yb_isProper g hn (fun z => absurd z y) (fun _ => bo_0 ⟨rfl, rl hn g⟩))) (fun z => absurd x z)
  · unfold wpY_where
    exact yb_isPoint (fun z => absurd z x) (fun _ => bo_0 ⟨rfl, rl hn g⟩)
theorem i_vc_convex {k : Nat} {u : SX} {v : SY} (I : i_Rel k u v) (hk : k + 3 ≤ 1536) : wpX_convex (fun r => wpY_convex (fun r' => r' = r ∧ i_Rel (k + 3) u v) v) u := by
  obtain ⟨n, X, Y, s, t, w, p, a, b, q, c, hn, g, rfl, rfl⟩ := I
  have f1 : fb (∃ m, m < 0 ∧ 0 < tu n X Y m) = 0 := fb_f (by rintro ⟨m, hm, _⟩; omega)
  have f2 : fb (∃ m, m < 0 ∧ tu n X Y m < 0) = 0 := fb_f (by rintro ⟨m, hm, _⟩; omega)
  have yy : ∀ {P : Int32 → Prop}, (PR n X Y → CV n X Y → P 1) → (¬ (PR n X Y ∧ CV n X Y) → P 0) → wpY_convex P (sY n p X Y a b q c) := by
    intro P h1 h0
    have := yl_cv6 (p := p) (k := a) (l := b) (q := q) (c := c) g hn h1 h0 n 0 (by omega)
    rw [f1, f2] at this
    exact ⟨_, this⟩
  unfold wpX_convex
  refine xb_proper g hn (fun y => bo_1 ⟨n + 1, ?_⟩) (fun y => bo_0 ?_)
  · have := xl_cv15 (s := s) (t := t) (w := w) (post := fun r => wpY_convex (fun r' => r' = r ∧ i_Rel (k + 3) (sX n X Y s t w) (sY n p X Y a b q c)) (sY n p X Y a b q c)) g hn (fun z => yy (fun _ _ => ⟨rfl, rl hn g⟩) (fun x => absurd ⟨y, z⟩ x)) (fun z => yy (fun _ x => absurd x z) (fun _ => ⟨rfl, rl hn g⟩)) n 0 (by omega)
    rw [f1, f2] at this
    exact this
  · exact yy (fun x _ => absurd x y) (fun _ => ⟨rfl, rl hn g⟩)
theorem i_vc_cut {k : Nat} {u : SX} {v : SY} (I : i_Rel k u v) (hk : k + 3 ≤ 1536) (v1 : Int32) (v2 : Int32) : wpX_cut (fun r => wpY_cut (fun r' => r' = r ∧ i_Rel (k + 3) u v) v v1 v2) u v1 v2 := by
  obtain ⟨n, X, Y, s, t, w, p, a, b, q, c, hn, g, rfl, rfl⟩ := I
  refine xb_cut g hn (fun y => ?_) (fun y => ?_)
  · exact yb_cut g hn (fun _ => ⟨rfl, rl hn g⟩) (fun x => absurd y x)
  · exact yb_cut g hn (fun x => absurd x y) (fun _ => ⟨rfl, rl hn g⟩)
theorem i_vc_cuts {k : Nat} {u : SX} {v : SY} (I : i_Rel k u v) (hk : k + 3 ≤ 1536) : wpX_cuts (fun r => wpY_cuts (fun r' v' => r' = r ∧ i_Rel (k + 3) u v') v) u := by
  obtain ⟨n, X, Y, s, t, w, p, a, b, q, c, hn, g, rfl, rfl⟩ := I
  refine xb_cuts g hn (fun y => ?_) (fun y => ?_)
  · exact yb_cuts g hn (fun _ => ⟨rfl, rl hn g⟩) (fun x => absurd x y)
  · exact yb_cuts g hn (fun x => absurd y x) (fun _ q' => ⟨rfl, rl hn g⟩)
theorem i_vc_tilings {k : Nat} {u : SX} {v : SY} (I : i_Rel k u v) (hk : k + 3 ≤ 1536) : wpX_tilings (fun r u' => wpY_tilings (fun r' v' => r' = r ∧ i_Rel (k + 3) u' v') v) u := by
  obtain ⟨n, X, Y, s, t, w, p, a, b, q, c, hn, g, rfl, rfl⟩ := I
  refine xb_tilings g hn (fun y => ?_) (fun y w' => ?_)
  · exact yb_tilings g hn (fun _ => ⟨rfl, rl hn g⟩) (fun x => absurd x y)
  · exact yb_tilings g hn (fun x => absurd y x) (fun _ p' q' c' => ⟨rfl, rl hn g⟩)
theorem i_vc_hull {k : Nat} {u : SX} {v : SY} (I : i_Rel k u v) (hk : k + 3 ≤ 1536) : wpX_hull (fun r => wpY_hull (fun r' => r' = r ∧ i_Rel (k + 3) u v) v) u := by
  obtain ⟨n, X, Y, s, t, w, p, a, b, q, c, hn, g, rfl, rfl⟩ := I
  have h := hu_eq (n := n) (X := X) (Y := Y)
  refine xb_hull g hn (fun y => ?_) (fun y => ?_)
  · have e : cn (HF n (HX n X Y)) (n * n) = cn (HF n (HY n X Y)) (n * n) := by
      rcases h with h | h
      · exact h.2
      · omega
    exact yb_hull g hn (fun z => ⟨by rw [e], rl hn g⟩) (fun z => by omega)
  · have e : cn (HF n (HY n X Y)) (n * n) = 0 := by
      rcases h with h | h
      · omega
      · exact h.2
    exact yb_hull g hn (fun z => absurd e z) (fun z => ⟨rfl, rl hn g⟩)
theorem i_vc_hullArea {k : Nat} {u : SX} {v : SY} (I : i_Rel k u v) (hk : k + 3 ≤ 1536) : wpX_hullArea (fun r => wpY_hullArea (fun r' => r' = r ∧ i_Rel (k + 3) u v) v) u := by
  obtain ⟨n, X, Y, s, t, w, p, a, b, q, c, hn, g, rfl, rfl⟩ := I
  have h := ha_eq (n := n) (X := X) (Y := Y)
  refine xb_hullArea g hn (fun y => ?_) (fun y => ?_)
  · rw [h] at y ⊢
    exact yb_hullArea g hn (fun z => ⟨rfl, rl hn g⟩) (fun z => absurd z y)
  · rw [h] at y
    exact yb_hullArea g hn (fun z => absurd y z) (fun z => ⟨rfl, rl hn g⟩)
theorem i_vc_widest {k : Nat} {u : SX} {v : SY} (I : i_Rel k u v) (hk : k + 3 ≤ 1536) : wpX_widest (fun r => wpY_widest (fun r' => r' = r ∧ i_Rel (k + 3) u v) v) u := by
  obtain ⟨n, X, Y, s, t, w, p, a, b, q, c, hn, g, rfl, rfl⟩ := I
  have yy : ∀ {P : Int32 → Prop}, (∀ r, WY (n := n) X Y n 0 r → P (iN r)) → wpY_widest P (sY n p X Y a b q c) := by
    intro P h
    refine ⟨n + 1, ?_⟩
    exact yl_wi6 g hn h n 0 (by omega) (-1000) ⟨fun i' j' _ z => by omega, Or.inl rfl⟩
  refine pk_le 2 n (fun y => ⟨n + 1, ?_⟩) (fun y => yy fun r z => ⟨?_, rl hn g⟩)
  · exact xl_wi16 g hn (fun r z => yy fun r' z' => ⟨by rw [wi_eq y z z'], rl hn g⟩) n 0 (by omega) 0 ⟨fun i' j' _ _ z => by omega, Or.inl rfl⟩
  · rcases z.2 with e | ⟨i, j, x1, x2, _⟩
    · rw [e]; rfl
    · omega
