section
variable {n : Nat} {X Y : Nat → Int}
theorem on_oe {x y : Int} {i j : Nat} (h : on X Y x y i j) : (X i - x) * (Y j - y) - (Y i - y) * (X j - x) = 0 ∧ (X i - x) * (X j - x) + (Y i - y) * (Y j - y) ≤ 0 := by
  obtain ⟨s, t, hs, ht, hst, ex, ey⟩ := h
  constructor
  · have z : (s + t) * ((s + t) * ((X i - x) * (Y j - y) - (Y i - y) * (X j - x))) = (s + t) * ((s + t) * 0) := by grind
    exact al_c hst (al_c hst z)
  · have z : (s + t) * ((s + t) * ((X i - x) * (X j - x) + (Y i - y) * (Y j - y))) = -((s * t) * ((X i - X j) * (X i - X j) + (Y i - Y j) * (Y i - Y j))) := by grind
    have q1 := al_sq (X i - X j)
    have q2 := al_sq (Y i - Y j)
    have q3 := Int.mul_nonneg (Int.mul_nonneg hs ht) (show 0 ≤ (X i - X j) * (X i - X j) + (Y i - Y j) * (Y i - Y j) by omega)
    exact al_pp hst (al_pp hst (by rw [z]; omega))
theorem on_bt {a b c : Nat} (h : on X Y (X c) (Y c) a b) : BT X Y a b c := by
  have := on_oe h
  exact ⟨by omega, this.2⟩
theorem oe_on {x y : Int} {i j : Nat} (ne : ¬ SP X Y i j) (h1 : (X i - x) * (Y j - y) - (Y i - y) * (X j - x) = 0) (h2 : (X i - x) * (X j - x) + (Y i - y) * (Y j - y) ≤ 0) : on X Y x y i j := by
  have q1 := al_sq (X i - x)
  have q2 := al_sq (Y i - y)
  have q3 := al_sq (X j - x)
  have q4 := al_sq (Y j - y)
  have e : (X j - x) * (X j - x) + (Y j - y) * (Y j - y) - ((X i - x) * (X j - x) + (Y i - y) * (Y j - y)) + ((X i - x) * (X i - x) + (Y i - y) * (Y i - y) - ((X i - x) * (X j - x) + (Y i - y) * (Y j - y))) = (X j - X i) * (X j - X i) + (Y j - Y i) * (Y j - Y i) := by grind
  have q5 := al_sq (X j - X i)
  have q6 := al_sq (Y j - Y i)
  have n0 := sp_n ne
  refine ⟨(X j - x) * (X j - x) + (Y j - y) * (Y j - y) - ((X i - x) * (X j - x) + (Y i - y) * (Y j - y)), (X i - x) * (X i - x) + (Y i - y) * (Y i - y) - ((X i - x) * (X j - x) + (Y i - y) * (Y j - y)), by omega, by omega, by omega, ?_, ?_⟩
  · grind
  · grind
theorem mt_lm {a b c d : Nat} (ne : ¬ SP X Y a b) (h : MT (X a) (Y a) (X b) (Y b) (X c) (Y c) (X d) (Y d)) : LM X Y a b c d := by
  obtain ⟨s, t, s', t', hs, ht, hs', ht', hst, e, ex, ey⟩ := h
  by_cases s0 : s = 0
  · refine Or.inr (Or.inr (Or.inr (Or.inl (on_bt ⟨s', t', hs', ht', by omega, ?_, ?_⟩))))
    · rw [← ex, ← e, s0]; grind
    · rw [← ey, ← e, s0]; grind
  by_cases t0 : t = 0
  · refine Or.inr (Or.inr (Or.inl (on_bt ⟨s', t', hs', ht', by omega, ?_, ?_⟩)))
    · rw [← ex, ← e, t0]; grind
    · rw [← ey, ← e, t0]; grind
  by_cases s0' : s' = 0
  · refine Or.inr (Or.inl (on_bt ⟨s, t, hs, ht, hst, ?_, ?_⟩))
    · rw [ex, e, s0']; grind
    · rw [ey, e, s0']; grind
  by_cases t0' : t' = 0
  · refine Or.inl (on_bt ⟨s, t, hs, ht, hst, ?_, ?_⟩)
    · rw [ex, e, t0']; grind
    · rw [ey, e, t0']; grind
  have k1 : s' * tn X Y a b c = -(t' * tn X Y a b d) := by unfold tn; grind
  have k2 : s * tn X Y c d a = -(t * tn X Y c d b) := by unfold tn; grind
  have k3 : tn X Y a b c - tn X Y a b d = tn X Y c d b - tn X Y c d a := by unfold tn; grind
  have p1 : 0 < s := by omega
  have p2 : 0 < t := by omega
  have p3 : 0 < s' := by omega
  have p4 : 0 < t' := by omega
  have sg1 : ∀ {u v p q : Int}, 0 < u → 0 < v → u * p = -(v * q) → (0 < p → q < 0) ∧ (p < 0 → 0 < q) := by
    intro u v p q hu hv z
    refine ⟨fun y => ?_, fun y => ?_⟩
    · have := Int.mul_pos hu y
      have w : v * (-q) = -(v * q) := Int.mul_neg v q
      have := al_pq (a := -q) (b := v) (by rw [Int.mul_comm, w]; omega) (by omega)
      omega
    · have := Int.mul_neg_of_pos_of_neg hu y
      exact al_pq (a := q) (b := v) (by rw [Int.mul_comm]; omega) (by omega)
  rcases Int.lt_trichotomy (tn X Y a b c) 0 with z | z | z
  · have z2 := (sg1 p3 p4 k1).2 z
    have z3 : 0 < tn X Y c d a := by
      rcases Int.lt_trichotomy (tn X Y c d a) 0 with y | y | y
      · have := (sg1 p1 p2 k2).2 y; omega
      · rw [y, Int.mul_zero] at k2
        have : tn X Y c d b = 0 := by
          rcases Int.mul_eq_zero.mp (show t * tn X Y c d b = 0 by omega) with w | w
          · omega
          · exact w
        omega
      · exact y
    have z4 := (sg1 p1 p2 k2).1 z3
    exact Or.inr (Or.inr (Or.inr (Or.inr ⟨by omega, by omega⟩)))
  · have z2 : tn X Y a b d = 0 := by
      rw [z, Int.mul_zero] at k1
      rcases Int.mul_eq_zero.mp (show t' * tn X Y a b d = 0 by omega) with w | w
      · omega
      · exact w
    have z3 : tn X Y c d a = 0 := by
      rcases Int.lt_trichotomy (tn X Y c d a) 0 with y | y | y
      · have := (sg1 p1 p2 k2).2 y; omega
      · exact y
      · have := (sg1 p1 p2 k2).1 y; omega
    have L0 := sp_n ne
    have q1 := al_sq (X b - X a)
    have q2 := al_sq (Y b - Y a)
    have Lp : 0 < (X b - X a) * (X b - X a) + (Y b - Y a) * (Y b - Y a) := by omega
    have bet : ∀ m, tn X Y a b m = 0 → 0 ≤ (X m - X a) * (X b - X a) + (Y m - Y a) * (Y b - Y a) → (X m - X a) * (X b - X a) + (Y m - Y a) * (Y b - Y a) ≤ (X b - X a) * (X b - X a) + (Y b - Y a) * (Y b - Y a) → BT X Y a b m := by
      intro m w1 w2 w3
      rw [bt_v]
      have w4 : (X m - X a) * (Y b - Y a) = (Y m - Y a) * (X b - X a) := by unfold tn at w1; grind
      refine ⟨w4, ?_⟩
      have w5 : ((X b - X a) * (X b - X a) + (Y b - Y a) * (Y b - Y a)) * ((X m - X a) * (X m - X a) + (Y m - Y a) * (Y m - Y a) - ((X m - X a) * (X b - X a) + (Y m - Y a) * (Y b - Y a))) = -(((X m - X a) * (X b - X a) + (Y m - Y a) * (Y b - Y a)) * ((X b - X a) * (X b - X a) + (Y b - Y a) * (Y b - Y a) - ((X m - X a) * (X b - X a) + (Y m - Y a) * (Y b - Y a)))) := by grind
      have w6 := Int.mul_nonneg w2 (show 0 ≤ (X b - X a) * (X b - X a) + (Y b - Y a) * (Y b - Y a) - ((X m - X a) * (X b - X a) + (Y m - Y a) * (Y b - Y a)) by omega)
      have := al_pp Lp (by rw [w5]; omega)
      omega
    by_cases c1 : 0 ≤ (X c - X a) * (X b - X a) + (Y c - Y a) * (Y b - Y a) ∧ (X c - X a) * (X b - X a) + (Y c - Y a) * (Y b - Y a) ≤ (X b - X a) * (X b - X a) + (Y b - Y a) * (Y b - Y a)
    · exact Or.inl (bet c z c1.1 c1.2)
    by_cases c2 : 0 ≤ (X d - X a) * (X b - X a) + (Y d - Y a) * (Y b - Y a) ∧ (X d - X a) * (X b - X a) + (Y d - Y a) * (Y b - Y a) ≤ (X b - X a) * (X b - X a) + (Y b - Y a) * (Y b - Y a)
    · exact Or.inr (Or.inl (bet d z2 c2.1 c2.2))
    refine Or.inr (Or.inr (Or.inl ?_))
    rw [tn_c] at z3
    refine ⟨by omega, ?_⟩
    have f1 : s' * ((X c - X a) * (X b - X a) + (Y c - Y a) * (Y b - Y a)) + t' * ((X d - X a) * (X b - X a) + (Y d - Y a) * (Y b - Y a)) = t * ((X b - X a) * (X b - X a) + (Y b - Y a) * (Y b - Y a)) := by grind
    have f2 : s' * ((X b - X a) * (X b - X a) + (Y b - Y a) * (Y b - Y a) - ((X c - X a) * (X b - X a) + (Y c - Y a) * (Y b - Y a))) + t' * ((X b - X a) * (X b - X a) + (Y b - Y a) * (Y b - Y a) - ((X d - X a) * (X b - X a) + (Y d - Y a) * (Y b - Y a))) = s * ((X b - X a) * (X b - X a) + (Y b - Y a) * (Y b - Y a)) := by grind
    have f3 : ((X b - X a) * (X b - X a) + (Y b - Y a) * (Y b - Y a)) * ((X c - X a) * (X d - X a) + (Y c - Y a) * (Y d - Y a)) = ((X c - X a) * (X b - X a) + (Y c - Y a) * (Y b - Y a)) * ((X d - X a) * (X b - X a) + (Y d - Y a) * (Y b - Y a)) := by unfold tn at z z2; grind
    have g1 := Int.mul_pos p2 Lp
    have g2 := Int.mul_pos p1 Lp
    refine al_pp Lp ?_
    rw [f3]
    generalize (X c - X a) * (X b - X a) + (Y c - Y a) * (Y b - Y a) = p at *
    generalize (X d - X a) * (X b - X a) + (Y d - Y a) * (Y b - Y a) = q at *
    generalize (X b - X a) * (X b - X a) + (Y b - Y a) * (Y b - Y a) = l at *
    rcases Int.lt_or_le p 0 with y | y
    · rcases Int.lt_or_le q 0 with y2 | y2
      · have := Int.mul_neg_of_pos_of_neg p3 y
        have := Int.mul_neg_of_pos_of_neg p4 y2
        omega
      · have := Int.mul_nonneg (show 0 ≤ -p by omega) y2
        rw [Int.neg_mul] at this; omega
    · rcases Int.lt_or_le q 0 with y2 | y2
      · have := Int.mul_nonneg y (show 0 ≤ -q by omega)
        rw [Int.mul_neg] at this; omega
      · have := Int.mul_pos p3 (show 0 < p - l by omega)
        have := Int.mul_pos p4 (show 0 < q - l by omega)
        have w1 : s' * (l - p) = -(s' * (p - l)) := by rw [← Int.mul_neg]; congr 1; omega
        have w2 : t' * (l - q) = -(t' * (q - l)) := by rw [← Int.mul_neg]; congr 1; omega
        omega
  · have z2 := (sg1 p3 p4 k1).1 z
    have z3 : tn X Y c d a < 0 := by
      rcases Int.lt_trichotomy (tn X Y c d a) 0 with y | y | y
      · exact y
      · rw [y, Int.mul_zero] at k2
        have : tn X Y c d b = 0 := by
          rcases Int.mul_eq_zero.mp (show t * tn X Y c d b = 0 by omega) with w | w
          · omega
          · exact w
        omega
      · have := (sg1 p1 p2 k2).1 y; omega
    have z4 := (sg1 p1 p2 k2).2 z3
    exact Or.inr (Or.inr (Or.inr (Or.inr ⟨by omega, by omega⟩)))
theorem pr_pm (h : PR n X Y) : PM n X Y := by
  have hy := pr_eq.mp h
  obtain ⟨h3, hd, hs⟩ := h
  have dis : ∀ i, i < n → ¬ SP X Y i (nx n i) := fun i hi => sp_all hd hi (nx_lt hi) (fun e => nx_ne hi (by omega) e.symm)
  refine ⟨h3, dis, fun i j hi hj e1 e2 e3 mt => ?_, fun i hi a c ha hc z1 z2 => ?_⟩
  · have lm := mt_lm (dis i hi) mt
    have e4 : nx n j ≠ i := fun z => e3 (by rw [← z, pv_nx hj])
    by_cases c : i < j
    · exact hs i j c hj (Or.inr (Or.inr ⟨fun z => e2 z.symm, e4, lm⟩))
    · exact hs j i (by omega) hi (Or.inr (Or.inr ⟨e4, fun z => e2 z.symm, (lm_sw _ _ _ _).mpr lm⟩))
  · refine hy.2.2.2 i hi ⟨?_, ?_⟩
    · refine al_c ha ?_
      unfold tn
      grind
    · have r0 : (X (pv n i) - X i) * (X (pv n i) - X i) + (Y (pv n i) - Y i) * (Y (pv n i) - Y i) ≠ 0 := sp_n (sp_all hd hi (pv_lt hi) (fun e => pv_ne hi (by omega) e.symm))
      have q1 := al_sq (X (pv n i) - X i)
      have q2 := al_sq (Y (pv n i) - Y i)
      have e : a * ((X (nx n i) - X i) * (X (pv n i) - X i) + (Y (nx n i) - Y i) * (Y (pv n i) - Y i)) = c * ((X (pv n i) - X i) * (X (pv n i) - X i) + (Y (pv n i) - Y i) * (Y (pv n i) - Y i)) := by grind
      have := Int.mul_pos hc (show 0 < (X (pv n i) - X i) * (X (pv n i) - X i) + (Y (pv n i) - Y i) * (Y (pv n i) - Y i) by omega)
      exact al_pq (b := a) (by rw [Int.mul_comm, e]; exact this) (by omega)
/-- everything k times as wide -/
def wd (k : Int) (X : Nat → Int) : Nat → Int := fun i => k * X i
theorem qq_w {k : Int} (hk : 0 < k) (a1 a2 b1 b2 : Int) : qq (k * a1) a2 (k * b1) b2 = qq a1 a2 b1 b2 := by
  unfold qq
  rw [show k * a1 * b2 - a2 * (k * b1) = k * (a1 * b2 - a2 * b1) by grind, sg_mp _ hk]
theorem qp_w {k : Int} (hk : 0 < k) (x y : Int) (i j : Nat) : QP (wd k X) Y (k * x) y i j = QP X Y x y i j := by
  unfold QP wd
  rw [← Int.mul_sub, ← Int.mul_sub, qq_w hk]
theorem Hh_w {k : Int} (hk : 0 < k) (x y : Int) : Hh n (wd k X) Y (k * x) y = Hh n X Y x y := by
  unfold Hh
  exact sgc fun j _ => qp_w hk x y j _
theorem KK_w {k : Int} (hk : 0 < k) : KK n (wd k X) Y = KK n X Y := by
  unfold KK
  have h1 : Hh n (wd k X) Y (wd k X 0) (Y 0) = Hh n X Y (X 0) (Y 0) := Hh_w hk _ _
  have h2 : tq n (wd k X) Y 0 = tq n X Y 0 := by
    unfold tq wd
    rw [← Int.mul_sub, ← Int.mul_sub, qq_w hk]
  rw [h1, h2]
theorem PM_w {k : Int} (hk : 0 < k) (pm : PM n X Y) : PM n (wd k X) Y := by
  obtain ⟨h1, h2, h3, h4⟩ := pm
  refine ⟨h1, fun i hi z => h2 i hi ⟨al_c hk z.1, z.2⟩, fun i j hi hj e1 e2 e3 ⟨s, t, s', t', hs, ht, hs', ht', hst, e, ex, ey⟩ => h3 i j hi hj e1 e2 e3 ⟨s, t, s', t', hs, ht, hs', ht', hst, e, ?_, ey⟩, fun i hi a c ha hc z1 z2 => h4 i hi a c ha hc ?_ z2⟩
  · refine al_c hk ?_
    unfold wd at ex
    grind
  · refine al_c hk ?_
    unfold wd at z1
    grind
theorem on_w {k x y : Int} (hk : 0 < k) {i j : Nat} (h : on (wd k X) Y (k * x) y i j) : on X Y x y i j := by
  obtain ⟨s, t, hs, ht, hst, ex, ey⟩ := h
  refine ⟨s, t, hs, ht, hst, ?_, ey⟩
  refine al_c hk ?_
  unfold wd at ex
  grind
theorem dv_15 : ∀ d : Nat, d < 16 → 0 < d → 360360 % d = 0 := by decide +kernel
theorem dv {e : Int} (h1 : -15 ≤ e ∧ e ≤ 15) (h0 : e ≠ 0) : ∃ q : Int, 360360 = e * q := by
  have h := dv_15 e.natAbs (by omega) (by omega)
  have h2 : (e.natAbs : Int) ∣ 360360 := by
    have : e.natAbs ∣ 360360 := Nat.dvd_of_mod_eq_zero h
    exact Int.natCast_dvd_natCast.mpr this
  rw [Int.natAbs_dvd] at h2
  obtain ⟨q, hq⟩ := h2
  exact ⟨q, hq⟩
theorem row_w (g : gr X Y) (y : Int) : rowI n (wd 360360 X) Y y := by
  intro j hj ne bet
  have g1 := g j
  have g2 := g (nx n j)
  obtain ⟨q, hq⟩ := dv (e := Y (nx n j) - Y j) (by omega) (by omega)
  refine ⟨360360 * X j + (y - Y j) * (X (nx n j) - X j) * q, ?_⟩
  rcases bet with ⟨b1, b2⟩ | ⟨b1, b2⟩
  · refine ⟨Y (nx n j) - y, y - Y j, by omega, by omega, by omega, ?_, by grind⟩
    unfold wd
    rw [hq]; grind
  · refine ⟨y - Y (nx n j), Y j - y, by omega, by omega, by omega, ?_, by grind⟩
    unfold wd
    rw [hq]; grind
/-- a point of the grid off the polygon -/
theorem H_off (g : gr X Y) (pm : PM n X Y) {x y : Int} (hx : x ≤ 15) (off : ∀ j, j < n → ¬ on X Y x y j (nx n j)) : Hh n X Y x y = 0 ∨ Hh n X Y x y = KK n X Y + 2 ∨ Hh n X Y x y = KK n X Y - 2 := by
  have hk : (0 : Int) < 360360 := by decide
  have h := walk (M := 360360 * 16) (PM_w hk pm) (row_w g y) (fun j hj => by
    have := g j
    unfold wd
    omega) (360360 * 16 - 360360 * x).toNat (360360 * x) (by omega) (fun j hj o => off j hj (on_w hk o))
  rw [Hh_w hk, KK_w hk] at h
  exact h
end
