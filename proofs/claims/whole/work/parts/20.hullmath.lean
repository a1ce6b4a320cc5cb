section
variable {n : Nat} {X Y : Nat → Int}
theorem bt_v (b c m : Nat) : BT X Y b c m ↔ ((X m - X b) * (Y c - Y b) = (Y m - Y b) * (X c - X b) ∧ (X m - X b) * (X m - X b) + (Y m - Y b) * (Y m - Y b) ≤ (X m - X b) * (X c - X b) + (Y m - Y b) * (Y c - Y b)) := by
  unfold BT
  have e1 : (X b - X m) * (Y c - Y m) - (Y b - Y m) * (X c - X m) = (Y m - Y b) * (X c - X b) - (X m - X b) * (Y c - Y b) := by grind
  have e2 : (X b - X m) * (X c - X m) + (Y b - Y m) * (Y c - Y m) = (X m - X b) * (X m - X b) + (Y m - Y b) * (Y m - Y b) - ((X m - X b) * (X c - X b) + (Y m - Y b) * (Y c - Y b)) := by grind
  rw [e2]
  constructor
  · rintro ⟨h1, h2⟩; exact ⟨by omega, by omega⟩
  · rintro ⟨h1, h2⟩; exact ⟨by omega, by omega⟩
theorem al_pq {a b : Int} (h : 0 < a * b) (hb : 0 ≤ b) : 0 < a := by
  by_cases c : 0 < a
  · exact c
  · have := Int.mul_nonneg (show 0 ≤ -a by omega) hb
    rw [Int.neg_mul] at this
    omega
/-- the new corner k lies right of the ray to c -/
theorem gw_1 {a1 a2 c1 c2 k1 k2 m1 m2 : Int} (cA : 0 ≤ c1 * a2 - c2 * a1) (kA : 0 ≤ k1 * a2 - k2 * a1) (mA : 0 ≤ m1 * a2 - m2 * a1)
    (kz : k1 * a2 - k2 * a1 = 0 → k1 * k1 + k2 * k2 ≤ a1 * k1 + a2 * k2) (kn : k1 * k1 + k2 * k2 ≠ 0) (kC : 0 < k1 * c2 - k2 * c1) (cm : 0 < c1 * m2 - c2 * m1) : 0 < k1 * m2 - k2 * m1 := by
  have q1 := al_sq k1
  have q2 := al_sq k2
  have hk : 0 < k1 * a2 - k2 * a1 := by
    by_cases z : k1 * a2 - k2 * a1 = 0
    · have h := kz z
      have e : (k1 * c2 - k2 * c1) * (a1 * k1 + a2 * k2) = -((k1 * k1 + k2 * k2) * (c1 * a2 - c2 * a1)) := by grind
      have h1 := Int.mul_pos kC (show 0 < a1 * k1 + a2 * k2 by omega)
      have h2 := Int.mul_nonneg (show 0 ≤ k1 * k1 + k2 * k2 by omega) cA
      omega
    · omega
  have e : (k1 * m2 - k2 * m1) * (c1 * a2 - c2 * a1) = (k1 * c2 - k2 * c1) * (m1 * a2 - m2 * a1) + (c1 * m2 - c2 * m1) * (k1 * a2 - k2 * a1) := by grind
  have h1 := Int.mul_nonneg (Int.le_of_lt kC) mA
  have h2 := Int.mul_pos cm hk
  exact al_pq (by rw [e]; omega) cA
theorem gw_2 {c1 c2 k1 k2 m1 m2 : Int} (kC : 0 < k1 * c2 - k2 * c1) (h1 : m1 * c2 = m2 * c1) (h2 : m1 * m1 + m2 * m2 ≤ m1 * c1 + m2 * c2) (mn : m1 * m1 + m2 * m2 ≠ 0) : 0 < k1 * m2 - k2 * m1 := by
  have q1 := al_sq m1
  have q2 := al_sq m2
  have q3 := al_sq c1
  have q4 := al_sq c2
  have e : (k1 * m2 - k2 * m1) * (c1 * c1 + c2 * c2) = (k1 * c2 - k2 * c1) * (m1 * c1 + m2 * c2) := by grind
  have := Int.mul_pos kC (show 0 < m1 * c1 + m2 * c2 by omega)
  exact al_pq (by rw [e]; omega) (show 0 ≤ c1 * c1 + c2 * c2 by omega)
/-- k on the line through b and c, farther than c -/
theorem gw_3 {a1 a2 c1 c2 k1 k2 : Int} (cA : 0 ≤ c1 * a2 - c2 * a1) (kA : 0 ≤ k1 * a2 - k2 * a1)
    (kz : k1 * a2 - k2 * a1 = 0 → k1 * k1 + k2 * k2 ≤ a1 * k1 + a2 * k2) (cz : c1 * a2 - c2 * a1 = 0 → c1 * c1 + c2 * c2 ≤ a1 * c1 + a2 * c2)
    (kn : k1 * k1 + k2 * k2 ≠ 0) (cnz : c1 * c1 + c2 * c2 ≠ 0) (t : k1 * c2 = k2 * c1) (far : k1 * c1 + k2 * c2 < k1 * k1 + k2 * k2) : c1 * c1 + c2 * c2 < k1 * c1 + k2 * c2 := by
  have q1 := al_sq k1
  have q2 := al_sq k2
  have q3 := al_sq c1
  have q4 := al_sq c2
  have lag : (k1 * c1 + k2 * c2) * (k1 * c1 + k2 * c2) = (k1 * k1 + k2 * k2) * (c1 * c1 + c2 * c2) := by grind
  have kk : 0 < (k1 * k1 + k2 * k2) * (c1 * c1 + c2 * c2) := Int.mul_pos (by omega) (by omega)
  have pos : 0 < k1 * c1 + k2 * c2 := by
    have e1 : (k1 * a2 - k2 * a1) * (c1 * c1 + c2 * c2) = (c1 * a2 - c2 * a1) * (k1 * c1 + k2 * c2) := by grind
    by_cases z : c1 * a2 - c2 * a1 = 0
    · have h1 := cz z
      rw [z, Int.zero_mul] at e1
      have z2 : k1 * a2 - k2 * a1 = 0 := by
        rcases Int.mul_eq_zero.mp e1 with h | h
        · exact h
        · omega
      have h2 := kz z2
      have e2 : (k1 * c1 + k2 * c2) * (a1 * a1 + a2 * a2) = (a1 * k1 + a2 * k2) * (a1 * c1 + a2 * c2) := by grind
      have q5 := al_sq a1
      have q6 := al_sq a2
      have := Int.mul_pos (show 0 < a1 * k1 + a2 * k2 by omega) (show 0 < a1 * c1 + a2 * c2 by omega)
      exact al_pq (by rw [e2]; omega) (show 0 ≤ a1 * a1 + a2 * a2 by omega)
    · have h1 := Int.mul_nonneg kA (show 0 ≤ c1 * c1 + c2 * c2 by omega)
      rw [e1] at h1
      have h2 := al_pn (by omega) h1
      by_cases z2 : k1 * c1 + k2 * c2 = 0
      · rw [z2] at lag; omega
      · omega
  have h3 := Int.mul_pos (show 0 < k1 * k1 + k2 * k2 - (k1 * c1 + k2 * c2) by omega) (show 0 < c1 * c1 + c2 * c2 by omega)
  have e3 : (k1 * k1 + k2 * k2 - (k1 * c1 + k2 * c2)) * (c1 * c1 + c2 * c2) = (k1 * c1 + k2 * c2) * (k1 * c1 + k2 * c2) - (k1 * c1 + k2 * c2) * (c1 * c1 + c2 * c2) := by rw [Int.sub_mul, lag]
  have e4 : (k1 * c1 + k2 * c2 - (c1 * c1 + c2 * c2)) * (k1 * c1 + k2 * c2) = (k1 * c1 + k2 * c2) * (k1 * c1 + k2 * c2) - (k1 * c1 + k2 * c2) * (c1 * c1 + c2 * c2) := by rw [Int.sub_mul, Int.mul_comm (c1 * c1 + c2 * c2)]
  have := al_pq (a := k1 * c1 + k2 * c2 - (c1 * c1 + c2 * c2)) (b := k1 * c1 + k2 * c2) (by rw [e4, ← e3]; exact h3) (by omega)
  omega
theorem gw_4 {c1 c2 k1 k2 m1 m2 : Int} (t : k1 * c2 = k2 * c1) (far : c1 * c1 + c2 * c2 < k1 * c1 + k2 * c2) (cnz : c1 * c1 + c2 * c2 ≠ 0)
    (h : 0 < c1 * m2 - c2 * m1 ∨ (m1 * c2 = m2 * c1 ∧ m1 * m1 + m2 * m2 ≤ m1 * c1 + m2 * c2)) : 0 < k1 * m2 - k2 * m1 ∨ (m1 * k2 = m2 * k1 ∧ m1 * m1 + m2 * m2 ≤ m1 * k1 + m2 * k2) := by
  have q1 := al_sq c1
  have q2 := al_sq c2
  have q3 := al_sq m1
  have q4 := al_sq m2
  rcases h with h | ⟨h1, h2⟩
  · left
    have e : (k1 * m2 - k2 * m1) * (c1 * c1 + c2 * c2) = (c1 * m2 - c2 * m1) * (k1 * c1 + k2 * c2) := by grind
    have := Int.mul_pos h (show 0 < k1 * c1 + k2 * c2 by omega)
    exact al_pq (by rw [e]; omega) (show 0 ≤ c1 * c1 + c2 * c2 by omega)
  · right
    have e1 : (m1 * k2 - m2 * k1) * (c1 * c1 + c2 * c2) = 0 := by grind
    have z : m1 * k2 - m2 * k1 = 0 := by
      rcases Int.mul_eq_zero.mp e1 with h | h
      · exact h
      · omega
    refine ⟨by omega, ?_⟩
    have e2 : (c1 * c1 + c2 * c2) * (m1 * k1 + m2 * k2 - (m1 * c1 + m2 * c2)) = (m1 * c1 + m2 * c2) * (k1 * c1 + k2 * c2 - (c1 * c1 + c2 * c2)) := by grind
    have h3 := Int.mul_nonneg (show 0 ≤ m1 * c1 + m2 * c2 by omega) (show 0 ≤ k1 * c1 + k2 * c2 - (c1 * c1 + c2 * c2) by omega)
    rw [← e2] at h3
    have := al_pn (by omega) h3
    omega
theorem sp_n {b c : Nat} (h : ¬ SP X Y b c) : (X c - X b) * (X c - X b) + (Y c - Y b) * (Y c - Y b) ≠ 0 := al_n0 fun z => h ⟨by omega, by omega⟩
theorem bt_b {b k m : Nat} (h : SP X Y b m) : BT X Y b k m := by
  obtain ⟨h1, h2⟩ := h
  rw [bt_v, ← h1, ← h2]
  simp
theorem bt_k {b k : Nat} : BT X Y b k k := by
  rw [bt_v]
  exact ⟨Int.mul_comm _ _, Int.le_refl _⟩
theorem tn_v (a b m : Nat) : tn X Y a b m = (X m - X b) * (Y a - Y b) - (Y m - Y b) * (X a - X b) := by unfold tn; grind
theorem gw {a b : Nat} (h : ∀ m, m < n → (0 < tn X Y a b m ∨ BT X Y a b m)) : ∀ k, k ≤ n → (∃ m, m < k ∧ ¬ SP X Y b m) → ∃ c, c < k ∧ ¬ SP X Y b c ∧ ∀ m, m < k → (0 < tn X Y b c m ∨ BT X Y b c m) := by
  have hA : ∀ m, m < n → 0 ≤ (X m - X b) * (Y a - Y b) - (Y m - Y b) * (X a - X b) ∧ ((X m - X b) * (Y a - Y b) - (Y m - Y b) * (X a - X b) = 0 → (X m - X b) * (X m - X b) + (Y m - Y b) * (Y m - Y b) ≤ (X a - X b) * (X m - X b) + (Y a - Y b) * (Y m - Y b)) := by
    intro m hm
    rcases h m hm with h1 | h1
    · rw [tn_v] at h1; exact ⟨by omega, fun z => by omega⟩
    · have h2 := (bt_v b a m).mp (bt_sw.mpr h1)
      refine ⟨by omega, fun _ => ?_⟩
      rw [Int.mul_comm (X a - X b), Int.mul_comm (Y a - Y b)]
      exact h2.2
  intro k
  induction k with
  | zero => rintro _ ⟨m, hm, _⟩; omega
  | succ k ih =>
    intro hk hx
    by_cases sk : SP X Y b k
    · have : ∃ m, m < k ∧ ¬ SP X Y b m := by
        obtain ⟨m, hm, z⟩ := hx
        by_cases e : m = k
        · subst e; exact absurd sk z
        · exact ⟨m, by omega, z⟩
      obtain ⟨c, hc, z, all⟩ := ih (by omega) this
      refine ⟨c, by omega, z, fun m hm => ?_⟩
      by_cases e : m = k
      · subst e; exact Or.inr (bt_b sk)
      · exact all m (by omega)
    · by_cases hx2 : ∃ m, m < k ∧ ¬ SP X Y b m
      · obtain ⟨c, hc, z, all⟩ := ih (by omega) hx2
        by_cases good : 0 < tn X Y b c k ∨ BT X Y b c k
        · refine ⟨c, by omega, z, fun m hm => ?_⟩
          by_cases e : m = k
          · subst e; exact good
          · exact all m (by omega)
        · refine ⟨k, by omega, sk, fun m hm => ?_⟩
          by_cases e : m = k
          · subst e; exact Or.inr bt_k
          by_cases em : SP X Y b m
          · exact Or.inr (bt_b em)
          have am := all m (by omega)
          have g1 : ¬ 0 < tn X Y b c k := fun x => good (Or.inl x)
          have g2 : ¬ BT X Y b c k := fun x => good (Or.inr x)
          obtain ⟨mA, _⟩ := hA m (by omega)
          obtain ⟨cA, cz⟩ := hA c (by omega)
          obtain ⟨kA, kz⟩ := hA k (by omega)
          rw [bt_v] at am g2 ⊢
          unfold tn at am g1 ⊢
          have kn := sp_n sk
          have cnz := sp_n z
          have mn := sp_n em
          by_cases t : (X k - X b) * (Y c - Y b) = (Y k - Y b) * (X c - X b)
          · have far : (X k - X b) * (X c - X b) + (Y k - Y b) * (Y c - Y b) < (X k - X b) * (X k - X b) + (Y k - Y b) * (Y k - Y b) := by
              have : ¬ ((X k - X b) * (X k - X b) + (Y k - Y b) * (Y k - Y b) ≤ (X k - X b) * (X c - X b) + (Y k - Y b) * (Y c - Y b)) := fun x => g2 ⟨t, x⟩
              omega
            exact gw_4 t (gw_3 cA kA kz cz kn cnz t far) cnz am
          · left
            have kC : 0 < (X k - X b) * (Y c - Y b) - (Y k - Y b) * (X c - X b) := by
              have e1 := Int.mul_comm (X c - X b) (Y k - Y b)
              have e2 := Int.mul_comm (Y c - Y b) (X k - X b)
              omega
            rcases am with am | am
            · exact gw_1 cA kA mA kz kn kC am
            · exact gw_2 kC am.1 am.2 mn
      · refine ⟨k, by omega, sk, fun m hm => ?_⟩
        by_cases e : m = k
        · subst e; exact Or.inr bt_k
        · refine Or.inr (bt_b ?_)
          by_cases em : SP X Y b m
          · exact em
          · exact absurd ⟨m, by omega, em⟩ hx2
theorem fi_ex (c : Nat) : ∃ d, d ≤ c ∧ FI X Y d ∧ SP X Y d c := by
  induction c using Nat.strongRecOn with
  | ind c ih =>
    by_cases h : FI X Y c
    · exact ⟨c, Nat.le_refl c, h, rfl, rfl⟩
    · have : ∃ m, m < c ∧ SP X Y m c := by
        refine Classical.byContradiction fun z => h fun m hm x => z ⟨m, hm, x⟩
      obtain ⟨m, hm, sp⟩ := this
      obtain ⟨d, hd, fd, sd⟩ := ih m hm
      exact ⟨d, by omega, fd, sd.1.trans sp.1, sd.2.trans sp.2⟩
theorem fi_eq {a b : Nat} (ha : FI X Y a) (hb : FI X Y b) (h : SP X Y a b) : a = b := by
  rcases Nat.lt_trichotomy a b with z | z | z
  · exact absurd h (hb a z)
  · exact z
  · exact absurd (sp_sw.mp h) (ha b z)
theorem hx_next {a b : Nat} (ha : a < n) (h : HX n X Y a b) : ∃ c, c < n ∧ HX n X Y b c := by
  obtain ⟨h1, h2, h3, h4⟩ := h
  obtain ⟨c, hc, z, all⟩ := gw h4 n (Nat.le_refl n) ⟨a, ha, fun x => h1 (sp_sw.mp x)⟩
  obtain ⟨d, hd, fd, sd⟩ := fi_ex (X := X) (Y := Y) c
  refine ⟨d, by omega, fun x => z ⟨x.1.trans sd.1, x.2.trans sd.2⟩, h3, fd, fun m hm => ?_⟩
  have := all m hm
  unfold tn BT at this ⊢
  rw [sd.1, sd.2]
  exact this
end
