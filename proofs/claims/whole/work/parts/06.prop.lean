section
variable {n : Nat} {X Y : Nat → Int}
def PRY (n : Nat) (X Y : Nat → Int) : Prop := 2 < n ∧ (∀ i k, k < i → i < n → ¬ SP X Y i k) ∧ (∀ i k, k < i → i < n → ¬ (k = i - 1 ∨ (k = 0 ∧ i = n - 1)) → ¬ LM X Y i (nx n i) k (k + 1)) ∧ (∀ i, i < n → ¬ FO n X Y i)
theorem sp_sw {a b : Nat} : SP X Y a b ↔ SP X Y b a := by
  unfold SP; constructor <;> (rintro ⟨h1, h2⟩; exact ⟨h1.symm, h2.symm⟩)
theorem sp_all (h : ∀ i j, i < j → j < n → ¬ SP X Y i j) {a b : Nat} (ha : a < n) (hb : b < n) (ne : a ≠ b) : ¬ SP X Y a b := by
  by_cases c : a < b
  · exact h a b c hb
  · exact fun z => h b a (by omega) ha (sp_sw.mp z)
theorem nx_1 {i : Nat} (h : i + 1 < n) : nx n i = i + 1 := if_pos h
theorem nx_0 {i : Nat} (h : ¬ i + 1 < n) : nx n i = 0 := if_neg h
theorem pv_lt {i : Nat} (h : i < n) : pv n i < n := by unfold pv; split <;> omega
theorem nx_pv {i : Nat} (h : i < n) : nx n (pv n i) = i := by
  unfold pv
  split
  · rw [nx_0 (by omega)]; omega
  · rw [nx_1 (by omega)]; omega
theorem pv_nx {i : Nat} (h : i < n) : pv n (nx n i) = i := by
  by_cases c : i + 1 < n
  · rw [nx_1 c]; unfold pv; rw [if_neg (by omega)]; omega
  · rw [nx_0 c]; unfold pv; rw [if_pos rfl]; omega
theorem nx_ne {i : Nat} (h : i < n) (h2 : 2 ≤ n) : nx n i ≠ i := by
  unfold nx; split <;> omega
theorem pv_ne {i : Nat} (h : i < n) (h2 : 2 ≤ n) : pv n i ≠ i := by
  unfold pv; split <;> omega
theorem pr_eq : PR n X Y ↔ PRY n X Y := by
  constructor
  · rintro ⟨h3, hd, hs⟩
    refine ⟨h3, fun i k a b z => hd k i a b (sp_sw.mp z), fun i k a b c z => ?_, fun i hi z => ?_⟩
    · have e : nx n k = k + 1 := nx_1 (by omega)
      refine hs k i a b (Or.inr (Or.inr ⟨?_, ?_, ?_⟩))
      · rw [e]; omega
      · unfold nx; split <;> omega
      · rw [e, lm_sw]; exact z
    · have m1 := sp_all hd (pv_lt hi) hi (pv_ne hi (by omega))
      have m2 := sp_all hd hi (nx_lt hi) (fun e => nx_ne hi (by omega) e.symm)
      have z2 := (fo_bt m1 m2).mp z
      by_cases c : i = 0
      · subst c
        have e1 : pv n 0 = n - 1 := rfl
        rw [e1] at z2
        refine hs 0 (n - 1) (by omega) (by omega) (Or.inr (Or.inl ⟨?_, ?_, z2⟩))
        · rw [nx_1 (by omega)]; omega
        · rw [nx_0 (by omega)]
      · have e1 : pv n i = i - 1 := if_neg c
        rw [e1] at z2
        refine hs (i - 1) i (by omega) hi (Or.inl ⟨?_, z2⟩)
        rw [nx_1 (by omega)]; omega
  · rintro ⟨h3, hd', hm, hf⟩
    have hd : ∀ i j, i < j → j < n → ¬ SP X Y i j := fun i j a b z => hd' j i a b (sp_sw.mp z)
    refine ⟨h3, hd, fun i j a b z => ?_⟩
    have e : nx n i = i + 1 := nx_1 (by omega)
    rcases z with ⟨c, z⟩ | ⟨c1, c2, z⟩ | ⟨c1, c2, z⟩
    · have m1 := sp_all hd (a := i) (b := j) (by omega) b (by omega)
      have m2 := sp_all hd b (nx_lt b) (fun e => nx_ne b (by omega) e.symm)
      have k := (fo_bt m1 m2).mpr z
      have e1 : pv n j = i := by unfold pv; rw [if_neg (by omega)]; omega
      refine hf j b ?_
      unfold FO
      rw [e1]
      exact k
    · have ej : i = 0 ∧ j = n - 1 := by unfold nx at c2; split at c2 <;> omega
      obtain ⟨rfl, rfl⟩ := ej
      have m1 := sp_all hd (a := n - 1) (b := 0) b (by omega) (by omega)
      have m2 := sp_all hd (a := 0) (b := nx n 0) (by omega) (nx_lt (by omega)) (fun e => nx_ne (show 0 < n by omega) (by omega) e.symm)
      exact hf 0 (by omega) ((fo_bt m1 m2).mpr z)
    · rw [e] at c1
      refine hm j i a b ?_ ?_
      · rintro (q | ⟨q1, q2⟩)
        · omega
        · subst q1 q2; exact c2 (nx_0 (by omega))
      · rw [lm_sw, ← e]; exact z
def CUY (n : Nat) (X Y : Nat → Int) (p q : Nat) : Prop := p ≠ q ∧ ¬ (nx n p = q ∨ nx n q = p) ∧ (∀ i, i < n → ¬ ((i ≠ p ∧ i ≠ q ∧ BT X Y p q i) ∨ (¬ (i = p ∨ i = q ∨ nx n i = p ∨ nx n i = q) ∧ LM X Y p q i (nx n i)))) ∧ plv n X Y (X p + X q) (Y p + Y q) = 1
theorem oe_mid {p i q : Nat} (h : BT X Y p q i) : oE X Y (X p + X q) (Y p + Y q) p i ∨ oE X Y (X p + X q) (Y p + Y q) i q := by
  obtain ⟨e, _⟩ := h
  have k1 : (2 * X p - (X p + X q)) * (2 * Y i - (Y p + Y q)) - (2 * Y p - (Y p + Y q)) * (2 * X i - (X p + X q)) = 0 := by grind
  have k2 : (2 * X i - (X p + X q)) * (2 * Y q - (Y p + Y q)) - (2 * Y i - (Y p + Y q)) * (2 * X q - (X p + X q)) = 0 := by grind
  have k3 : (2 * X p - (X p + X q)) * (2 * X i - (X p + X q)) + (2 * Y p - (Y p + Y q)) * (2 * Y i - (Y p + Y q)) = -((2 * X i - (X p + X q)) * (2 * X q - (X p + X q)) + (2 * Y i - (Y p + Y q)) * (2 * Y q - (Y p + Y q))) := by grind
  unfold oE
  by_cases c : (2 * X p - (X p + X q)) * (2 * X i - (X p + X q)) + (2 * Y p - (Y p + Y q)) * (2 * Y i - (Y p + Y q)) ≤ 0
  · exact Or.inl ⟨k1, c⟩
  · exact Or.inr ⟨k2, by omega⟩
theorem plv_0 {x y : Int} {i : Nat} (hi : i < n) (h : oE X Y x y i (nx n i)) : plv n X Y x y = 0 := by
  unfold plv; exact sel_t ⟨i, hi, h⟩
theorem cu_eq {p q : Nat} (hp : p < n) (hq : q < n) : CUX n X Y p q ↔ CUY n X Y p q := by
  constructor
  · rintro ⟨h1, h2, h3, h4⟩
    refine ⟨h1, h2, fun i hi z => ?_, h4⟩
    rcases z with ⟨c1, c2, z⟩ | ⟨c, z⟩
    · have lm : ∀ j, LM X Y p q i j := fun j => Or.inl z
      have lm' : ∀ j, LM X Y p q j i := fun j => Or.inr (Or.inl z)
      have hh := pv_lt hi
      have e1 := nx_pv hi
      have a1 : nx n i = p ∨ nx n i = q := by
        by_cases d1 : nx n i = p
        · exact Or.inl d1
        by_cases d2 : nx n i = q
        · exact Or.inr d2
        exact absurd (lm _) (h3 i hi (by rintro (y | y | y | y) <;> contradiction))
      have a2 : pv n i = p ∨ pv n i = q := by
        by_cases d1 : pv n i = p
        · exact Or.inl d1
        by_cases d2 : pv n i = q
        · exact Or.inr d2
        refine absurd (lm' (pv n i)) ?_
        have := h3 (pv n i) hh (by rw [e1]; rintro (y | y | y | y) <;> contradiction)
        rwa [e1] at this
      have ne : nx n i ≠ pv n i := by
        unfold nx pv; split <;> split <;> omega
      have no : ∀ a b, a < n → nx n a = b → ¬ oE X Y (X p + X q) (Y p + Y q) a b := by
        intro a b ha e y
        subst e
        have := plv_0 ha y
        omega
      rcases a1 with a1 | a1 <;> rcases a2 with a2 | a2
      · omega
      · rcases oe_mid (bt_sw.mpr z) with y | y
        · rw [Int.add_comm (X q), Int.add_comm (Y q)] at y
          exact no q i hq (by rw [← a2, e1]) y
        · rw [Int.add_comm (X q), Int.add_comm (Y q)] at y
          exact no i p hi a1 y
      · rcases oe_mid z with y | y
        · exact no p i hp (by rw [← a2, e1]) y
        · exact no i q hi a1 y
      · omega
    · exact h3 i hi c z
  · rintro ⟨h1, h2, h3, h4⟩
    exact ⟨h1, h2, fun i hi c z => h3 i hi (Or.inr ⟨c, z⟩), h4⟩
theorem oe_y {x y : Int} (i j : Nat) : oE X Y x y i j ↔ (((2 * X i ≤ x ∧ x ≤ 2 * X j) ∨ (2 * X j ≤ x ∧ x ≤ 2 * X i)) ∧ ((2 * Y i ≤ y ∧ y ≤ 2 * Y j) ∨ (2 * Y j ≤ y ∧ y ≤ 2 * Y i)) ∧ (2 * X j - 2 * X i) * (y - 2 * Y i) - (x - 2 * X i) * (2 * Y j - 2 * Y i) = 0) := by
  unfold oE
  rw [al_box, al_box, show (2 * X j - 2 * X i) * (y - 2 * Y i) - (x - 2 * X i) * (2 * Y j - 2 * Y i) = (2 * X i - x) * (2 * Y j - y) - (2 * Y i - y) * (2 * X j - x) by grind, Int.sub_eq_zero, al_bt]
end
