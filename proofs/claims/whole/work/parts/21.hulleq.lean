theorem cn_0 {f : Nat → Prop} {m : Nat} (h : ∀ i, i < m → ¬ f i) : cn f m = 0 := by
  induction m with
  | zero => rfl
  | succ m ih =>
    show cn f m + ind (f m) = 0
    rw [ih fun i hi => h i (by omega), ind_f (h m (by omega))]
theorem cn_2 {f : Nat → Prop} {a b : Nat} (m : Nat) (h : ∀ i, i < m → f i → i = a ∨ i = b) : cn f m ≤ (if a < m then 1 else 0) + (if b < m then 1 else 0) := by
  induction m with
  | zero => exact Nat.zero_le _
  | succ m ih =>
    have h1 := ih fun i hi => h i (by omega)
    show cn f m + ind (f m) ≤ _
    by_cases z : f m
    · have := h m (by omega) z
      rw [ind_t z]
      split at h1 <;> split at h1 <;> split <;> split <;> omega
    · rw [ind_f z]
      split at h1 <;> split at h1 <;> split <;> split <;> omega
theorem cn_1 {f : Nat → Prop} {a : Nat} (m : Nat) (ha : a < m) (h : f a) : cn f m = cn (fun i => f i ∧ i ≠ a) m + 1 := by
  induction m with
  | zero => omega
  | succ m ih =>
    show cn f m + ind (f m) = cn (fun i => f i ∧ i ≠ a) m + ind (f m ∧ m ≠ a) + 1
    by_cases e : a = m
    · subst e
      have : cn f a = cn (fun i => f i ∧ i ≠ a) a := cn_c fun i hi => ⟨fun x => ⟨x, by omega⟩, fun x => x.1⟩
      rw [this, ind_t h, ind_f (fun x => x.2 rfl)]
    · rw [ih (by omega), ind_c (show (f m ∧ m ≠ a) ↔ f m from ⟨fun x => x.1, fun x => ⟨x, fun y => e y.symm⟩⟩)]
      omega
theorem cn_3 {f : Nat → Prop} {a b c m : Nat} (ha : a < m) (hb : b < m) (hc : c < m) (fa : f a) (fb : f b) (fc : f c) (e1 : b ≠ a) (e2 : c ≠ a) (e3 : c ≠ b) : 3 ≤ cn f m := by
  have h1 := cn_1 m ha fa
  have h2 := cn_1 (f := fun i => f i ∧ i ≠ a) m hb ⟨fb, e1⟩
  have h3 := cn_1 (f := fun i => (f i ∧ i ≠ a) ∧ i ≠ b) m hc ⟨⟨fc, e2⟩, e3⟩
  omega
theorem sF_c {f f' : Nat → Prop} {v : Nat → Int} {m : Nat} (h : ∀ i, i < m → (f i ↔ f' i)) : sF f v m = sF f' v m := by
  induction m with
  | zero => rfl
  | succ m ih =>
    show sF f v m + sel (f m) (v m) 0 = sF f' v m + sel (f' m) (v m) 0
    rw [ih fun i hi => h i (by omega), propext (h m (by omega))]
theorem sF_0 {f : Nat → Prop} {v : Nat → Int} {m : Nat} (h : ∀ i, i < m → ¬ f i) : sF f v m = 0 := by
  induction m with
  | zero => rfl
  | succ m ih =>
    show sF f v m + sel (f m) (v m) 0 = 0
    rw [ih fun i hi => h i (by omega), sel_f (h m (by omega))]; rfl
theorem sF_2 {f : Nat → Prop} {v : Nat → Int} {a b : Nat} (ne : a ≠ b) (m : Nat) (h : ∀ i, i < m → (f i ↔ (i = a ∨ i = b))) : sF f v m = (if a < m then v a else 0) + (if b < m then v b else 0) := by
  induction m with
  | zero => rfl
  | succ m ih =>
    show sF f v m + sel (f m) (v m) 0 = _
    rw [ih fun i hi => h i (by omega)]
    have hm := h m (by omega)
    by_cases ea : m = a
    · subst ea
      rw [sel_t (hm.mpr (Or.inl rfl)), if_neg (Nat.lt_irrefl m), if_pos (Nat.lt_succ_self m)]
      by_cases c : b < m
      · rw [if_pos c, if_pos (by omega)]; omega
      · rw [if_neg c, if_neg (by omega)]; omega
    · by_cases eb : m = b
      · subst eb
        rw [sel_t (hm.mpr (Or.inr rfl))]
        by_cases c : a < m
        · rw [if_pos c, if_neg (by omega), if_pos (by omega), if_pos (by omega)]; omega
        · rw [if_neg c, if_neg (by omega), if_neg (by omega), if_pos (by omega)]; omega
      · rw [sel_f (fun x => (hm.mp x).elim ea eb)]
        have c1 : (if a < m + 1 then v a else 0) = (if a < m then v a else 0) := by
          by_cases c : a < m
          · rw [if_pos c, if_pos (by omega)]
          · rw [if_neg c, if_neg (by omega)]
        have c2 : (if b < m + 1 then v b else 0) = (if b < m then v b else 0) := by
          by_cases c : b < m
          · rw [if_pos c, if_pos (by omega)]
          · rw [if_neg c, if_neg (by omega)]
        rw [c1, c2]; omega
section
variable {n : Nat} {X Y : Nat → Int}
theorem hf_t {H : Nat → Nat → Prop} {i : Nat} (hi : i < n * n) : i / n < n ∧ i % n < n ∧ i = n * (i / n) + i % n := by
  have h0 : 0 < n := by
    rcases Nat.eq_zero_or_pos n with h | h
    · subst h; omega
    · exact h
  exact ⟨Nat.div_lt_of_lt_mul hi, Nat.mod_lt _ h0, (Nat.div_add_mod i n).symm⟩
theorem hf_lt {a b : Nat} (ha : a < n) (hb : b < n) : n * a + b < n * n := by
  have : n * (a + 1) ≤ n * n := Nat.mul_le_mul_left n ha
  rw [Nat.mul_succ] at this
  omega
theorem hf_inj {a b a' b' : Nat} (hb : b < n) (hb' : b' < n) (h : n * a + b = n * a' + b') : a = a' ∧ b = b' := by
  have h1 : (n * a + b) / n = a := by rw [Nat.mul_add_div (by omega), Nat.div_eq_of_lt hb, Nat.add_zero]
  have h2 : (n * a' + b') / n = a' := by rw [Nat.mul_add_div (by omega), Nat.div_eq_of_lt hb', Nat.add_zero]
  have h3 : (n * a + b) % n = b := by rw [Nat.mul_add_mod, Nat.mod_eq_of_lt hb]
  have h4 : (n * a' + b') % n = b' := by rw [Nat.mul_add_mod, Nat.mod_eq_of_lt hb']
  rw [h] at h1 h3
  exact ⟨h1.symm.trans h2, h3.symm.trans h4⟩
theorem cl_0 {a b i j m : Nat} (h : ¬ SP X Y a b) (h1 : tn X Y a b i = 0) (h2 : tn X Y a b j = 0) (h3 : tn X Y a b m = 0) : tn X Y i j m = 0 := by
  have u := sp_n h
  unfold tn at *
  have e : ((X j - X i) * (Y m - Y i) - (Y j - Y i) * (X m - X i)) * ((X b - X a) * (X b - X a) + (Y b - Y a) * (Y b - Y a)) = 0 := by grind
  rcases Int.mul_eq_zero.mp e with z | z
  · exact z
  · exact absurd z u
theorem bt_t {a b m : Nat} (h : BT X Y a b m) : tn X Y a b m = 0 := ((bt_y _ _ _).mp h).2.2
theorem hy_hx {a b : Nat} (h : HY n X Y a b) : HX n X Y a b := by
  obtain ⟨h1, h2, h3, h4, h5⟩ := h
  exact ⟨fun z => h1 (fi_eq h2 h3 z), h2, h3, h4⟩
theorem hx_hy {a b a' b' m' : Nat} (ha' : a' < n) (hb' : b' < n) (hm' : m' < n) (pos : 0 < tn X Y a' b' m') (h : HX n X Y a b) : HY n X Y a b := by
  obtain ⟨h1, h2, h3, h4⟩ := h
  refine ⟨fun e => h1 (e ▸ ⟨rfl, rfl⟩), h2, h3, h4, ?_⟩
  refine Classical.byContradiction fun z => ?_
  have z' : ∀ m, m < n → tn X Y a b m = 0 := fun m hm => by
    rcases h4 m hm with y | y
    · exact absurd ⟨m, hm, y⟩ z
    · exact bt_t y
  have := cl_0 h1 (z' a' ha') (z' b' hb') (z' m' hm')
  omega
/-- all on one line: the two ends, whichever way -/
theorem hx_two {a b a' b' : Nat} (ha : a < n) (hb : b < n) (ha' : a' < n) (hb' : b' < n) (h : HX n X Y a b) (h' : HX n X Y a' b') (al : ∀ m, m < n → BT X Y a b m) (al' : ∀ m, m < n → BT X Y a' b' m) : (a' = a ∧ b' = b) ∨ (a' = b ∧ b' = a) := by
  have k1 := (bt_y _ _ _).mp (al a' ha')
  have k2 := (bt_y _ _ _).mp (al b' hb')
  have k3 := (bt_y _ _ _).mp (al' a ha)
  have k4 := (bt_y _ _ _).mp (al' b hb)
  have bx : ∀ x u v : Int, (x - u) * (x - v) ≤ 0 → ((u ≤ x ∧ x ≤ v) ∨ (v ≤ x ∧ x ≤ u)) := by
    intro x u v z
    rw [al_box, show (u - x) * (v - x) = (x - u) * (x - v) by grind]
    exact z
  have x1 := bx _ _ _ k1.1
  have y1 := bx _ _ _ k1.2.1
  have x2 := bx _ _ _ k2.1
  have y2 := bx _ _ _ k2.2.1
  have x3 := bx _ _ _ k3.1
  have y3 := bx _ _ _ k3.2.1
  have x4 := bx _ _ _ k4.1
  have y4 := bx _ _ _ k4.2.1
  have t1 := k1.2.2
  have key : (SP X Y a' a ∧ SP X Y b' b) ∨ (SP X Y a' b ∧ SP X Y b' a) := by
    unfold SP
    have hx : (X a' = X a ∧ X b' = X b) ∨ (X a' = X b ∧ X b' = X a) := by omega
    have hy : (Y a' = Y a ∧ Y b' = Y b) ∨ (Y a' = Y b ∧ Y b' = Y a) := by omega
    rcases hx with hx | hx <;> rcases hy with hy | hy
    · exact Or.inl ⟨⟨hx.1, hy.1⟩, hx.2, hy.2⟩
    · have e : (X b - X a) * (Y b - Y a) = 0 := by
        unfold tn at t1
        rw [hx.1, hy.1] at t1
        rw [Int.sub_self, Int.mul_zero, Int.sub_zero] at t1
        exact t1
      rcases Int.mul_eq_zero.mp e with z | z
      · exact Or.inr ⟨⟨by omega, by omega⟩, by omega, by omega⟩
      · exact Or.inl ⟨⟨by omega, by omega⟩, by omega, by omega⟩
    · have e : (Y b - Y a) * (X b - X a) = 0 := by
        unfold tn at t1
        rw [hx.1, hy.1] at t1
        rw [Int.sub_self, Int.mul_zero] at t1
        omega
      rcases Int.mul_eq_zero.mp e with z | z
      · exact Or.inr ⟨⟨by omega, by omega⟩, by omega, by omega⟩
      · exact Or.inl ⟨⟨by omega, by omega⟩, by omega, by omega⟩
    · exact Or.inr ⟨⟨hx.1, hy.1⟩, hx.2, hy.2⟩
  rcases key with ⟨z1, z2⟩ | ⟨z1, z2⟩
  · exact Or.inl ⟨fi_eq h'.2.1 h.2.1 z1, fi_eq h'.2.2.1 h.2.2.1 z2⟩
  · exact Or.inr ⟨fi_eq h'.2.1 h.2.2.1 z1, fi_eq h'.2.2.1 h.2.1 z2⟩
theorem hu_eq : (3 ≤ cn (HF n (HX n X Y)) (n * n) ∧ cn (HF n (HX n X Y)) (n * n) = cn (HF n (HY n X Y)) (n * n)) ∨ (cn (HF n (HX n X Y)) (n * n) < 3 ∧ cn (HF n (HY n X Y)) (n * n) = 0) := by
  by_cases hh : ∃ a b m, a < n ∧ b < n ∧ m < n ∧ HX n X Y a b ∧ 0 < tn X Y a b m
  · obtain ⟨a, b, m, ha, hb, hm, h, pos⟩ := hh
    left
    obtain ⟨c, hc, h2⟩ := hx_next ha h
    obtain ⟨d, hd, h3⟩ := hx_next hb h2
    have ab : a ≠ b := fun e => h.1 (e ▸ ⟨rfl, rfl⟩)
    have bc : b ≠ c := fun e => h2.1 (e ▸ ⟨rfl, rfl⟩)
    have ac : c ≠ a := by
      intro e
      subst e
      rcases h2.2.2.2 m hm with z | z
      · rw [tn_sw] at z; omega
      · have := bt_t z; rw [tn_sw] at this; omega
    refine ⟨cn_3 (a := n * a + b) (b := n * b + c) (c := n * c + d) (hf_lt ha hb) (hf_lt hb hc) (hf_lt hc hd) ((hf_e hb).mpr h) ((hf_e hc).mpr h2) ((hf_e hd).mpr h3) ?_ ?_ ?_, ?_⟩
    · exact fun e => ab (hf_inj hc hb e).1.symm
    · exact fun e => ac (hf_inj hd hb e).1
    · exact fun e => bc (hf_inj hd hc e).1.symm
    · exact cn_c fun i hi => ⟨fun z => hx_hy ha hb hm pos z, fun z => hy_hx z⟩
  · right
    have noY : ∀ i, i < n * n → ¬ HF n (HY n X Y) i := by
      intro i hi z
      obtain ⟨h1, h2, _⟩ := hf_t (H := HY n X Y) hi
      obtain ⟨m, hm, pos⟩ := z.2.2.2.2
      exact hh ⟨_, _, m, h1, h2, hm, hy_hx z, pos⟩
    refine ⟨?_, cn_0 noY⟩
    have al : ∀ a b, a < n → b < n → HX n X Y a b → ∀ m, m < n → BT X Y a b m := by
      intro a b ha hb h m hm
      rcases h.2.2.2 m hm with z | z
      · exact absurd ⟨a, b, m, ha, hb, hm, h, z⟩ hh
      · exact z
    by_cases ex : ∃ a b, a < n ∧ b < n ∧ HX n X Y a b
    · obtain ⟨a, b, ha, hb, h⟩ := ex
      have := cn_2 (f := HF n (HX n X Y)) (a := n * a + b) (b := n * b + a) (n * n) (fun i hi z => by
        obtain ⟨h1, h2, e⟩ := hf_t (H := HX n X Y) hi
        rcases hx_two ha hb h1 h2 h z (al a b ha hb h) (al _ _ h1 h2 z) with ⟨e1, e2⟩ | ⟨e1, e2⟩
        · left; rw [e, e1, e2]
        · right; rw [e, e1, e2])
      split at this <;> split at this <;> omega
    · rw [cn_0 (f := HF n (HX n X Y)) fun i hi z => ex ⟨_, _, (hf_t (H := HX n X Y) hi).1, (hf_t (H := HX n X Y) hi).2.1, z⟩]
      omega
theorem ha_eq : sF (HF n (HX n X Y)) (GA n X Y) (n * n) = sF (HF n (HY n X Y)) (GA n X Y) (n * n) := by
  by_cases hh : ∃ a b m, a < n ∧ b < n ∧ m < n ∧ HX n X Y a b ∧ 0 < tn X Y a b m
  · obtain ⟨a, b, m, ha, hb, hm, h, pos⟩ := hh
    exact sF_c fun i hi => ⟨fun z => hx_hy ha hb hm pos z, fun z => hy_hx z⟩
  · have noY : ∀ i, i < n * n → ¬ HF n (HY n X Y) i := by
      intro i hi z
      obtain ⟨h1, h2, _⟩ := hf_t (H := HY n X Y) hi
      obtain ⟨m, hm, pos⟩ := z.2.2.2.2
      exact hh ⟨_, _, m, h1, h2, hm, hy_hx z, pos⟩
    rw [sF_0 noY]
    have al : ∀ a b, a < n → b < n → HX n X Y a b → ∀ m, m < n → BT X Y a b m := by
      intro a b ha hb h m hm
      rcases h.2.2.2 m hm with z | z
      · exact absurd ⟨a, b, m, ha, hb, hm, h, z⟩ hh
      · exact z
    by_cases ex : ∃ a b, a < n ∧ b < n ∧ HX n X Y a b
    · obtain ⟨a, b, ha, hb, h⟩ := ex
      have h' : HX n X Y b a := ⟨fun z => h.1 (sp_sw.mp z), h.2.2.1, h.2.1, fun m hm => Or.inr (bt_sw.mpr (al a b ha hb h m hm))⟩
      have ab : a ≠ b := fun e => h.1 (e ▸ ⟨rfl, rfl⟩)
      rw [sF_2 (a := n * a + b) (b := n * b + a) (fun e => ab (hf_inj hb ha e).1) (n * n) (fun i hi => ⟨fun z => by
        obtain ⟨h1, h2, e⟩ := hf_t (H := HX n X Y) hi
        rcases hx_two ha hb h1 h2 h z (al a b ha hb h) (al _ _ h1 h2 z) with ⟨e1, e2⟩ | ⟨e1, e2⟩
        · left; rw [e, e1, e2]
        · right; rw [e, e1, e2], fun z => by
        rcases z with z | z
        · rw [z]; exact (hf_e hb).mpr h
        · rw [z]; exact (hf_e ha).mpr h'⟩)]
      rw [if_pos (hf_lt ha hb), if_pos (hf_lt hb ha), ga_e hb, ga_e ha]
      have := Int.mul_comm (X a) (Y b)
      omega
    · exact sF_0 fun i hi z => ex ⟨_, _, (hf_t (H := HX n X Y) hi).1, (hf_t (H := HX n X Y) hi).2.1, z⟩
end
