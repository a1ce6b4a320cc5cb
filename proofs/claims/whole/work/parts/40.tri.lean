/-- two chords, as codes 10 p + q, that don't cross -/
def ncB (c d : Nat) : Bool := !((decide (c / 10 < d / 10) && decide (d / 10 < c % 10) && decide (c % 10 < d % 10)) || (decide (d / 10 < c / 10) && decide (c / 10 < d % 10) && decide (d % 10 < c % 10)))
theorem ncB_s (c d : Nat) : ncB c d = ncB d c := by
  unfold ncB
  rw [Bool.or_comm]
/-- the sets of k chords of the list that keep F and don't cross -/
noncomputable def nn : List Nat → (Nat → Prop) → Nat → Nat
  | [], _, 0 => 1
  | [], _, _ + 1 => 0
  | _ :: l, F, 0 => nn l F 0
  | x :: l, F, k + 1 => nn l F (k + 1) + sel (F x) (nn l (fun y => F y ∧ ncB x y = true) k) 0
theorem nn_0 (l : List Nat) (F : Nat → Prop) : nn l F 0 = 1 := by
  induction l with
  | nil => rfl
  | cons x l ih => rw [nn]; exact ih
theorem nn_nil (F : Nat → Prop) (k : Nat) : nn [] F k = if k = 0 then 1 else 0 := by
  cases k with
  | zero => rfl
  | succ k => rfl
theorem nn_c (l : List Nat) : ∀ (F G : Nat → Prop) (k : Nat), (∀ x, x ∈ l → (F x ↔ G x)) → nn l F k = nn l G k := by
  induction l with
  | nil => intro F G k _; rw [nn_nil, nn_nil]
  | cons x l ih =>
    intro F G k h
    cases k with
    | zero => rw [nn_0, nn_0]
    | succ k =>
      rw [nn, nn, ih F G (k + 1) fun y hy => h y (List.mem_cons_of_mem _ hy), ih (fun y => F y ∧ ncB x y = true) (fun y => G y ∧ ncB x y = true) k fun y hy => by rw [h y (List.mem_cons_of_mem _ hy)], propext (h x (List.mem_cons_self ..))]
theorem nn_x {x : Nat} {l : List Nat} {F : Nat → Prop} {k : Nat} (h : ¬ F x) : nn (x :: l) F k = nn l F k := by
  cases k with
  | zero => rw [nn_0, nn_0]
  | succ k => rw [nn, sel_f h]; rfl
theorem nn_swap (x y : Nat) (l : List Nat) (F : Nat → Prop) (k : Nat) : nn (x :: y :: l) F k = nn (y :: x :: l) F k := by
  cases k with
  | zero => rw [nn_0, nn_0]
  | succ k =>
    rw [nn, nn, nn, nn]
    cases k with
    | zero => rw [nn_0, nn_0, nn_0, nn_0]; omega
    | succ k =>
      rw [nn, nn]
      have e : nn l (fun z => (F z ∧ ncB x z = true) ∧ ncB y z = true) k = nn l (fun z => (F z ∧ ncB y z = true) ∧ ncB x z = true) k := nn_c l _ _ k fun z _ => ⟨fun w => ⟨⟨w.1.1, w.2⟩, w.1.2⟩, fun w => ⟨⟨w.1.1, w.2⟩, w.1.2⟩⟩
      rw [e]
      by_cases fx : F x
      · by_cases fy : F y
        · by_cases c : ncB x y = true
          · have c1 : F y ∧ ncB x y = true := ⟨fy, c⟩
            have c2 : F x ∧ ncB y x = true := ⟨fx, by rw [ncB_s]; exact c⟩
            simp only [sel_t fx, sel_t fy, sel_t c1, sel_t c2]; omega
          · have c1 : ¬ (F y ∧ ncB x y = true) := fun w => c w.2
            have c2 : ¬ (F x ∧ ncB y x = true) := fun w => c (by rw [ncB_s]; exact w.2)
            simp only [sel_t fx, sel_t fy, sel_f c1, sel_f c2]; omega
        · have c1 : ¬ (F y ∧ ncB x y = true) := fun w => fy w.1
          simp only [sel_t fx, sel_f fy, sel_f c1]; omega
      · have c2 : ¬ (F x ∧ ncB y x = true) := fun w => fx w.1
        by_cases fy : F y
        · simp only [sel_f fx, sel_t fy, sel_f c2]; omega
        · simp only [sel_f fx, sel_f fy]
theorem nn_perm {l l' : List Nat} (h : l.Perm l') : ∀ (F : Nat → Prop) (k : Nat), nn l F k = nn l' F k := by
  induction h with
  | nil => intro F k; rfl
  | cons x _ ih =>
    intro F k
    cases k with
    | zero => rw [nn_0, nn_0]
    | succ k => rw [nn, nn, ih, ih]
  | swap x y l => intro F k; exact nn_swap y x l F k
  | trans _ _ ih1 ih2 => intro F k; rw [ih1, ih2]
theorem nn_flt (g : Nat → Bool) (l : List Nat) : ∀ (F : Nat → Prop) (k : Nat), (∀ x, x ∈ l → F x → g x = true) → nn (l.filter g) F k = nn l F k := by
  induction l with
  | nil => intro F k _; rfl
  | cons x l ih =>
    intro F k h
    have hl : ∀ y, y ∈ l → F y → g y = true := fun y hy => h y (List.mem_cons_of_mem _ hy)
    by_cases c : g x = true
    · rw [List.filter_cons_of_pos c]
      cases k with
      | zero => rw [nn_0, nn_0]
      | succ k => rw [nn, nn, ih F (k + 1) hl, ih _ k fun y hy w => hl y hy w.1]
    · rw [List.filter_cons_of_neg c, ih F k hl, nn_x fun w => c (h x (List.mem_cons_self ..) w)]
def sn (f : Nat → Nat) : Nat → Nat
  | 0 => 0
  | m + 1 => sn f m + f m
theorem sn_c {f f' : Nat → Nat} {m : Nat} (h : ∀ i, i < m → f i = f' i) : sn f m = sn f' m := by
  induction m with
  | zero => rfl
  | succ m ih =>
    show sn f m + f m = sn f' m + f' m
    rw [ih fun i hi => h i (by omega), h m (by omega)]
theorem sn_0 {f : Nat → Nat} {m : Nat} (h : ∀ i, i < m → f i = 0) : sn f m = 0 := by
  induction m with
  | zero => rfl
  | succ m ih =>
    show sn f m + f m = 0
    rw [ih fun i hi => h i (by omega), h m (by omega)]
theorem sn_s (f : Nat → Nat) (m : Nat) : sn f (m + 1) = f 0 + sn (fun i => f (i + 1)) m := by
  induction m with
  | zero => show 0 + f 0 = f 0 + 0; omega
  | succ m ih =>
    show sn f (m + 1) + f (m + 1) = f 0 + (sn (fun i => f (i + 1)) m + f (m + 1))
    rw [ih]; omega
theorem sn_add (f f' : Nat → Nat) (m : Nat) : sn (fun i => f i + f' i) m = sn f m + sn f' m := by
  induction m with
  | zero => rfl
  | succ m ih =>
    show sn (fun i => f i + f' i) m + (f m + f' m) = sn f m + f m + (sn f' m + f' m)
    rw [ih]; omega
theorem sn_1 {f : Nat → Nat} {a m : Nat} (ha : a < m) (h : ∀ i, i < m → i ≠ a → f i = 0) : sn f m = f a := by
  induction m with
  | zero => omega
  | succ m ih =>
    show sn f m + f m = f a
    by_cases e : a = m
    · subst e
      rw [sn_0 fun i hi => h i (by omega) (by omega)]; omega
    · rw [ih (by omega) fun i hi => h i (by omega), h m (by omega) (fun z => e z.symm)]; rfl
theorem sel_m (p : Prop) (a b : Nat) : sel p a 0 * b = sel p (a * b) 0 := by
  by_cases h : p
  · rw [sel_t h, sel_t h]
  · rw [sel_f h, sel_f h, Nat.zero_mul]
theorem sel_sn (p : Prop) (f : Nat → Nat) (m : Nat) : sn (fun i => sel p (f i) 0) m = sel p (sn f m) 0 := by
  by_cases h : p
  · rw [sel_t h]; exact sn_c fun i _ => sel_t h
  · rw [sel_f h]; exact sn_0 fun i _ => sel_f h
/-- two lists that don't cross each other -/
theorem nn_app (l2 : List Nat) (l1 : List Nat) : ∀ (F : Nat → Prop) (m : Nat), (∀ x, x ∈ l1 → ∀ y, y ∈ l2 → ncB x y = true) → nn (l1 ++ l2) F m = sn (fun i => nn l1 F i * nn l2 F (m - i)) (m + 1) := by
  induction l1 with
  | nil =>
    intro F m _
    rw [sn_1 (a := 0) (by omega) (fun i _ ne => by rw [nn_nil, if_neg ne, Nat.zero_mul]), nn_nil, if_pos rfl, Nat.one_mul]
    rfl
  | cons x l1 ih =>
    intro F m h
    cases m with
    | zero => rw [nn_0]; show 1 = 0 + nn (x :: l1) F 0 * nn l2 F (0 - 0); rw [nn_0, nn_0]
    | succ m =>
      have h1 : ∀ z, z ∈ l1 → ∀ y, y ∈ l2 → ncB z y = true := fun z hz => h z (List.mem_cons_of_mem _ hz)
      have e2 : ∀ k, nn l2 (fun y => F y ∧ ncB x y = true) k = nn l2 F k := fun k => nn_c l2 _ _ k fun y hy => ⟨fun w => w.1, fun w => ⟨w, h x (List.mem_cons_self ..) y hy⟩⟩
      rw [List.cons_append, nn, ih F (m + 1) h1, ih _ m h1, sn_s, sn_s (fun i => nn (x :: l1) F i * nn l2 F (m + 1 - i)), nn_0, nn_0]
      have e3 : sn (fun i => nn (x :: l1) F (i + 1) * nn l2 F (m + 1 - (i + 1))) (m + 1) = sn (fun i => nn l1 F (i + 1) * nn l2 F (m + 1 - (i + 1)) + sel (F x) (nn l1 (fun y => F y ∧ ncB x y = true) i * nn l2 (fun y => F y ∧ ncB x y = true) (m - i)) 0) (m + 1) := by
        refine sn_c fun i hi => ?_
        rw [nn, Nat.add_mul, sel_m, e2, show m + 1 - (i + 1) = m - i by omega]
      rw [e3, sn_add, sel_sn]
      omega
def rrow (p : Nat) : Nat → List Nat
  | 0 => []
  | j + 1 => (10 * p + (p + 2 + j)) :: rrow p j
/-- the chords between the corners p to p + d -/
def Fl : Nat → Nat → List Nat
  | _, 0 => []
  | p, d + 1 => rrow p d ++ Fl (p + 1) d
/-- without the one from p to p + d -/
def El (p d : Nat) : List Nat := rrow p (d - 2) ++ Fl (p + 1) (d - 1)
theorem d2_all : ∀ p, p < 10 → ∀ d, d < 10 - p → 2 ≤ d → ∀ y ∈ El p d, ncB (10 * p + (p + d)) y = true := by decide +kernel
theorem d3_all : ∀ p, p < 10 → ∀ d, d < 9 - p → ∀ j, j < d → j + 2 ≤ d → (rrow p j ++ Fl (p + 1) d).filter (ncB (10 * p + (p + 2 + j))) = El p (j + 2) ++ Fl (p + 2 + j) (d - 1 - j) := by decide +kernel
theorem d4_all : ∀ p, p < 10 → ∀ j, j < 10 - p → ∀ e, e < 10 - (p + 2 + j) → ∀ x ∈ El p (j + 2), ∀ y ∈ Fl (p + 2 + j) e, ncB x y = true := by decide +kernel
