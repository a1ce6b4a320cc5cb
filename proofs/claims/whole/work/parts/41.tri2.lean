section
variable {F : Nat → Prop}
theorem zf_ze {p d : Nat} (h : p + (d + 2) < 10) (m : Nat) : nn (Fl p (d + 2)) F (m + 1) = nn (El p (d + 2)) F (m + 1) + sel (F (10 * p + (p + (d + 2)))) (nn (El p (d + 2)) F m) 0 := by
  have e : Fl p (d + 2) = (10 * p + (p + (d + 2))) :: El p (d + 2) := by
    show (10 * p + (p + 2 + d)) :: (rrow p d ++ Fl (p + 1) (d + 1)) = _
    rw [show p + 2 + d = p + (d + 2) by omega]
    rfl
  rw [e, nn]
  congr 2
  exact nn_c _ _ _ m fun y hy => ⟨fun w => w.1, fun w => ⟨w, d2_all p (by omega) (d + 2) (by omega) (by omega) y hy⟩⟩
theorem g_s {p d j : Nat} (hp : p + 1 + d < 10) (hj : j + 2 ≤ d) (m : Nat) : nn (rrow p (j + 1) ++ Fl (p + 1) d) F (m + 1) = nn (rrow p j ++ Fl (p + 1) d) F (m + 1) + sel (F (10 * p + (p + 2 + j))) (sn (fun i => nn (El p (j + 2)) F i * nn (Fl (p + 2 + j) (d - 1 - j)) F (m - i)) (m + 1)) 0 := by
  have e3 := d3_all p (by omega) d (by omega) j (by omega) hj
  show nn ((10 * p + (p + 2 + j)) :: (rrow p j ++ Fl (p + 1) d)) F (m + 1) = _
  rw [nn]
  congr 2
  rw [← nn_flt (ncB (10 * p + (p + 2 + j))) _ _ _ (fun x _ w => w.2)]
  have e5 : nn ((rrow p j ++ Fl (p + 1) d).filter (ncB (10 * p + (p + 2 + j)))) (fun y => F y ∧ ncB (10 * p + (p + 2 + j)) y = true) m = nn ((rrow p j ++ Fl (p + 1) d).filter (ncB (10 * p + (p + 2 + j)))) F m := nn_c _ _ _ m fun y hy => ⟨fun w => w.1, fun w => ⟨w, (List.mem_filter.mp hy).2⟩⟩
  rw [e5, e3]
  exact nn_app _ _ F m (d4_all p (by omega) j (by omega) (d - 1 - j) (by omega))
theorem bd (d : Nat) : ∀ p, p + d < 10 → (2 ≤ d → ∀ m, d - 1 ≤ m → nn (El p d) F m = 0) ∧ (1 ≤ d → ∀ m, d ≤ m → nn (Fl p d) F m = 0) := by
  induction d using Nat.strongRecOn with
  | ind d ih =>
    intro p hp
    have h1 : 2 ≤ d → ∀ m, d - 1 ≤ m → nn (El p d) F m = 0 := by
      intro hd
      obtain ⟨e, rfl⟩ : ∃ e, d = e + 1 := ⟨d - 1, by omega⟩
      have key : ∀ j, j + 1 ≤ e → ∀ m, e ≤ m → nn (rrow p j ++ Fl (p + 1) e) F m = 0 := by
        intro j
        induction j with
        | zero => intro _ m hm; exact (ih e (by omega) (p + 1) (by omega)).2 (by omega) m hm
        | succ j ihj =>
          intro hj m hm
          obtain ⟨m', rfl⟩ : ∃ m', m = m' + 1 := ⟨m - 1, by omega⟩
          rw [g_s (by omega) (by omega), ihj (by omega) (m' + 1) hm, sn_0 (fun i hi => ?_)]
          · by_cases c : F (10 * p + (p + 2 + j))
            · rw [sel_t c]
            · rw [sel_f c]
          · by_cases c : j + 1 ≤ i
            · rw [(ih (j + 2) (by omega) p (by omega)).1 (by omega) i (by omega), Nat.zero_mul]
            · rw [(ih (e - 1 - j) (by omega) (p + 2 + j) (by omega)).2 (by omega) (m' - i) (by omega), Nat.mul_zero]
      intro m hm
      exact key (e + 1 - 2) (by omega) m (by omega)
    refine ⟨h1, fun hd m hm => ?_⟩
    rcases Nat.lt_or_ge d 2 with c | c
    · have : d = 1 := by omega
      subst this
      show nn [] F m = 0
      rw [nn_nil, if_neg (by omega)]
    · obtain ⟨e, rfl⟩ : ∃ e, d = e + 2 := ⟨d - 2, by omega⟩
      obtain ⟨m', rfl⟩ : ∃ m', m = m' + 1 := ⟨m - 1, by omega⟩
      rw [zf_ze hp, h1 c (m' + 1) (by omega), h1 c m' (by omega)]
      by_cases z : F (10 * p + (p + (e + 2)))
      · rw [sel_t z]
      · rw [sel_f z]
/-- the tilings of the part with the corners p to p + d, that line a cut or a side -/
noncomputable def dv' (F : Nat → Prop) (p d : Nat) : Nat := if d = 1 then 1 else sel (F (10 * p + (p + d))) (nn (El p d) F (d - 2)) 0
theorem zf_top {p d : Nat} (hd : 1 ≤ d) (hp : p + d < 10) : nn (Fl p d) F (d - 1) = dv' F p d := by
  unfold dv'
  rcases Nat.lt_or_ge d 2 with c | c
  · have : d = 1 := by omega
    subst this
    rfl
  · obtain ⟨e, rfl⟩ : ∃ e, d = e + 2 := ⟨d - 2, by omega⟩
    rw [if_neg (by omega)]
    show nn (Fl p (e + 2)) F (e + 1) = sel (F (10 * p + (p + (e + 2)))) (nn (El p (e + 2)) F e) 0
    rw [zf_ze hp, (bd (e + 2) p hp).1 (by omega) (e + 1) (by omega), Nat.zero_add]
theorem tri_sum {p e : Nat} (he : 1 ≤ e) (hp : p + 1 + e < 10) : nn (El p (e + 1)) F (e - 1) = sn (fun i => dv' F p (i + 1) * dv' F (p + i + 1) (e - i)) e := by
  have key : ∀ j, j + 1 ≤ e → nn (rrow p j ++ Fl (p + 1) e) F (e - 1) = sn (fun i => dv' F p (i + 1) * dv' F (p + i + 1) (e - i)) (j + 1) := by
    intro j
    induction j with
    | zero =>
      intro _
      show nn (Fl (p + 1) e) F (e - 1) = 0 + dv' F p (0 + 1) * dv' F (p + 0 + 1) (e - 0)
      rw [zf_top he (by omega), show dv' F p (0 + 1) = 1 from rfl]
      show dv' F (p + 1) e = 0 + 1 * dv' F (p + 1) e
      omega
    | succ j ihj =>
      intro hj
      obtain ⟨f, rfl⟩ : ∃ f, e = f + 2 := ⟨e - 2, by omega⟩
      show nn (rrow p (j + 1) ++ Fl (p + 1) (f + 2)) F (f + 1) = sn (fun i => dv' F p (i + 1) * dv' F (p + i + 1) (f + 2 - i)) (j + 1) + dv' F p (j + 1 + 1) * dv' F (p + (j + 1) + 1) (f + 2 - (j + 1))
      have h1 := ihj (by omega)
      rw [show f + 2 - 1 = f + 1 from rfl] at h1
      have h2 : sn (fun i => nn (El p (j + 2)) F i * nn (Fl (p + 2 + j) (f + 2 - 1 - j)) F (f - i)) (f + 1) = nn (El p (j + 2)) F j * nn (Fl (p + 2 + j) (f + 2 - 1 - j)) F (f - j) := by
        refine sn_1 (by omega) (fun i hi ne => ?_)
        rcases Nat.lt_or_ge i j with c | c
        · rw [(bd (f + 2 - 1 - j) (p + 2 + j) (by omega)).2 (by omega) (f - i) (by omega), Nat.mul_zero]
        · rw [(bd (j + 2) p (by omega)).1 (by omega) i (by omega), Nat.zero_mul]
      rw [g_s hp (by omega), h1, h2]
      congr 1
      have t := zf_top (F := F) (p := p + 2 + j) (d := f + 2 - 1 - j) (by omega) (by omega)
      rw [show f + 2 - 1 - j - 1 = f - j by omega] at t
      rw [t, ← sel_m]
      rw [show p + (j + 1) + 1 = p + 2 + j by omega, show f + 2 - (j + 1) = f + 2 - 1 - j by omega]
      congr 1
      unfold dv'
      rw [if_neg (by omega), show p + (j + 1 + 1) = p + 2 + j by omega]
      rfl
  obtain ⟨f, rfl⟩ : ∃ f, e = f + 1 := ⟨e - 1, by omega⟩
  exact key f (by omega)
end
/-- all pairs, as the reference lists them -/
def lrC (p : Nat) : Nat → List Nat
  | 0 => []
  | q + 1 => lrC p q ++ (if p < q then [10 * p + q] else [])
def laC (n : Nat) : Nat → List Nat
  | 0 => []
  | p + 1 => laC n p ++ lrC p n
def nbB (n c : Nat) : Bool := decide (c % 10 = c / 10 + 1) || (decide (c / 10 = 0) && decide (c % 10 = n - 1))
theorem la_perm : ∀ n, n < 11 → 3 ≤ n → (laC n n).Perm (El 0 (n - 1) ++ (laC n n).filter (nbB n)) := by decide +kernel
theorem la_mem : ∀ n, n < 11 → 3 ≤ n → ∀ c ∈ laC n n, c / 10 < n ∧ c % 10 < n := by decide +kernel
noncomputable def fl (F : Nat → Prop) : List Nat → List Nat
  | [] => []
  | x :: l => sel (F x) (x :: fl F l) (fl F l)
theorem fl_app (F : Nat → Prop) (l l' : List Nat) : fl F (l ++ l') = fl F l ++ fl F l' := by
  induction l with
  | nil => rfl
  | cons x l ih =>
    rw [List.cons_append, fl, fl, ih]
    by_cases h : F x
    · rw [sel_t h, sel_t h]; rfl
    · rw [sel_f h, sel_f h]
theorem nn_fl (A : Nat → Prop) (l : List Nat) : ∀ (F : Nat → Prop) (k : Nat), nn (fl A l) F k = nn l (fun y => F y ∧ A y) k := by
  induction l with
  | nil => intro F k; show nn [] F k = _; rw [nn_nil, nn_nil]
  | cons x l ih =>
    intro F k
    rw [fl]
    by_cases h : A x
    · rw [sel_t h]
      cases k with
      | zero => rw [nn_0, nn_0]
      | succ k =>
        rw [nn, nn, ih, ih, show (F x ∧ A x) = F x from propext ⟨fun w => w.1, fun w => ⟨w, h⟩⟩]
        congr 2
        exact nn_c l _ _ k fun y _ => ⟨fun w => ⟨⟨w.1.1, w.2⟩, w.1.2⟩, fun w => ⟨⟨w.1.1, w.2⟩, w.1.2⟩⟩
    · rw [sel_f h, ih, nn_x fun w => h w.2]
def dc (A : Nat → Nat → Prop) (c : Nat) : Prop := A (c / 10) (c % 10)
theorem dc_e {A : Nat → Nat → Prop} {p q : Nat} (hq : q < 10) : dc A (10 * p + q) = A p q := by
  unfold dc
  rw [show (10 * p + q) / 10 = p by omega, show (10 * p + q) % 10 = q by omega]
theorem lr_fl (A : Nat → Nat → Prop) (p q : Nat) (hq : q ≤ 10) : lr A p q = fl (dc A) (lrC p q) := by
  induction q with
  | zero => rfl
  | succ q ih =>
    rw [lr, lrC, fl_app, ih (by omega)]
    congr 1
    by_cases h : p < q
    · rw [if_pos h]
      show sel (p < q ∧ A p q) [10 * p + q] [] = sel (dc A (10 * p + q)) [10 * p + q] []
      rw [dc_e (by omega), show (p < q ∧ A p q) = A p q from propext ⟨fun w => w.2, fun w => ⟨h, w⟩⟩]
    · rw [if_neg h, sel_f fun w => h w.1]; rfl
theorem la_fl (A : Nat → Nat → Prop) (n p : Nat) (hn : n ≤ 10) : la A n p = fl (dc A) (laC n p) := by
  induction p with
  | zero => rfl
  | succ p ih => rw [la, laC, fl_app, ih, lr_fl A p n hn]
theorem nn_tail {F : Nat → Prop} (l' : List Nat) (h : ∀ x, x ∈ l' → ¬ F x) (k : Nat) : nn l' F k = nn [] F k := by
  induction l' with
  | nil => rfl
  | cons x l' ih => rw [nn_x (h x (List.mem_cons_self ..)), ih fun y hy => h y (List.mem_cons_of_mem _ hy)]
theorem nn_ext (l' : List Nat) (l : List Nat) : ∀ (F : Nat → Prop) (k : Nat), (∀ x, x ∈ l' → ¬ F x) → nn (l ++ l') F k = nn l F k := by
  induction l with
  | nil => intro F k h; exact nn_tail l' h k
  | cons x l ih =>
    intro F k h
    rw [List.cons_append]
    cases k with
    | zero => rw [nn_0, nn_0]
    | succ k => rw [nn, nn, ih F (k + 1) h, ih _ k fun y hy w => h y hy w.1]
/-- what the reference counts, over the chords of the polygon -/
theorem la_nn {A : Nat → Nat → Prop} {n : Nat} (hn : n ≤ 10) (h3 : 3 ≤ n) (hA : ∀ p q, p < n → q < n → (q = p + 1 ∨ (p = 0 ∧ q = n - 1)) → ¬ A p q) (k : Nat) : nn (la A n n) (fun _ => True) k = nn (El 0 (n - 1)) (dc A) k := by
  rw [la_fl A n n hn, nn_fl, nn_perm (la_perm n (by omega) h3), nn_ext _ _ _ _ (fun x hx w => ?_)]
  · exact nn_c _ _ _ k fun y _ => ⟨fun w => w.2, fun w => ⟨trivial, w⟩⟩
  · obtain ⟨m1, m2⟩ := List.mem_filter.mp hx
    obtain ⟨r1, r2⟩ := la_mem n (by omega) h3 x m1
    unfold nbB at m2
    simp only [Bool.or_eq_true, Bool.and_eq_true, decide_eq_true_eq] at m2
    exact hA _ _ r1 r2 m2 w.2
