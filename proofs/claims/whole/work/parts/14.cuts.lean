noncomputable def lr (A : Nat → Nat → Prop) (p : Nat) : Nat → List Nat
  | 0 => []
  | q + 1 => lr A p q ++ sel (p < q ∧ A p q) [10 * p + q] []
noncomputable def la (A : Nat → Nat → Prop) (n : Nat) : Nat → List Nat
  | 0 => []
  | p + 1 => la A n p ++ lr A p n
theorem lr_len (A : Nat → Nat → Prop) (p q : Nat) : (lr A p q).length ≤ q - (p + 1) := by
  induction q with
  | zero => exact Nat.zero_le _
  | succ q ih =>
    show (lr A p q ++ sel (p < q ∧ A p q) [10 * p + q] []).length ≤ _
    rw [List.length_append]
    by_cases h : p < q ∧ A p q
    · rw [sel_t h]; have := h.1; simp only [List.length_singleton]; omega
    · rw [sel_f h]; simp only [List.length_nil]; omega
theorem lr_0 (A : Nat → Nat → Prop) {p q : Nat} (h : q ≤ p + 1) : lr A p q = [] := by
  have := lr_len A p q
  exact List.eq_nil_of_length_eq_zero (by omega)
theorem la_len (A : Nat → Nat → Prop) {n : Nat} (hn : n ≤ 10) (p : Nat) (hp : p ≤ 10) : (la A n p).length ≤ p * (19 - p) / 2 := by
  induction p with
  | zero => exact Nat.zero_le _
  | succ p ih =>
    have h1 := ih (by omega)
    have h2 := lr_len A p n
    have h3 : ∀ p, p < 10 → p * (19 - p) / 2 + (10 - (p + 1)) ≤ (p + 1) * (19 - (p + 1)) / 2 := by decide
    have h4 := h3 p (by omega)
    show (la A n p ++ lr A p n).length ≤ _
    rw [List.length_append]
    omega
theorem lc_len (A : Nat → Nat → Prop) {n p q : Nat} (hn : n ≤ 10) (hq : q < n) (hp : p < q) : (la A n p ++ lr A p q).length < 45 := by
  have h1 := la_len A hn p (by omega)
  have h2 := lr_len A p q
  have h3 : ∀ p, p < 10 → ∀ q, q < 10 → p < q → p * (19 - p) / 2 + (q - (p + 1)) < 45 := by decide
  have h4 := h3 p (by omega) q (by omega) hp
  rw [List.length_append]
  omega
theorem ld_len (A : Nat → Nat → Prop) {n : Nat} (hn : n ≤ 10) : (la A n n).length ≤ 45 := by
  have h1 := la_len A hn n hn
  have h3 : ∀ p, p ≤ 10 → p * (19 - p) / 2 ≤ 45 := by decide
  have h4 := h3 n hn
  omega
def HP (q : Nat → Int32) (L : List Nat) : Prop := ∀ t v, L[t]? = some v → q t = nI v
theorem hp_app {q : Nat → Int32} {L : List Nat} {v : Nat} (h : HP q L) : HP (upd q L.length (nI v)) (L ++ [v]) := by
  intro t u e
  by_cases c : t < L.length
  · rw [List.getElem?_append_left c] at e
    rw [pk_un (by omega)]
    exact h t u e
  · rw [List.getElem?_append_right (by omega)] at e
    by_cases d : t = L.length
    · subst d
      rw [Nat.sub_self] at e
      cases e
      exact pk_us
    · rw [List.getElem?_eq_none (by simp only [List.length_singleton]; omega)] at e
      cases e
section
variable {n : Nat} {p : Int32} {X Y : Nat → Int} {k l q c : Nat → Int32} {s t w : Nat → Int32}
theorem xb_isCutN {post : Int32 → Prop} {a b : Nat} (g : gr X Y) (hn : n ≤ 10) (ha : a < n) (hb : b < n) (h1 : CUX n X Y a b → post 1) (h0 : ¬ CUX n X Y a b → post 0) : wpX_isCut post (sX n X Y s t w) (nI a) (nI b) := by
  refine xb_isCut g hn (fun a' b' ha' hb' e1 e2 z => ?_) (fun z => h0 (z a b ha hb rfl rfl))
  rw [nI_eq (by omega) (by omega)] at e1 e2
  subst e1 e2
  exact h1 z
theorem xl_cu27 {post : Int32 → Prop} {J : Int32 → Int32 → Prop} {a : Nat} (g : gr X Y) (hn : n ≤ 10) (ha : a < n) (hJ : J (nI (la (CUX n X Y) n (a + 1)).length) (nI (a + 1))) :
    ∀ d b, a < b → b + d = n → wX_cuts_27 post J (nI a) (nI n) (fun i => iN (X i)) (fun i => iN (Y i)) s t w (d + 1) (nI (la (CUX n X Y) n a ++ lr (CUX n X Y) a b).length) (nI b) := by
  intro d
  induction d with
  | zero =>
    intro b hb e
    have e' : b = n := by omega
    subst e'
    exact br_t (nI_le (by omega) (by omega)) (nm_r (nI_1 a) hJ)
  | succ d ih =>
    intro b hb e
    have hs : wX_cuts_27 post J (nI a) (nI n) (fun i => iN (X i)) (fun i => iN (Y i)) s t w (d + 1) (nI (la (CUX n X Y) n a ++ (lr (CUX n X Y) a b ++ sel (a < b ∧ CUX n X Y a b) [10 * a + b] [])).length) (nI (b + 1)) := ih (b + 1) (by omega) (by omega)
    rw [← List.append_assoc] at hs
    refine br_f (nI_ge (by omega) (by omega)) (xb_isCutN g hn ha (by omega) (fun z => bo_1 ?_) (fun z => bo_0 ?_))
    · rw [sel_t ⟨hb, z⟩, List.length_append (bs := [10 * a + b])] at hs
      exact nm_r (nI_1 _) (nm_r (nI_1 b) hs)
    · rw [sel_f (fun x => z x.2), List.append_nil] at hs
      exact nm_r (nI_1 b) hs
theorem xl_cu15 {post : Int32 → Prop} (g : gr X Y) (hn : n ≤ 10) (h : post (nI (la (CUX n X Y) n n).length)) :
    ∀ d a, a + d = n → wX_cuts_15 post (nI n) (fun i => iN (X i)) (fun i => iN (Y i)) s t w (d + 1) (nI (la (CUX n X Y) n a).length) (nI a) := by
  intro d
  induction d with
  | zero =>
    intro a e
    have e' : a = n := by omega
    subst e'
    exact br_t (nI_le (by omega) (by omega)) h
  | succ d ih =>
    intro a e
    have := xl_cu27 (s := s) (t := t) (w := w) (post := post) g hn (by omega) (ih (a + 1) (by omega)) (n - (a + 1)) (a + 1) (by omega) (by omega)
    rw [lr_0 _ (by omega), List.append_nil] at this
    exact br_f (nI_ge (by omega) (by omega)) (nm_r (nI_1 a) ⟨_, this⟩)
theorem xb_cuts {post : Int32 → Prop} (g : gr X Y) (hn : n ≤ 10) (h0 : ¬ PR n X Y → post (-1000)) (h1 : PR n X Y → post (nI (la (CUX n X Y) n n).length)) : wpX_cuts post (sX n X Y s t w) := by
  unfold wpX_cuts
  refine xb_proper g hn (fun y => bo_1 ⟨n + 1, ?_⟩) (fun y => bo_0 (h0 y))
  exact xl_cu15 g hn (h1 y) n 0 (by omega)
theorem yl_lc19 {post : SY → Prop} {J : Int32 → Int32 → (Nat → Int32) → (Nat → Int32) → (Nat → Int32) → (Nat → Int32) → (Nat → Int32) → (Nat → Int32) → Prop} {a : Nat} (g : gr X Y) (hn : n ≤ 10) (ha : a < n)
    (hJ : ∀ q', HP q' (la (CUX n X Y) n (a + 1)) → J (nI (a + 1)) (nI (la (CUX n X Y) n (a + 1)).length) (fun i => iN (X i)) (fun i => iN (Y i)) k l q' c) :
    ∀ d b q, a < b → b + d = n → HP q (la (CUX n X Y) n a ++ lr (CUX n X Y) a b) → wY_listCuts_19 post J (nI a) (nI n) (d + 1) (nI b) (nI (la (CUX n X Y) n a ++ lr (CUX n X Y) a b).length) (fun i => iN (X i)) (fun i => iN (Y i)) k l q c := by
  intro d
  induction d with
  | zero =>
    intro b q hb e z
    have e' : b = n := by omega
    subst e'
    exact br_t (nI_le (by omega) (by omega)) (nm_r (nI_1 a) (hJ q z))
  | succ d ih =>
    intro b q hb e z
    have hl := lc_len (CUX n X Y) hn (show b < n by omega) hb
    have es : la (CUX n X Y) n a ++ lr (CUX n X Y) a (b + 1) = (la (CUX n X Y) n a ++ lr (CUX n X Y) a b) ++ sel (a < b ∧ CUX n X Y a b) [10 * a + b] [] := (List.append_assoc _ _ _).symm
    refine br_f (nI_ge (by omega) (by omega)) (yb_isCut (n := n) (X := X) (Y := Y) g hn ha (by omega) (fun y => bo_1 ?_) (fun y => bo_0 ?_))
    · rw [sel_t ⟨hb, y⟩] at es
      have hs := ih (b + 1) (upd q (la (CUX n X Y) n a ++ lr (CUX n X Y) a b).length (nI (10 * a + b))) (by omega) (by omega) (by rw [es]; exact hp_app z)
      rw [es, List.length_append (bs := [10 * a + b])] at hs
      refine ⟨vp_in_nI hl (by decide), nm_r ?_ (nm_r (nI_1 _) (nm_r (nI_1 b) hs))⟩
      rw [nI_clamp (by omega), show (10 : Int32) * nI a + nI b = nI (10 * a + b) from by rw [show (10 : Int32) * nI a = nI (10 * a) from pk_mul 10 a, nI_add]]
    · rw [sel_f (fun x => y x.2), List.append_nil] at es
      have hs := ih (b + 1) q (by omega) (by omega) (by rw [es]; exact z)
      rw [es] at hs
      exact nm_r (nI_1 b) hs
theorem yl_lc7 {post : SY → Prop} (g : gr X Y) (hn : n ≤ 10) (h : ∀ q', HP q' (la (CUX n X Y) n n) → post (sY n (nI (la (CUX n X Y) n n).length) X Y k l q' c)) :
    ∀ d a q, a + d = n → HP q (la (CUX n X Y) n a) → wY_listCuts_7 post (nI n) (d + 1) (nI a) (nI (la (CUX n X Y) n a).length) (fun i => iN (X i)) (fun i => iN (Y i)) k l q c := by
  intro d
  induction d with
  | zero =>
    intro a q e z
    have e' : a = n := by omega
    subst e'
    exact br_t (nI_le (by omega) (by omega)) (h q z)
  | succ d ih =>
    intro a q e z
    have := yl_lc19 (k := k) (l := l) (c := c) (post := post) g hn (show a < n by omega) (fun q' z' => ih (a + 1) q' (by omega) z') (n - (a + 1)) (a + 1) q (by omega) (by omega) (by rw [lr_0 _ (by omega), List.append_nil]; exact z)
    rw [lr_0 _ (by omega), List.append_nil] at this
    exact br_f (nI_ge (by omega) (by omega)) (nm_r (nI_1 a) ⟨_, this⟩)
theorem yb_listCuts {post : SY → Prop} (g : gr X Y) (hn : n ≤ 10) (h : ∀ q', HP q' (la (CUX n X Y) n n) → post (sY n (nI (la (CUX n X Y) n n).length) X Y k l q' c)) : wpY_listCuts post (sY n p X Y k l q c) :=
  ⟨n + 1, yl_lc7 g hn h n 0 q (by omega) (fun t v e => by cases e)⟩
theorem yb_cuts {post : Int32 → SY → Prop} (g : gr X Y) (hn : n ≤ 10) (h0 : ¬ PR n X Y → post (-1000) (sY n p X Y k l q c)) (h1 : PR n X Y → ∀ q', post (nI (la (CUX n X Y) n n).length) (sY n (nI (la (CUX n X Y) n n).length) X Y k l q' c)) : wpY_cuts post (sY n p X Y k l q c) := by
  unfold wpY_cuts
  refine yb_isProper g hn (fun y => bo_1 ?_) (fun y => bo_0 (h0 y))
  exact yb_listCuts g hn fun q' _ => h1 y q'
/-- a is not above, and not right of, b -/
def lx (X Y : Nat → Int) (a b : Nat) : Prop := Y a < Y b ∨ (Y a = Y b ∧ X a ≤ X b)
theorem yl_lf13 {post : Int32 → Prop} (g : gr X Y) (hn : n ≤ 10) (h : ∀ a, a < n → (∀ m, m < n → lx X Y a m) → (0 < tn X Y (pv n a) a (nx n a) → post 1) ∧ (¬ 0 < tn X Y (pv n a) a (nx n a) → post 0)) :
    ∀ d i a, i + d = n → a < i → (∀ m, m < i → lx X Y a m) → wY_left_13 post (nI n) p (fun i => iN (X i)) (fun i => iN (Y i)) k l q c (d + 1) (nI a) (nI i) := by
  intro d
  induction d with
  | zero =>
    intro i a e ha z
    have e' : i = n := by omega
    subst e'
    have z0 : ¬ nI i = 0 := nI_ne0 (by omega) (by omega)
    have l1 := nx_lt ha
    have l2 := pv_lt ha
    refine br_t (nI_le (by omega) (by omega)) ⟨z0, z0, ?_⟩
    rw [yr_1 hn ha, yr_m hn ha]
    refine yb_turnOf g (by omega) (by omega) (by omega) (xb_pos (sg_sm _) (fun y => ?_) (fun y => ?_))
    · exact (h a ha z).1 ((sg_pos _).mp y)
    · exact (h a ha z).2 fun x => y ((sg_pos _).mpr x)
  | succ d ih =>
    intro i a e ha z
    have ii := vp_in_nI (n := i) (N := 10) (by omega) (by decide)
    have ia := vp_in_nI (n := a) (N := 10) (by omega) (by decide)
    have ci : (nI i).toNatClampNeg = i := nI_clamp (by omega)
    have ca : (nI a).toNatClampNeg = a := nI_clamp (by omega)
    have g1 := g i
    have g2 := g a
    have m1 : sm (Y i) := ⟨by omega, by omega⟩
    have m2 : sm (Y a) := ⟨by omega, by omega⟩
    have m3 : sm (X i) := ⟨by omega, by omega⟩
    have m4 : sm (X a) := ⟨by omega, by omega⟩
    have s1 : ¬ lx X Y a i → wY_left_66 post (wY_left_13 post (nI n) p (fun i => iN (X i)) (fun i => iN (Y i)) k l q c (d + 1)) (nI a) (nI i) (nI n) p (fun i => iN (X i)) (fun i => iN (Y i)) k l q c := fun y =>
      br_f (by decide) (nm_r (nI_1 i) (ih (i + 1) i (by omega) (by omega) fun m hm => by
        unfold lx at y
        by_cases cc : m = i
        · subst cc; exact Or.inr ⟨rfl, Int.le_refl _⟩
        · have := z m (by omega)
          unfold lx at this ⊢
          omega))
    have s0 : lx X Y a i → wY_left_70 post (wY_left_13 post (nI n) p (fun i => iN (X i)) (fun i => iN (Y i)) k l q c (d + 1)) (nI a) (nI i) (nI n) p (fun i => iN (X i)) (fun i => iN (Y i)) k l q c := fun y =>
      br_t rfl (nm_r (nI_1 i) (ih (i + 1) a (by omega) (by omega) fun m hm => by
        by_cases cc : m = i
        · subst cc; exact y
        · exact z m (by omega)))
    refine br_f (nI_ge (by omega) (by omega)) ⟨ii, ia, ib_lt (Y i) (Y a) (by rw [ci]) (by rw [ca]) m1 m2 (fun y => s1 (by unfold lx; omega)) (fun y => ⟨ii, ia, ib_eq (Y i) (Y a) (by rw [ci]) (by rw [ca]) m1 m2 (fun y2 => ⟨ii, ia, ib_le (X a) (X i) (by rw [ca]) (by rw [ci]) m4 m3 (fun y3 => s0 (by unfold lx; omega)) (fun y3 => s1 (by unfold lx; omega))⟩) (fun y2 => s0 (by unfold lx; omega))⟩)⟩
theorem yb_left {post : Int32 → Prop} (g : gr X Y) (hn : n ≤ 10) (h0 : ¬ PR n X Y → post 0) (h : PR n X Y → ∀ a, a < n → (∀ m, m < n → lx X Y a m) → (0 < tn X Y (pv n a) a (nx n a) → post 1) ∧ (¬ 0 < tn X Y (pv n a) a (nx n a) → post 0)) : wpY_left post (sY n p X Y k l q c) := by
  unfold wpY_left
  refine yb_isProper g hn (fun y => bo_1 ⟨n - 1 + 1, ?_⟩) (fun y => bo_0 (h0 y))
  have h3 := y.1
  refine yl_lf13 g hn (h y) (n - 1) 1 0 (by omega) (by omega) (fun m hm => ?_)
  have : m = 0 := by omega
  subst this
  exact Or.inr ⟨rfl, Int.le_refl _⟩
end
