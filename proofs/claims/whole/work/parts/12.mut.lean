def us (X : Nat → Int) (j : Nat) (v : Int) : Nat → Int := fun i => if i = j then v else X i
theorem up_e (X : Nat → Int) (j : Nat) (v : Int) : upd (fun i => iN (X i)) j (iN v) = fun i => iN (us X j v i) := by
  funext i
  unfold upd us
  split <;> rfl
def ok (X : Nat → Int) : Prop := ∀ i, 0 ≤ X i ∧ X i ≤ 15
theorem ok_us {X : Nat → Int} (h : ok X) {j : Nat} {v : Int} (hv : 0 ≤ v ∧ v ≤ 15) : ok (us X j v) := by
  intro i
  unfold us
  split
  · exact hv
  · exact h i
theorem gr_ok {X Y : Nat → Int} : gr X Y ↔ ok X ∧ ok Y := ⟨fun h => ⟨fun i => (h i).1, fun i => (h i).2⟩, fun h i => ⟨h.1 i, h.2 i⟩⟩
theorem pt_of {z : Int32} (h : 0 ≤ z.toInt ∧ z.toInt < 256) : ∃ m : Nat, m < 256 ∧ z = nI m := by
  have h0 : ¬ z < 0 := by rw [Int32.lt_iff_toInt_lt, show (0 : Int32).toInt = 0 from by decide]; omega
  obtain ⟨j, hj, rfl⟩ := nI_of h0
  rw [nI_toInt hj] at h
  exact ⟨j, by omega, rfl⟩
theorem pt_r {m : Nat} (h : m < 256) : nI m - nI m / 16 * 16 = iN ((m % 16 : Nat) : Int) := by
  rw [show nI m - nI m / 16 * 16 = nI (m % 16) from pk_rem (d := 16) (by omega) (by omega) (by omega), ie_nI]
theorem pt_q {m : Nat} (h : m < 256) : nI m / 16 = iN ((m / 16 : Nat) : Int) := by
  rw [show nI m / 16 = nI (m / 16) from pk_div (d := 16) (by omega) (by omega) (by omega), ie_nI]
theorem nz16 : ¬ (16 : Int32) = 0 := by decide
/-- upwards by one from k on -/
def shU (X : Nat → Int) (n k : Nat) : Nat → Int := fun j => if k < j ∧ j ≤ n then X (j - 1) else X j
def shD (X : Nat → Int) (i k : Nat) : Nat → Int := fun j => if i ≤ j ∧ j < k then X (j + 1) else X j
theorem shU_s (X : Nat → Int) {n k : Nat} (h : k + 1 ≤ n) : us (shU X n (k + 1)) (k + 1) (shU X n (k + 1) k) = shU X n k := by
  funext j
  unfold us shU
  by_cases c : j = k + 1
  · subst c; rw [if_pos rfl, if_neg (by omega), if_pos (by omega)]; congr 1
  · rw [if_neg c]
    by_cases d : k + 1 < j ∧ j ≤ n
    · rw [if_pos d, if_pos (by omega)]
    · rw [if_neg d, if_neg (by omega)]
theorem shU_0 (X : Nat → Int) (n : Nat) : shU X n n = X := by
  funext j; unfold shU; rw [if_neg (by omega)]
theorem shD_s (X : Nat → Int) {i k : Nat} (h : i ≤ k) : us (shD X i k) k (shD X i k (k + 1)) = shD X i (k + 1) := by
  funext j
  unfold us shD
  by_cases c : j = k
  · subst c; rw [if_pos rfl, if_neg (by omega), if_pos (by omega)]
  · rw [if_neg c]
    by_cases d : i ≤ j ∧ j < k
    · rw [if_pos d, if_pos (by omega)]
    · rw [if_neg d, if_neg (by omega)]
theorem shD_0 (X : Nat → Int) (i : Nat) : shD X i i = X := by
  funext j; unfold shD; rw [if_neg (by omega)]
theorem ok_shU {X : Nat → Int} (h : ok X) (n k : Nat) : ok (shU X n k) := by
  intro j; unfold shU; split <;> exact h _
theorem ok_shD {X : Nat → Int} (h : ok X) (n k : Nat) : ok (shD X n k) := by
  intro j; unfold shD; split <;> exact h _
section
variable {n : Nat} {p : Int32} {X Y : Nat → Int} {k l q c : Nat → Int32} {s t w : Nat → Int32}
theorem xb_setCorner {post : SX → Prop} {i m : Nat} (hi : i < 10) (hm : m < 256) (h : post (sX n (us X i ((m % 16 : Nat) : Int)) (us Y i ((m / 16 : Nat) : Int)) s t w)) : wpX_setCorner post (sX n X Y s t w) (nI i) (nI m) := by
  have ii := vp_in_nI (n := i) (N := 10) (by omega) (by decide)
  refine ⟨nz16, ii, nm_r ?_ ⟨nz16, ii, nm_r ?_ h⟩⟩
  · rw [pt_r hm, nI_clamp (n := i) (by omega), up_e]
  · rw [pt_q hm, nI_clamp (n := i) (by omega), up_e]
theorem xb_corner {post : Int32 → SX → Prop} {z : Int32} (hn : n ≤ 10) (h0 : ¬ (0 ≤ z.toInt ∧ z.toInt < 256) → post (-1) (sX n X Y s t w)) (h1 : (0 ≤ z.toInt ∧ z.toInt < 256) → n = 10 → post (-2) (sX n X Y s t w))
    (h2 : ∀ m, m < 256 → z = nI m → n < 10 → post (nI n) (sX (n + 1) (us X n ((m % 16 : Nat) : Int)) (us Y n ((m / 16 : Nat) : Int)) s t w)) : wpX_corner post (sX n X Y s t w) z := by
  unfold wpX_corner
  refine xb_isPoint (fun y => bo_1 ?_) (fun y => bo_0 (h0 y))
  obtain ⟨m, hm, rfl⟩ := pt_of y
  refine pk_lt n 10 (fun e => xb_setCorner (by omega) hm ?_) (fun e => h1 y (by omega)) (hb := by decide)
  refine nm_r (nI_1 n) ?_
  rw [nI_pred]
  exact h2 m hm rfl e
theorem yb_corner {post : Int32 → SY → Prop} {z : Int32} (hn : n ≤ 10) (h0 : ¬ (0 ≤ z.toInt ∧ z.toInt < 256) → post (-1) (sY n p X Y k l q c)) (h1 : (0 ≤ z.toInt ∧ z.toInt < 256) → n = 10 → post (-2) (sY n p X Y k l q c))
    (h2 : ∀ m, m < 256 → z = nI m → n < 10 → post (nI n) (sY (n + 1) p (us X n ((m % 16 : Nat) : Int)) (us Y n ((m / 16 : Nat) : Int)) k l q c)) : wpY_corner post (sY n p X Y k l q c) z := by
  unfold wpY_corner
  refine yb_isPoint (fun y => bo_1 ?_) (fun y => bo_0 (h0 y))
  obtain ⟨m, hm, rfl⟩ := pt_of y
  refine pk_eq n 10 (fun e => h1 y e) (fun e => ?_) (hb := by decide)
  have ii := vp_in_nI (n := n) (N := 10) (by omega) (by decide)
  refine ⟨nz16, ii, nm_r (e' := fun i => iN (us X n ((m % 16 : Nat) : Int) i)) ?_ ⟨nz16, ii, nm_r (e' := fun i => iN (us Y n ((m / 16 : Nat) : Int) i)) ?_ (nm_r (nI_1 n) ?_)⟩⟩
  · rw [pt_r hm, nI_clamp (n := n) (by omega), up_e]
  · rw [pt_q hm, nI_clamp (n := n) (by omega), up_e]
  · rw [nI_pred]
    exact h2 m hm rfl (by omega)
theorem xl_in38 {post : Int32 → SX → Prop} {i m : Nat} (hn : n < 10) (hi : i ≤ n) (hm : m < 256) (h : post (nI (n + 1)) (sX (n + 1) (us (shU X n i) i ((m % 16 : Nat) : Int)) (us (shU Y n i) i ((m / 16 : Nat) : Int)) s t w)) :
    ∀ d, i + d ≤ n → wX_insert_38 post (nI i) (nI m) (nI n) (d + 1) (nI (i + d)) (fun j => iN (shU X n (i + d) j)) (fun j => iN (shU Y n (i + d) j)) s t w := by
  intro d
  induction d with
  | zero =>
    intro _
    exact br_t (nI_le (by omega) (by omega)) (xb_setCorner (n := n) (X := shU X n i) (Y := shU Y n i) (by omega) hm (nm_r (nI_1 n) h))
  | succ d ih =>
    intro hd
    have i1 := vp_in_nI (n := i + d) (N := 10) (by omega) (by decide)
    have i2 := vp_in_nI (n := i + d + 1) (N := 10) (by omega) (by decide)
    rw [show i + (d + 1) = i + d + 1 from rfl]
    refine br_f (nI_ge (by omega) (by omega)) ?_
    rw [nI_pred]
    refine ⟨i1, i2, nm_r (e' := fun j => iN (shU X n (i + d) j)) ?_ ⟨i1, i2, nm_r (e' := fun j => iN (shU Y n (i + d) j)) ?_ (nm_r (pk_m1 (i + d)) (ih (by omega)))⟩⟩
    · rw [nI_clamp (n := i + d + 1) (by omega), nI_clamp (n := i + d) (by omega)]
      show upd _ _ (iN (shU X n (i + d + 1) (i + d))) = _
      refine (up_e _ _ _).trans ?_
      rw [shU_s X (by omega)]
    · rw [nI_clamp (n := i + d + 1) (by omega), nI_clamp (n := i + d) (by omega)]
      show upd _ _ (iN (shU Y n (i + d + 1) (i + d))) = _
      refine (up_e _ _ _).trans ?_
      rw [shU_s Y (by omega)]
theorem xb_insert {post : Int32 → SX → Prop} {z1 z : Int32} (hn : n ≤ 10) (h0 : ¬ ((0 ≤ z.toInt ∧ z.toInt < 256) ∧ ∃ i, i ≤ n ∧ z1 = nI i) → post (-1) (sX n X Y s t w)) (h1 : ((0 ≤ z.toInt ∧ z.toInt < 256) ∧ ∃ i, i ≤ n ∧ z1 = nI i) → n = 10 → post (-2) (sX n X Y s t w))
    (h2 : ∀ i m, i ≤ n → m < 256 → z1 = nI i → z = nI m → n < 10 → post (nI (n + 1)) (sX (n + 1) (us (shU X n i) i ((m % 16 : Nat) : Int)) (us (shU Y n i) i ((m / 16 : Nat) : Int)) s t w)) : wpX_insert post (sX n X Y s t w) z1 z := by
  unfold wpX_insert
  refine xb_isPoint (fun y => bo_1 ?_) (fun y => bo_0 (h0 fun x => y x.1))
  refine br_c (fun y1 => h0 ?_) (fun y1 => ?_)
  · rintro ⟨_, i, hi, rfl⟩
    exact nI_pos (by omega) y1
  · obtain ⟨i, hi, rfl⟩ := nI_of y1
    refine pk_le i n (fun e => pk_lt n 10 (fun e2 => ?_) (fun e2 => h1 ⟨y, i, e, rfl⟩ (by omega)) (hb := by decide)) (fun e => h0 ?_)
    · obtain ⟨m, hm, rfl⟩ := pt_of y
      have := xl_in38 (X := X) (Y := Y) (s := s) (t := t) (w := w) e2 e hm (h2 i m e hm rfl rfl e2) (n - i) (by omega)
      rw [show i + (n - i) = n by omega, shU_0, shU_0] at this
      exact ⟨_, this⟩
    · rintro ⟨_, j, hj, ej⟩
      rw [nI_eq (by omega) (by omega)] at ej
      omega
theorem yl_in39 {post : Int32 → SY → Prop} {i m : Nat} (hn : n < 10) (hi : i ≤ n) (hm : m < 256) (h : post (nI (n + 1)) (sY (n + 1) p (us (shU X n i) i ((m % 16 : Nat) : Int)) (us (shU Y n i) i ((m / 16 : Nat) : Int)) k l q c)) :
    ∀ d, i + d ≤ n → wY_insert_39 post (nI i) (nI m) (nI n) p (d + 1) (nI (i + d)) (fun j => iN (shU X n (i + d) j)) (fun j => iN (shU Y n (i + d) j)) k l q c := by
  intro d
  induction d with
  | zero =>
    intro _
    have ii := vp_in_nI (n := i) (N := 10) (by omega) (by decide)
    refine br_t (nI_le (by omega) (by omega)) ⟨nz16, ii, nm_r (e' := fun j => iN (us (shU X n i) i ((m % 16 : Nat) : Int) j)) ?_ ⟨nz16, ii, nm_r (e' := fun j => iN (us (shU Y n i) i ((m / 16 : Nat) : Int) j)) ?_ (nm_r (nI_1 n) h)⟩⟩
    · rw [pt_r hm, nI_clamp (n := i) (by omega)]; exact up_e _ _ _
    · rw [pt_q hm, nI_clamp (n := i) (by omega)]; exact up_e _ _ _
  | succ d ih =>
    intro hd
    have i1 := vp_in_nI (n := i + d) (N := 10) (by omega) (by decide)
    have i2 := vp_in_nI (n := i + d + 1) (N := 10) (by omega) (by decide)
    rw [show i + (d + 1) = i + d + 1 from rfl]
    refine br_f (nI_ge (by omega) (by omega)) ?_
    rw [nI_pred]
    refine ⟨i1, i2, nm_r (e' := fun j => iN (shU X n (i + d) j)) ?_ ⟨i1, i2, nm_r (e' := fun j => iN (shU Y n (i + d) j)) ?_ (nm_r (pk_m1 (i + d)) (ih (by omega)))⟩⟩
    · rw [nI_clamp (n := i + d + 1) (by omega), nI_clamp (n := i + d) (by omega)]
      show upd _ _ (iN (shU X n (i + d + 1) (i + d))) = _
      refine (up_e _ _ _).trans ?_
      rw [shU_s X (by omega)]
    · rw [nI_clamp (n := i + d + 1) (by omega), nI_clamp (n := i + d) (by omega)]
      show upd _ _ (iN (shU Y n (i + d + 1) (i + d))) = _
      refine (up_e _ _ _).trans ?_
      rw [shU_s Y (by omega)]
theorem yb_insert {post : Int32 → SY → Prop} {z1 z : Int32} (hn : n ≤ 10) (h0 : ¬ ((0 ≤ z.toInt ∧ z.toInt < 256) ∧ ∃ i, i ≤ n ∧ z1 = nI i) → post (-1) (sY n p X Y k l q c)) (h1 : ((0 ≤ z.toInt ∧ z.toInt < 256) ∧ ∃ i, i ≤ n ∧ z1 = nI i) → n = 10 → post (-2) (sY n p X Y k l q c))
    (h2 : ∀ i m, i ≤ n → m < 256 → z1 = nI i → z = nI m → n < 10 → post (nI (n + 1)) (sY (n + 1) p (us (shU X n i) i ((m % 16 : Nat) : Int)) (us (shU Y n i) i ((m / 16 : Nat) : Int)) k l q c)) : wpY_insert post (sY n p X Y k l q c) z1 z := by
  unfold wpY_insert
  refine yb_isPoint (fun y => bo_1 ?_) (fun y => bo_0 (h0 fun x => y x.1))
  refine br_c (fun y1 => h0 ?_) (fun y1 => ?_)
  · rintro ⟨_, i, hi, rfl⟩
    exact nI_pos (by omega) y1
  · obtain ⟨i, hi, rfl⟩ := nI_of y1
    refine pk_le i n (fun e => pk_eq n 10 (fun e2 => h1 ⟨y, i, e, rfl⟩ e2) (fun e2 => ?_) (hb := by decide)) (fun e => h0 ?_)
    · obtain ⟨m, hm, rfl⟩ := pt_of y
      have e3 : n < 10 := Nat.lt_of_le_of_ne hn e2
      have := yl_in39 (X := X) (Y := Y) (p := p) (k := k) (l := l) (q := q) (c := c) e3 e hm (h2 i m e hm rfl rfl e3) (n - i) (by omega)
      rw [show i + (n - i) = n by omega, shU_0, shU_0] at this
      exact ⟨_, this⟩
    · rintro ⟨_, j, hj, ej⟩
      rw [nI_eq (by omega) (by omega)] at ej
      omega
theorem xl_re31 {post : Int32 → SX → Prop} {z : Int32} {i m : Nat} (hn : m + 1 ≤ 10) (hi : i ≤ m) (h : post z (sX m (shD X i m) (shD Y i m) s t w)) :
    ∀ d j, i ≤ j → j + d = m → wX_remove_31 post z (nI (m + 1)) (d + 1) (nI (j + 1)) (fun x => iN (shD X i j x)) (fun x => iN (shD Y i j x)) s t w := by
  intro d
  induction d with
  | zero =>
    intro j hj e
    have e' : j = m := by omega
    subst e'
    exact br_t (nI_le (by omega) (by omega)) (nm_r (nI_pred j) h)
  | succ d ih =>
    intro j hj e
    have i1 := vp_in_nI (n := j) (N := 10) (by omega) (by decide)
    have i2 := vp_in_nI (n := j + 1) (N := 10) (by omega) (by decide)
    refine br_f (nI_ge (by omega) (by omega)) ?_
    rw [nI_pred]
    refine ⟨i2, i1, nm_r (e' := fun x => iN (shD X i (j + 1) x)) ?_ ⟨i2, i1, nm_r (e' := fun x => iN (shD Y i (j + 1) x)) ?_ (nm_r (nI_1 (j + 1)) (ih (j + 1) (by omega) (by omega)))⟩⟩
    · rw [nI_clamp (n := j) (by omega), nI_clamp (n := j + 1) (by omega)]
      show upd _ _ (iN (shD X i j (j + 1))) = _
      refine (up_e _ _ _).trans ?_
      rw [shD_s X hj]
    · rw [nI_clamp (n := j) (by omega), nI_clamp (n := j + 1) (by omega)]
      show upd _ _ (iN (shD Y i j (j + 1))) = _
      refine (up_e _ _ _).trans ?_
      rw [shD_s Y hj]
theorem xb_remove {post : Int32 → SX → Prop} {z : Int32} (hn : n ≤ 10) (h0 : (∀ a, a < n → z ≠ nI a) → post (-1) (sX n X Y s t w))
    (h1 : ∀ a m, a < n → n = m + 1 → z = nI a → post (iN (16 * Y a + X a)) (sX m (shD X a m) (shD Y a m) s t w)) : wpX_remove post (sX n X Y s t w) z := by
  unfold wpX_remove
  refine xb_isCorner hn (fun a ha e => bo_1 ?_) (fun y => bo_0 (h0 y))
  subst e
  obtain ⟨m, rfl⟩ : ∃ m, n = m + 1 := ⟨n - 1, by omega⟩
  have ia := vp_in_nI (n := a) (N := 10) (by omega) (by decide)
  refine ⟨ia, ia, nm_r (e' := iN (16 * Y a + X a)) ?_ (nm_r (nI_1 a) ?_)⟩
  · rw [nI_clamp (n := a) (by omega)]
    show 16 * iN (Y a) + iN (X a) = _
    rw [ie_16, ie_mul, ie_add]
  · have := xl_re31 (X := X) (Y := Y) (s := s) (t := t) (w := w) (i := a) (by omega) (by omega) (h1 a m ha rfl rfl) (m - a) a (by omega) (by omega)
    rw [shD_0, shD_0] at this
    exact ⟨_, this⟩
theorem yl_re43 {post : Int32 → SY → Prop} {z : Int32} {i m : Nat} (hn : m + 1 ≤ 10) (hi : i ≤ m) (h : post z (sY m p (shD X i m) (shD Y i m) k l q c)) :
    ∀ d j, i ≤ j → j + d = m → wY_remove_43 post z (nI m) p (d + 1) (nI j) (fun x => iN (shD X i j x)) (fun x => iN (shD Y i j x)) k l q c := by
  intro d
  induction d with
  | zero =>
    intro j hj e
    have e' : j = m := by omega
    subst e'
    exact br_t (nI_le (by omega) (by omega)) h
  | succ d ih =>
    intro j hj e
    have i1 := vp_in_nI (n := j) (N := 10) (by omega) (by decide)
    have i2 := vp_in_nI (n := j + 1) (N := 10) (by omega) (by decide)
    refine br_f (nI_ge (by omega) (by omega)) ?_
    rw [nI_1 j]
    refine ⟨i2, i1, nm_r (e' := fun x => iN (shD X i (j + 1) x)) ?_ ⟨i2, i1, nm_r (e' := fun x => iN (shD Y i (j + 1) x)) ?_ (nm_e (ih (j + 1) (by omega) (by omega)))⟩⟩
    · rw [nI_clamp (n := j) (by omega), nI_clamp (n := j + 1) (by omega)]
      show upd _ _ (iN (shD X i j (j + 1))) = _
      refine (up_e _ _ _).trans ?_
      rw [shD_s X hj]
    · rw [nI_clamp (n := j) (by omega), nI_clamp (n := j + 1) (by omega)]
      show upd _ _ (iN (shD Y i j (j + 1))) = _
      refine (up_e _ _ _).trans ?_
      rw [shD_s Y hj]
theorem yb_remove {post : Int32 → SY → Prop} {z : Int32} (hn : n ≤ 10) (h0 : (∀ a, a < n → z ≠ nI a) → post (-1) (sY n p X Y k l q c))
    (h1 : ∀ a m, a < n → n = m + 1 → z = nI a → post (iN (16 * Y a + X a)) (sY m p (shD X a m) (shD Y a m) k l q c)) : wpY_remove post (sY n p X Y k l q c) z := by
  refine br_c (fun y => h0 fun a ha e => by subst e; exact nI_pos (by omega) y) (fun y => ?_)
  obtain ⟨a, ha, rfl⟩ := nI_of y
  refine pk_lt a n (fun e => ?_) (fun e => h0 fun b hb eb => by rw [nI_eq (by omega) (by omega)] at eb; omega)
  obtain ⟨m, rfl⟩ : ∃ m, n = m + 1 := ⟨n - 1, by omega⟩
  have ia := vp_in_nI (n := a) (N := 10) (by omega) (by decide)
  refine ⟨ia, ia, nm_r (e' := iN (16 * Y a + X a)) ?_ (nm_r (nI_pred m) ?_)⟩
  · rw [nI_clamp (n := a) (by omega)]
    show 16 * iN (Y a) + iN (X a) = _
    rw [ie_16, ie_mul, ie_add]
  · have := yl_re43 (X := X) (Y := Y) (p := p) (k := k) (l := l) (q := q) (c := c) (i := a) (by omega) (by omega) (h1 a m e rfl rfl) (m - a) a (by omega) (by omega)
    rw [shD_0, shD_0] at this
    exact ⟨_, this⟩
end
