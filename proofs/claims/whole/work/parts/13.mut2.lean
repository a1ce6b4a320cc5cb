theorem mv_t {z : Int} (h : -2147483648 ≤ z ∧ z < 2147483664) : (0 ≤ (iN z).toInt ∧ (iN z).toInt < 16) ↔ (0 ≤ z ∧ z ≤ 15) := by
  by_cases c : z < 2147483648
  · have : (iN z).toInt = z := Int32.toInt_ofInt_of_le (by omega) (by omega)
    rw [this]; omega
  · have e : iN z = iN (z - 4294967296) := by
      have h1 : z = (z - 4294967296) + 4294967296 := by omega
      have h2 : iN 4294967296 = 0 := by decide +kernel
      conv => lhs; rw [h1]
      rw [← ie_add, h2, Int32.add_zero]
    have : (iN (z - 4294967296)).toInt = z - 4294967296 := Int32.toInt_ofInt_of_le (by omega) (by omega)
    rw [e, this]; omega
theorem in_dx (z : Int32) : ∃ d : Int, z = iN d ∧ -2147483648 ≤ d ∧ d < 2147483648 := by
  refine ⟨z.toInt, (Int32.ofInt_toInt z).symm, ?_, ?_⟩
  · have := Int32.le_toInt z; omega
  · have := Int32.toInt_lt z; omega
def mvF (X : Nat → Int) (d : Int) (k : Nat) : Nat → Int := fun j => if j < k then X j + d else X j
theorem mvF_s (X : Nat → Int) (d : Int) (k : Nat) : us (mvF X d k) k (mvF X d k k + d) = mvF X d (k + 1) := by
  funext j
  unfold us mvF
  by_cases c : j = k
  · subst c; rw [if_pos rfl, if_neg (by omega), if_pos (by omega)]
  · rw [if_neg c]
    by_cases e : j < k
    · rw [if_pos e, if_pos (by omega)]
    · rw [if_neg e, if_neg (by omega)]
theorem mvF_0 (X : Nat → Int) (d : Int) : mvF X d 0 = X := by
  funext j; unfold mvF; rw [if_neg (by omega)]
theorem ok_mvF {X : Nat → Int} {d : Int} {n : Nat} (h : ok X) (h2 : ∀ i, i < n → 0 ≤ X i + d ∧ X i + d ≤ 15) : ok (mvF X d n) := by
  intro j; unfold mvF
  split
  · exact h2 j ‹_›
  · exact h j
def MV (n : Nat) (X Y : Nat → Int) (d e : Int) (i : Nat) : Prop := (0 ≤ X i + d ∧ X i + d ≤ 15) ∧ (0 ≤ Y i + e ∧ Y i + e ≤ 15)
/-- reversed at both ends as far as k -/
def rvF (X : Nat → Int) (n k : Nat) : Nat → Int := fun j => if (0 < j ∧ j < k ∧ j < n) ∨ (n - k < j ∧ j < n) then X (n - j) else X j
def rvE (X : Nat → Int) (n : Nat) : Nat → Int := fun j => if 0 < j ∧ j < n then X (n - j) else X j
theorem rvF_1 (X : Nat → Int) (n : Nat) : rvF X n 1 = X := by
  funext j; unfold rvF; rw [if_neg (by omega)]
theorem rvF_s (X : Nat → Int) {n k : Nat} (hk : 0 < k) (h : 2 * k < n) : us (us (rvF X n k) k (rvF X n k (n - k))) (n - k) (rvF X n k k) = rvF X n (k + 1) := by
  funext j
  unfold us rvF
  by_cases c : j = n - k
  · rw [if_pos c, if_neg (by omega), if_pos (by omega), show n - j = k by omega]
  · rw [if_neg c]
    by_cases e : j = k
    · rw [if_pos e, if_neg (by omega), if_pos (by omega), e]
    · rw [if_neg e]
      by_cases f : (0 < j ∧ j < k ∧ j < n) ∨ (n - k < j ∧ j < n)
      · rw [if_pos f, if_pos (by omega)]
      · rw [if_neg f, if_neg (by omega)]
theorem rvF_e (X : Nat → Int) {n k : Nat} (hk : 0 < k) (h : n ≤ 2 * k) : rvF X n k = rvE X n := by
  funext j
  unfold rvF rvE
  by_cases c : 0 < j ∧ j < n
  · rw [if_pos c]
    by_cases f : (0 < j ∧ j < k ∧ j < n) ∨ (n - k < j ∧ j < n)
    · rw [if_pos f]
    · rw [if_neg f]; congr 1; omega
  · rw [if_neg c, if_neg (by omega)]
theorem ok_rvE {X : Nat → Int} (h : ok X) (n : Nat) : ok (rvE X n) := by
  intro j; unfold rvE; split <;> exact h _
/-- m corners from a on -/
def kpE (X : Nat → Int) (n a m : Nat) : Nat → Int := fun j => if j < m then X ((a + j) % n) else X j
theorem ok_kpE {X : Nat → Int} (h : ok X) (n a m : Nat) : ok (kpE X n a m) := by
  intro j; unfold kpE; split <;> exact h _
def tkF (K X : Nat → Int) (i : Nat) : Nat → Int := fun j => if j < i then K j else X j
theorem tkF_0 (K X : Nat → Int) : tkF K X 0 = X := by
  funext j; unfold tkF; rw [if_neg (by omega)]
theorem tkF_s (K X : Nat → Int) (i : Nat) : us (tkF K X i) i (K i) = tkF K X (i + 1) := by
  funext j
  unfold us tkF
  by_cases c : j = i
  · subst c; rw [if_pos rfl, if_pos (by omega)]
  · rw [if_neg c]
    by_cases e : j < i
    · rw [if_pos e, if_pos (by omega)]
    · rw [if_neg e, if_neg (by omega)]
section
variable {n : Nat} {p : Int32} {X Y : Nat → Int} {k l q c : Nat → Int32} {s t w : Nat → Int32}
theorem xb_isOnAxis {post : Int32 → Prop} {z : Int} (h : -2147483648 ≤ z ∧ z < 2147483664) (h1 : (0 ≤ z ∧ z ≤ 15) → post 1) (h0 : ¬ (0 ≤ z ∧ z ≤ 15) → post 0) : wpX_isOnAxis post (iN z) := by
  rw [← mv_t h] at h1 h0
  have e0 : (0 : Int32).toInt = 0 := by decide
  have e1 : (16 : Int32).toInt = 16 := by decide
  refine br_c (fun a => h0 ?_) (fun a => br_c (fun b => h0 ?_) (fun b => h1 ?_))
  · rw [Int32.lt_iff_toInt_lt, e0] at a; omega
  · rw [Int32.le_iff_toInt_le, e1] at b; omega
  · rw [Int32.lt_iff_toInt_lt, e0] at a; rw [Int32.le_iff_toInt_le, e1] at b; omega
theorem yb_isOnGrid {post : Int32 → Prop} {z : Int64} (h1 : (0 ≤ z.toInt ∧ z.toInt ≤ 15) → post 1) (h0 : ¬ (0 ≤ z.toInt ∧ z.toInt ≤ 15) → post 0) : wpY_isOnGrid post (sY n p X Y k l q c) z := by
  have e0 : (0 : Int64).toInt = 0 := by decide
  have e1 : (15 : Int64).toInt = 15 := by decide
  refine br_c (fun a => h0 ?_) (fun a => br_c (fun b => h0 ?_) (fun b => h1 ?_))
  · rw [Int64.lt_iff_toInt_lt, e0] at a; omega
  · rw [Int64.lt_iff_toInt_lt, e1] at b; omega
  · rw [Int64.lt_iff_toInt_lt, e0] at a; rw [Int64.lt_iff_toInt_lt, e1] at b; omega
theorem yr_64 {x d : Int} (hx : 0 ≤ x ∧ x ≤ 15) (hd : -2147483648 ≤ d ∧ d < 2147483648) : ((iN x).toInt64 + (iN d).toInt64).toInt = x + d := by
  have e1 : (iN x).toInt = x := ie_toInt ⟨by omega, by omega⟩
  have e2 : (iN d).toInt = d := Int32.toInt_ofInt_of_le (by omega) (by omega)
  rw [Int64.toInt_add, Int32.toInt_toInt64, Int32.toInt_toInt64, e1, e2]
  exact Int.bmod_eq_of_le (by omega) (by omega)
theorem xl_mv48 {post : Int32 → SX → Prop} {d e : Int} (hn : n ≤ 10) (h : post (nI n) (sX n (mvF X d n) (mvF Y e n) s t w)) :
    ∀ f i, i + f = n → wX_move_48 post (iN d) (iN e) (nI n) (f + 1) (nI i) (fun j => iN (mvF X d i j)) (fun j => iN (mvF Y e i j)) s t w := by
  intro f
  induction f with
  | zero =>
    intro i ei
    have e' : i = n := by omega
    subst e'
    exact br_t (nI_le (by omega) (by omega)) h
  | succ f ih =>
    intro i ei
    have ii := vp_in_nI (n := i) (N := 10) (by omega) (by decide)
    refine br_f (nI_ge (by omega) (by omega)) ⟨ii, ii, nm_r (e' := fun j => iN (mvF X d (i + 1) j)) ?_ ⟨ii, ii, nm_r (e' := fun j => iN (mvF Y e (i + 1) j)) ?_ (nm_r (nI_1 i) (ih (i + 1) (by omega)))⟩⟩
    · rw [nI_clamp (n := i) (by omega)]
      show upd _ _ (iN (mvF X d i i) + iN d) = _
      rw [ie_add]
      refine (up_e _ _ _).trans ?_
      rw [mvF_s]
    · rw [nI_clamp (n := i) (by omega)]
      show upd _ _ (iN (mvF Y e i i) + iN e) = _
      rw [ie_add]
      refine (up_e _ _ _).trans ?_
      rw [mvF_s]
theorem xl_mv2 {post : Int32 → SX → Prop} {d e : Int} (g : gr X Y) (hn : n ≤ 10) (hd : -2147483648 ≤ d ∧ d < 2147483648) (he : -2147483648 ≤ e ∧ e < 2147483648) (h0 : (∃ i, i < n ∧ ¬ MV n X Y d e i) → post (-1) (sX n X Y s t w)) (h1 : (∀ i, i < n → MV n X Y d e i) → post (nI n) (sX n (mvF X d n) (mvF Y e n) s t w)) :
    ∀ f i, i + f = n → (∀ m, m < i → MV n X Y d e m) → wX_move_2 post (iN d) (iN e) (nI n) (fun j => iN (X j)) (fun j => iN (Y j)) s t w (f + 1) (nI i) := by
  intro f
  induction f with
  | zero =>
    intro i ei z
    have := xl_mv48 (X := X) (Y := Y) hn (h1 fun m hm => z m (by omega)) n 0 (by omega)
    rw [mvF_0, mvF_0] at this
    exact br_t (nI_le (by omega) (by omega)) ⟨_, this⟩
  | succ f ih =>
    intro i ei z
    have hi : i < n := by omega
    have ii := vp_in_nI (n := i) (N := 10) (by omega) (by decide)
    have gi := g i
    refine br_f (nI_ge (by omega) (by omega)) ⟨ii, ?_⟩
    rw [nI_clamp (n := i) (by omega)]
    show wpX_isOnAxis _ (iN (X i) + iN d)
    rw [ie_add (X i) d]
    refine xb_isOnAxis (by omega) (fun y1 => bo_1 ⟨ii, ?_⟩) (fun y => bo_0 (h0 ⟨i, hi, fun x => y x.1⟩))
    show wpX_isOnAxis _ (iN (Y i) + iN e)
    rw [ie_add (Y i) e]
    refine xb_isOnAxis (by omega) (fun y2 => bo_1 (nm_r (nI_1 i) (ih (i + 1) (by omega) fun m hm => ?_))) (fun y => bo_0 (h0 ⟨i, hi, fun x => y x.2⟩))
    by_cases cc : m = i
    · subst cc; exact ⟨y1, y2⟩
    · exact z m (by omega)
theorem xb_move {post : Int32 → SX → Prop} {d e : Int} (g : gr X Y) (hn : n ≤ 10) (hd : -2147483648 ≤ d ∧ d < 2147483648) (he : -2147483648 ≤ e ∧ e < 2147483648) (h0 : (∃ i, i < n ∧ ¬ MV n X Y d e i) → post (-1) (sX n X Y s t w)) (h1 : (∀ i, i < n → MV n X Y d e i) → post (nI n) (sX n (mvF X d n) (mvF Y e n) s t w)) : wpX_move post (sX n X Y s t w) (iN d) (iN e) :=
  ⟨n + 1, xl_mv2 g hn hd he h0 h1 n 0 (by omega) (fun m hm => absurd hm (by omega))⟩
theorem yl_mv54 {post : Int32 → SY → Prop} {d e : Int} (hn : n ≤ 10) (h : post (nI n) (sY n p (mvF X d n) (mvF Y e n) k l q c)) :
    ∀ f i, i + f = n → wY_move_54 post (iN d) (iN e) (nI n) p (f + 1) (nI i) (fun j => iN (mvF X d i j)) (fun j => iN (mvF Y e i j)) k l q c := by
  intro f
  induction f with
  | zero =>
    intro i ei
    have e' : i = n := by omega
    subst e'
    exact br_t (nI_le (by omega) (by omega)) h
  | succ f ih =>
    intro i ei
    have ii := vp_in_nI (n := i) (N := 10) (by omega) (by decide)
    refine br_f (nI_ge (by omega) (by omega)) ⟨ii, ii, nm_r (e' := fun j => iN (mvF X d (i + 1) j)) ?_ ⟨ii, ii, nm_r (e' := fun j => iN (mvF Y e (i + 1) j)) ?_ (nm_r (nI_1 i) (ih (i + 1) (by omega)))⟩⟩
    · rw [nI_clamp (n := i) (by omega)]
      show upd _ _ (iN (mvF X d i i) + iN d) = _
      rw [ie_add]
      refine (up_e _ _ _).trans ?_
      rw [mvF_s]
    · rw [nI_clamp (n := i) (by omega)]
      show upd _ _ (iN (mvF Y e i i) + iN e) = _
      rw [ie_add]
      refine (up_e _ _ _).trans ?_
      rw [mvF_s]
theorem yl_mv2 {post : Int32 → SY → Prop} {d e : Int} (g : gr X Y) (hn : n ≤ 10) (hd : -2147483648 ≤ d ∧ d < 2147483648) (he : -2147483648 ≤ e ∧ e < 2147483648) (h0 : (∃ i, i < n ∧ ¬ MV n X Y d e i) → post (-1) (sY n p X Y k l q c)) (h1 : (∀ i, i < n → MV n X Y d e i) → post (nI n) (sY n p (mvF X d n) (mvF Y e n) k l q c)) :
    ∀ f i, i + f = n → (∀ m, m < i → MV n X Y d e m) → wY_move_2 post (iN d) (iN e) (nI n) p (fun j => iN (X j)) (fun j => iN (Y j)) k l q c (f + 1) (nI i) := by
  intro f
  induction f with
  | zero =>
    intro i ei z
    have := yl_mv54 (X := X) (Y := Y) hn (h1 fun m hm => z m (by omega)) n 0 (by omega)
    rw [mvF_0, mvF_0] at this
    exact br_t (nI_le (by omega) (by omega)) ⟨_, this⟩
  | succ f ih =>
    intro i ei z
    have hi : i < n := by omega
    have ii := vp_in_nI (n := i) (N := 10) (by omega) (by decide)
    have gi := g i
    refine br_f (nI_ge (by omega) (by omega)) ⟨ii, ?_⟩
    rw [nI_clamp (n := i) (by omega)]
    refine yb_isOnGrid (fun y1 => bo_1 ⟨ii, ?_⟩) (fun y => bo_0 (h0 ⟨i, hi, fun x => y ?_⟩))
    · refine yb_isOnGrid (fun y2 => bo_1 (nm_r (nI_1 i) (ih (i + 1) (by omega) fun m hm => ?_))) (fun y => bo_0 (h0 ⟨i, hi, fun x => y ?_⟩))
      · by_cases cc : m = i
        · subst cc
          rw [yr_64 (by omega) hd] at y1
          rw [yr_64 (by omega) he] at y2
          exact ⟨y1, y2⟩
        · exact z m (by omega)
      · rw [yr_64 (by omega) he]; exact x.2
    · rw [yr_64 (by omega) hd]; exact x.1
theorem yb_move {post : Int32 → SY → Prop} {d e : Int} (g : gr X Y) (hn : n ≤ 10) (hd : -2147483648 ≤ d ∧ d < 2147483648) (he : -2147483648 ≤ e ∧ e < 2147483648) (h0 : (∃ i, i < n ∧ ¬ MV n X Y d e i) → post (-1) (sY n p X Y k l q c)) (h1 : (∀ i, i < n → MV n X Y d e i) → post (nI n) (sY n p (mvF X d n) (mvF Y e n) k l q c)) : wpY_move post (sY n p X Y k l q c) (iN d) (iN e) :=
  ⟨n + 1, yl_mv2 g hn hd he h0 h1 n 0 (by omega) (fun m hm => absurd hm (by omega))⟩
theorem xb_swap {post : SX → Prop} {i j : Nat} (hi : i < 10) (hj : j < 10) (h : post (sX n (us (us X i (X j)) j (X i)) (us (us Y i (Y j)) j (Y i)) s t w)) : wpX_swapCorners post (sX n X Y s t w) (nI i) (nI j) := by
  have ii := vp_in_nI (n := i) (N := 10) (by omega) (by decide)
  have ij := vp_in_nI (n := j) (N := 10) (by omega) (by decide)
  have ci : (nI i).toNatClampNeg = i := nI_clamp (by omega)
  have cj : (nI j).toNatClampNeg = j := nI_clamp (by omega)
  refine ⟨ii, nm_r (e' := iN (X i)) (by rw [ci]) ⟨ii, nm_r (e' := iN (Y i)) (by rw [ci]) ⟨ij, ii, nm_r (e' := fun m => iN (us X i (X j) m)) ?_ ⟨ij, ii, nm_r (e' := fun m => iN (us Y i (Y j) m)) ?_ ⟨ij, nm_r (e' := fun m => iN (us (us X i (X j)) j (X i) m)) ?_ ⟨ij, nm_r (e' := fun m => iN (us (us Y i (Y j)) j (Y i) m)) ?_ h⟩⟩⟩⟩⟩⟩
  · rw [ci, cj]; exact up_e _ _ _
  · rw [ci, cj]; exact up_e _ _ _
  · rw [cj]; exact up_e _ _ _
  · rw [cj]; exact up_e _ _ _
theorem xl_rv2 {post : Int32 → SX → Prop} (hn : n ≤ 10) (h : post (nI n) (sX n (rvE X n) (rvE Y n) s t w)) :
    ∀ f i, 0 < i → n ≤ i + f → i ≤ 10 → wX_reverse_2 post (f + 1) (nI i) (nI n) (fun j => iN (rvF X n i j)) (fun j => iN (rvF Y n i j)) s t w := by
  intro f
  induction f with
  | zero =>
    intro i h0 e hi
    rw [rvF_e X h0 (by omega), rvF_e Y h0 (by omega)]
    refine br_t ?_ h
    rw [show 2 * nI i = nI (2 * i) from pk_mul 2 i]
    exact nI_le (by omega) (by omega)
  | succ f ih =>
    intro i h0 e hi
    refine pk_le n (2 * i) (fun y => ?_) (fun y => ?_) (hy := pk_mul 2 i)
    · rw [rvF_e X h0 (by omega), rvF_e Y h0 (by omega)]
      exact h
    · rw [pk_sub (by omega)]
      refine xb_swap (n := n) (X := rvF X n i) (Y := rvF Y n i) (by omega) (by omega) ?_
      rw [rvF_s X h0 y, rvF_s Y h0 y]
      exact nm_r (nI_1 i) (ih (i + 1) (by omega) (by omega) (by omega))
theorem xb_reverse {post : Int32 → SX → Prop} (hn : n ≤ 10) (h : post (nI n) (sX n (rvE X n) (rvE Y n) s t w)) : wpX_reverse post (sX n X Y s t w) := by
  have := xl_rv2 (X := X) (Y := Y) hn h n 1 (by omega) (by omega) (by omega)
  rw [rvF_1, rvF_1] at this
  exact ⟨_, this⟩
theorem yl_tk2 {post : SY → Prop} {KX KY : Nat → Int} {m : Nat} (hm : m ≤ 10) (hk : ∀ j, j < m → k j = iN (KX j)) (hl : ∀ j, j < m → l j = iN (KY j)) (h : post (sY m p (tkF KX X m) (tkF KY Y m) k l q c)) :
    ∀ f i, i + f = m → wY_takeKept_2 post (nI m) (nI n) p (f + 1) (nI i) (fun j => iN (tkF KX X i j)) (fun j => iN (tkF KY Y i j)) k l q c := by
  intro f
  induction f with
  | zero =>
    intro i ei
    have e' : i = m := by omega
    subst e'
    exact br_t (nI_le (by omega) (by omega)) h
  | succ f ih =>
    intro i ei
    have ii := vp_in_nI (n := i) (N := 10) (by omega) (by decide)
    refine br_f (nI_ge (by omega) (by omega)) ⟨ii, ii, nm_r (e' := fun j => iN (tkF KX X (i + 1) j)) ?_ ⟨ii, ii, nm_r (e' := fun j => iN (tkF KY Y (i + 1) j)) ?_ (nm_r (nI_1 i) (ih (i + 1) (by omega)))⟩⟩
    · rw [nI_clamp (n := i) (by omega), hk i (by omega)]
      refine (up_e _ _ _).trans ?_
      rw [tkF_s]
    · rw [nI_clamp (n := i) (by omega), hl i (by omega)]
      refine (up_e _ _ _).trans ?_
      rw [tkF_s]
theorem yb_takeKept {post : SY → Prop} {KX KY : Nat → Int} {m : Nat} (hm : m ≤ 10) (hk : ∀ j, j < m → k j = iN (KX j)) (hl : ∀ j, j < m → l j = iN (KY j)) (h : post (sY m p (tkF KX X m) (tkF KY Y m) k l q c)) : wpY_takeKept post (sY n p X Y k l q c) (nI m) := by
  have := yl_tk2 (X := X) (Y := Y) (n := n) hm hk hl h m 0 (by omega)
  rw [tkF_0, tkF_0] at this
  exact ⟨_, this⟩
theorem yr_rv {i : Nat} (hn : n ≤ 10) (hi : i < n) : nI n - nI i - (nI n - nI i) / nI n * nI n = nI ((n - i) % n) := by
  rw [pk_sub (by omega), pk_rem (by omega) (by omega) (by omega)]
theorem rv_tk (X : Nat → Int) (n : Nat) : tkF (fun j => X ((n - j) % n)) X n = rvE X n := by
  funext j
  unfold tkF rvE
  by_cases h : j < n
  · rw [if_pos h]
    by_cases h2 : 0 < j
    · rw [if_pos ⟨h2, h⟩]
      show X ((n - j) % n) = X (n - j)
      rw [Nat.mod_eq_of_lt (by omega)]
    · rw [if_neg (by omega)]
      show X ((n - j) % n) = X j
      rw [show n - j = n by omega, Nat.mod_self]; congr 1; omega
  · rw [if_neg h, if_neg (by omega)]
theorem yl_rv2 {post : Int32 → SY → Prop} (hn : n ≤ 10) (h : ∀ k' l', post (nI n) (sY n p (rvE X n) (rvE Y n) k' l' q c)) :
    ∀ f i k l, i + f = n → (∀ j, j < i → k j = iN (X ((n - j) % n)) ∧ l j = iN (Y ((n - j) % n))) → wY_reverse_2 post (nI n) p (f + 1) (nI i) (fun j => iN (X j)) (fun j => iN (Y j)) k l q c := by
  intro f
  induction f with
  | zero =>
    intro i k l ei z
    have e' : i = n := by omega
    subst e'
    refine br_t (nI_le (by omega) (by omega)) (yb_takeKept (n := i) (X := X) (Y := Y) (KX := fun j => X ((i - j) % i)) (KY := fun j => Y ((i - j) % i)) hn (fun j hj => (z j hj).1) (fun j hj => (z j hj).2) ?_)
    rw [rv_tk, rv_tk]
    exact h k l
  | succ f ih =>
    intro i k l ei z
    have hi : i < n := by omega
    have z0 : ¬ nI n = 0 := nI_ne0 (by omega) (by omega)
    have hr : (n - i) % n < n := Nat.mod_lt _ (by omega)
    have ii := vp_in_nI (n := i) (N := 10) (by omega) (by decide)
    have ir := vp_in_nI (n := (n - i) % n) (N := 10) (by omega) (by decide)
    refine br_f (nI_ge (by omega) (by omega)) ?_
    rw [yr_rv hn hi]
    refine ⟨z0, ir, ii, nm_e ⟨z0, ir, ii, nm_e (nm_r (nI_1 i) (ih (i + 1) _ _ (by omega) fun j hj => ?_))⟩⟩
    rw [nI_clamp (n := i) (by omega), nI_clamp (n := (n - i) % n) (by omega)]
    by_cases cc : j = i
    · subst cc; exact ⟨pk_us, pk_us⟩
    · rw [pk_un cc, pk_un cc]; exact z j (by omega)
theorem yb_reverse {post : Int32 → SY → Prop} (hn : n ≤ 10) (h : ∀ k' l', post (nI n) (sY n p (rvE X n) (rvE Y n) k' l' q c)) : wpY_reverse post (sY n p X Y k l q c) :=
  ⟨n + 1, yl_rv2 hn h n 0 k l (by omega) (fun j hj => absurd hj (by omega))⟩
theorem kp_tk (X : Nat → Int) (n a m : Nat) : tkF (fun j => X ((a + j) % n)) X m = kpE X n a m := rfl
theorem yl_kp32 {post : Int32 → SY → Prop} {a m : Nat} (hn : n ≤ 10) (ha : a < n) (hm : m ≤ n) (h : ∀ k' l', post (nI m) (sY m p (kpE X n a m) (kpE Y n a m) k' l' q c)) :
    ∀ f i k l, i + f = m → (∀ j, j < i → k j = iN (X ((a + j) % n)) ∧ l j = iN (Y ((a + j) % n))) → wY_keep_32 post (nI a) (nI m) (nI n) p (f + 1) (nI i) (fun j => iN (X j)) (fun j => iN (Y j)) k l q c := by
  intro f
  induction f with
  | zero =>
    intro i k l ei z
    have e' : i = m := by omega
    subst e'
    refine br_t (nI_le (by omega) (by omega)) (yb_takeKept (n := n) (X := X) (Y := Y) (KX := fun j => X ((a + j) % n)) (KY := fun j => Y ((a + j) % n)) (by omega) (fun j hj => (z j hj).1) (fun j hj => (z j hj).2) ?_)
    rw [kp_tk, kp_tk]
    exact h k l
  | succ f ih =>
    intro i k l ei z
    have hi : i < n := by omega
    have z0 : ¬ nI n = 0 := nI_ne0 (by omega) (by omega)
    have hr : (a + i) % n < n := Nat.mod_lt _ (by omega)
    have ii := vp_in_nI (n := i) (N := 10) (by omega) (by decide)
    have ir := vp_in_nI (n := (a + i) % n) (N := 10) (by omega) (by decide)
    refine br_f (nI_ge (by omega) (by omega)) ?_
    rw [nI_add, pk_rem (by omega) (by omega) (by omega)]
    refine ⟨z0, ir, ii, nm_e ⟨z0, ir, ii, nm_e (nm_r (nI_1 i) (ih (i + 1) _ _ (by omega) fun j hj => ?_))⟩⟩
    rw [nI_clamp (n := i) (by omega), nI_clamp (n := (a + i) % n) (by omega)]
    by_cases cc : j = i
    · subst cc; exact ⟨pk_us, pk_us⟩
    · rw [pk_un cc, pk_un cc]; exact z j (by omega)
def kpM (n a b : Nat) : Nat := (b + n - a) % n + 1
theorem yb_keep {post : Int32 → SY → Prop} {z1 z2 : Int32} (g : gr X Y) (hn : n ≤ 10) (h0 : ¬ CT n X Y z1 z2 → post (-1000) (sY n p X Y k l q c))
    (h1 : ∀ a b k' l', a < n → b < n → z1 = nI a → z2 = nI b → CT n X Y z1 z2 → post (nI (kpM n a b)) (sY (kpM n a b) p (kpE X n a (kpM n a b)) (kpE Y n a (kpM n a b)) k' l' q c)) : wpY_keep post (sY n p X Y k l q c) z1 z2 := by
  unfold wpY_keep
  refine yb_cut g hn (fun y => bo_1 ?_) (fun y => bo_0 (h0 y))
  obtain ⟨_, a, b, ha, hb, rfl, rfl, _⟩ := id y
  have z0 : ¬ nI n = 0 := nI_ne0 (by omega) (by omega)
  have hl : (b + n - a) % n < n := Nat.mod_lt _ (by omega)
  refine ⟨z0, nm_r (e' := nI (kpM n a b)) ?_ ⟨_, yl_kp32 hn ha (by unfold kpM; omega) (fun k' l' => h1 a b k' l' ha hb rfl rfl y) (kpM n a b) 0 k l (by omega) (fun j hj => absurd hj (by omega))⟩⟩
  have e : nI b - nI a + nI n = nI (b + n - a) := by
    rw [ie_nI, ie_nI, ie_nI, ie_nI, ie_sub, ie_add]; congr 1; omega
  rw [e, pk_rem (by omega) (by omega) (by omega), nI_1]
  rfl
theorem xl_kf52 {post : SX → Prop} {KX KY : Nat → Int} {m : Nat} (hm : m ≤ 10) (hk : ∀ j, j < m → s j = iN (KX j)) (hl : ∀ j, j < m → t j = iN (KY j)) (h : post (sX m (tkF KX X m) (tkF KY Y m) s t w)) :
    ∀ f i, i + f = m → wX_keepFrom_52 post (nI m) (nI n) (f + 1) (nI i) (fun j => iN (tkF KX X i j)) (fun j => iN (tkF KY Y i j)) s t w := by
  intro f
  induction f with
  | zero =>
    intro i ei
    have e' : i = m := by omega
    subst e'
    exact br_t (nI_le (by omega) (by omega)) h
  | succ f ih =>
    intro i ei
    have ii := vp_in_nI (n := i) (N := 10) (by omega) (by decide)
    refine br_f (nI_ge (by omega) (by omega)) ⟨ii, ii, nm_r (e' := fun j => iN (tkF KX X (i + 1) j)) ?_ ⟨ii, ii, nm_r (e' := fun j => iN (tkF KY Y (i + 1) j)) ?_ (nm_r (nI_1 i) (ih (i + 1) (by omega)))⟩⟩
    · rw [nI_clamp (n := i) (by omega), hk i (by omega)]
      refine (up_e _ _ _).trans ?_
      rw [tkF_s]
    · rw [nI_clamp (n := i) (by omega), hl i (by omega)]
      refine (up_e _ _ _).trans ?_
      rw [tkF_s]
theorem xl_kf5 {post : SX → Prop} {a m : Nat} (hn : n ≤ 10) (ha : a < n) (hm : m ≤ n) (h : ∀ s' t', post (sX m (kpE X n a m) (kpE Y n a m) s' t' w)) :
    ∀ f i s t, i + f = m → (∀ j, j < i → s j = iN (X ((a + j) % n)) ∧ t j = iN (Y ((a + j) % n))) → wX_keepFrom_5 post (nI m) (nI n) (f + 1) (nI ((a + i) % n)) (nI i) (fun j => iN (X j)) (fun j => iN (Y j)) s t w := by
  intro f
  induction f with
  | zero =>
    intro i s t ei z
    have e' : i = m := by omega
    subst e'
    have := xl_kf52 (n := n) (X := X) (Y := Y) (w := w) (post := post) (KX := fun j => X ((a + j) % n)) (KY := fun j => Y ((a + j) % n)) (m := i) (by omega) (fun j hj => (z j hj).1) (fun j hj => (z j hj).2) (by rw [kp_tk, kp_tk]; exact h s t) i 0 (by omega)
    rw [tkF_0, tkF_0] at this
    exact br_t (nI_le (by omega) (by omega)) ⟨_, this⟩
  | succ f ih =>
    intro i s t ei z
    have hr : (a + i) % n < n := Nat.mod_lt _ (by omega)
    have ii := vp_in_nI (n := i) (N := 10) (by omega) (by decide)
    have ir := vp_in_nI (n := (a + i) % n) (N := 10) (by omega) (by decide)
    have e1 : nx n ((a + i) % n) = (a + (i + 1)) % n := by
      rw [← nx_mod hr, Nat.mod_add_mod, Nat.add_assoc]
    refine br_f (nI_ge (by omega) (by omega)) ⟨ir, ii, nm_e ⟨ir, ii, nm_e (xb_next (n := n) (X := X) (Y := Y) hn hr (nm_r (nI_1 i) ?_))⟩⟩
    rw [e1]
    refine ih (i + 1) _ _ (by omega) fun j hj => ?_
    rw [nI_clamp (n := i) (by omega), nI_clamp (n := (a + i) % n) (by omega)]
    by_cases cc : j = i
    · subst cc; exact ⟨pk_us, pk_us⟩
    · rw [pk_un cc, pk_un cc]; exact z j (by omega)
theorem xb_keepFrom {post : SX → Prop} {a m : Nat} (hn : n ≤ 10) (ha : a < n) (hm : m ≤ n) (h : ∀ s' t', post (sX m (kpE X n a m) (kpE Y n a m) s' t' w)) : wpX_keepFrom post (sX n X Y s t w) (nI a) (nI m) := by
  have := xl_kf5 (X := X) (Y := Y) hn ha hm h m 0 s t (by omega) (fun j hj => absurd hj (by omega))
  rw [show (a + 0) % n = a from Nat.mod_eq_of_lt ha] at this
  exact ⟨_, this⟩
theorem xb_keep {post : Int32 → SX → Prop} {z1 z2 : Int32} (g : gr X Y) (hn : n ≤ 10) (h0 : ¬ CT n X Y z1 z2 → post (-1000) (sX n X Y s t w))
    (h1 : ∀ a b s' t', a < n → b < n → z1 = nI a → z2 = nI b → CT n X Y z1 z2 → post (nI (kpM n a b)) (sX (kpM n a b) (kpE X n a (kpM n a b)) (kpE Y n a (kpM n a b)) s' t' w)) : wpX_keep post (sX n X Y s t w) z1 z2 := by
  unfold wpX_keep
  refine xb_proper g hn (fun y => bo_1 ?_) (fun y => bo_0 (h0 fun x => y x.1))
  refine xb_isCut g hn (fun a b ha hb e1 e2 z => bo_1 ?_) (fun z => bo_0 (h0 fun ⟨_, a, b, ha, hb, e1, e2, x⟩ => z a b ha hb e1 e2 x))
  have ct : CT n X Y z1 z2 := ⟨y, a, b, ha, hb, e1, e2, z⟩
  subst e1 e2
  have hl : (b + n - a) % n < n := Nat.mod_lt _ (by omega)
  have hk : ∀ z0 : Int32, z0 + 1 = nI (kpM n a b) → wX_keep_39 post (nI a) z0 (nI n) (fun j => iN (X j)) (fun j => iN (Y j)) s t w := by
    intro z0 e
    unfold wX_keep_39
    refine nm_r e (xb_keepFrom hn ha (by unfold kpM; omega) fun s' t' => h1 a b s' t' ha hb rfl rfl ct)
  refine pk_lt b a (fun e => hk _ ?_) (fun e => hk _ ?_)
  · have e1 : nI b - nI a + nI n = nI (b + n - a) := by
      rw [ie_nI, ie_nI, ie_nI, ie_nI, ie_sub, ie_add]; congr 1; omega
    rw [e1, nI_1]; unfold kpM; rw [Nat.mod_eq_of_lt (by omega)]
  · rw [pk_sub e, nI_1]; unfold kpM
    rw [show b + n - a = n + (b - a) by omega, Nat.add_mod_left, Nat.mod_eq_of_lt (by omega)]
end
