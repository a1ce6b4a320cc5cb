section
theorem pk_us {f : Nat → Int32} {k : Nat} {x : Int32} : upd f k x k = x := if_pos rfl
theorem pk_un {f : Nat → Int32} {k j : Nat} {x : Int32} (h : j ≠ k) : upd f k x j = f j := if_neg h
theorem pk_uLs {f : Nat → Int64} {k : Nat} {x : Int64} : vp_updL f k x k = x := if_pos rfl
theorem pk_uLn {f : Nat → Int64} {k j : Nat} {x : Int64} (h : j ≠ k) : vp_updL f k x j = f j := if_neg h
theorem pk_sub {a b : Nat} (h : b ≤ a) : nI a - nI b = nI (a - b) := by
  obtain ⟨c, rfl⟩ : ∃ c, a = c + b := ⟨a - b, by omega⟩
  rw [← nI_add, Int32.add_sub_cancel, Nat.add_sub_cancel]
theorem pk_m1 (n : Nat) : nI (n + 1) + (-1) = nI n := by
  rw [← nI_1, Int32.add_assoc, show (1 : Int32) + (-1) = 0 from rfl, Int32.add_zero]
theorem pk_mul (a b : Nat) : nI a * nI b = nI (a * b) := (Int32.ofNat_mul a b).symm
theorem pk_div {a d : Nat} (ha : a < 2 ^ 31) (h0 : 0 < d) (hd : d < 2 ^ 31) : nI a / nI d = nI (a / d) := by
  apply Int32.toInt_inj.mp
  rw [lg_idiv_nonneg (by rw [nI_toInt ha]; omega) (by rw [nI_toInt hd]; omega), nI_toInt ha, nI_toInt hd, nI_toInt (Nat.lt_of_le_of_lt (Nat.div_le_self a d) ha)]
  first | rfl | exact (Int.natCast_ediv _ _).symm
theorem pk_rem {a d : Nat} (ha : a < 2 ^ 31) (h0 : 0 < d) (hd : d < 2 ^ 31) : nI a - nI a / nI d * nI d = nI (a % d) := by
  rw [pk_div ha h0 hd, pk_mul, pk_sub (Nat.div_mul_le_self a d)]
  exact congrArg nI (by have := Nat.div_add_mod' a d; omega)
theorem pk_sub_toInt {a b : Nat} (ha : a < 2 ^ 30) (hb : b < 2 ^ 30) : (nI a - nI b).toInt = (a : Int) - b := by
  rw [Int32.toInt_sub, nI_toInt (by omega), nI_toInt (by omega)]
  exact Int.bmod_eq_of_le (by omega) (by omega)
theorem pk_sneg {a b : Nat} (hb : b < 2 ^ 30) (h : a < b) : nI a - nI b < 0 := by
  rw [Int32.lt_iff_toInt_lt, pk_sub_toInt (by omega) hb, show (0 : Int32).toInt = 0 from by decide]
  omega
theorem pk_ix (x : Int32) {n : Nat} (hn : n < 2 ^ 31) : x < 0 ∨ nI n ≤ x ∨ ∃ j : Nat, j < n ∧ x = nI j := by
  by_cases h : x < 0
  · exact Or.inl h
  · obtain ⟨j, hj, rfl⟩ := nI_of h
    by_cases h2 : j < n
    · exact Or.inr (Or.inr ⟨j, h2, rfl⟩)
    · exact Or.inr (Or.inl (nI_le (by omega) hj))
theorem pk_le {x y : Int32} {A B : Prop} (a b : Nat) (f : a ≤ b → A) (g : b < a → B) (hx : x = nI a := by rfl) (hy : y = nI b := by rfl) (ha : a < 2 ^ 31 := by omega) (hb : b < 2 ^ 31 := by omega) : (x ≤ y → A) ∧ (¬ x ≤ y → B) := by
  subst hx hy
  rw [nI_leI ha hb]
  exact ⟨f, fun z => g (by omega)⟩
theorem pk_lt {x y : Int32} {A B : Prop} (a b : Nat) (f : a < b → A) (g : b ≤ a → B) (hx : x = nI a := by rfl) (hy : y = nI b := by rfl) (ha : a < 2 ^ 31 := by omega) (hb : b < 2 ^ 31 := by omega) : (x < y → A) ∧ (¬ x < y → B) := by
  subst hx hy
  rw [nI_ltI ha hb]
  exact ⟨f, fun z => g (by omega)⟩
theorem pk_eq {x y : Int32} {A B : Prop} (a b : Nat) (f : a = b → A) (g : a ≠ b → B) (hx : x = nI a := by rfl) (hy : y = nI b := by rfl) (ha : a < 2 ^ 31 := by omega) (hb : b < 2 ^ 31 := by omega) : (x = y → A) ∧ (¬ x = y → B) := by
  subst hx hy
  rw [nI_eq ha hb]
  exact ⟨f, g⟩
theorem pk_in {x : Int32} (n N : Nat) (h : n < N) (hx : x = nI n := by rfl) (hN : N < 2 ^ 31 := by omega) : vp_in x N := by
  subst hx
  exact vp_in_nI h hN
theorem pk_cl {x : Int32} (n : Nat) (hx : x = nI n := by rfl) (h : n < 2 ^ 31 := by omega) : x.toNatClampNeg = n := by
  subst hx
  exact nI_clamp h
def iN (z : Int) : Int32 := Int32.ofInt z
def sm (z : Int) : Prop := -1000000 ≤ z ∧ z ≤ 1000000
theorem ie_add (a b : Int) : iN a + iN b = iN (a + b) := (Int32.ofInt_add a b).symm
theorem ie_sub (a b : Int) : iN a - iN b = iN (a - b) := (Int32.ofInt_sub a b).symm
theorem ie_mul (a b : Int) : iN a * iN b = iN (a * b) := (Int32.ofInt_mul a b).symm
theorem ie_neg (a : Int) : - iN a = iN (-a) := (Int32.ofInt_neg a).symm
theorem ie_nI (n : Nat) : nI n = iN n := (Int32.ofInt_eq_ofNat (n := n)).symm
theorem ie_toInt {z : Int} (h : sm z) : (iN z).toInt = z := by
  obtain ⟨h1, h2⟩ := h
  exact Int32.toInt_ofInt_of_le (by omega) (by omega)
theorem ie_le {a b : Int} (ha : sm a) (hb : sm b) : iN a ≤ iN b ↔ a ≤ b := by
  rw [Int32.le_iff_toInt_le, ie_toInt ha, ie_toInt hb]
theorem ie_lt {a b : Int} (ha : sm a) (hb : sm b) : iN a < iN b ↔ a < b := by
  rw [Int32.lt_iff_toInt_lt, ie_toInt ha, ie_toInt hb]
theorem ie_eq {a b : Int} (ha : sm a) (hb : sm b) : iN a = iN b ↔ a = b := by
  rw [← Int32.toInt_inj, ie_toInt ha, ie_toInt hb]
theorem ie_0 : (0 : Int32) = iN 0 := by decide +kernel
theorem ie_1 : (1 : Int32) = iN 1 := by decide +kernel
theorem ie_2 : (2 : Int32) = iN 2 := by decide +kernel
theorem ie_3 : (3 : Int32) = iN 3 := by decide +kernel
theorem ie_10 : (10 : Int32) = iN 10 := by decide +kernel
theorem ie_16 : (16 : Int32) = iN 16 := by decide +kernel
theorem ie_m1 : (-1 : Int32) = iN (-1) := by decide +kernel
theorem sm_k (z : Int) (h1 : -1000000 ≤ z := by decide) (h2 : z ≤ 1000000 := by decide) : sm z := ⟨h1, h2⟩
theorem ib_le {x y : Int32} {A B : Prop} (a b : Int) (hx : x = iN a) (hy : y = iN b) (ha : sm a) (hb : sm b) (f : a ≤ b → A) (g : b < a → B) : (x ≤ y → A) ∧ (¬ x ≤ y → B) := by
  subst hx hy
  rw [ie_le ha hb]
  exact ⟨f, fun z => g (by omega)⟩
theorem ib_lt {x y : Int32} {A B : Prop} (a b : Int) (hx : x = iN a) (hy : y = iN b) (ha : sm a) (hb : sm b) (f : a < b → A) (g : b ≤ a → B) : (x < y → A) ∧ (¬ x < y → B) := by
  subst hx hy
  rw [ie_lt ha hb]
  exact ⟨f, fun z => g (by omega)⟩
theorem ib_eq {x y : Int32} {A B : Prop} (a b : Int) (hx : x = iN a) (hy : y = iN b) (ha : sm a) (hb : sm b) (f : a = b → A) (g : a ≠ b → B) : (x = y → A) ∧ (¬ x = y → B) := by
  subst hx hy
  rw [ie_eq ha hb]
  exact ⟨f, g⟩
theorem bo_1 {A B : Prop} (b : B) : ((1 : Int32) = 0 → A) ∧ (¬ (1 : Int32) = 0 → B) := br_f (by decide) b
theorem bo_0 {A B : Prop} (a : A) : ((0 : Int32) = 0 → A) ∧ (¬ (0 : Int32) = 0 → B) := br_t rfl a
theorem bp_01 {A B : Prop} (b : B) : ((0 : Int32) = 1 → A) ∧ (¬ (0 : Int32) = 1 → B) := br_f (by decide) b
theorem bp_10 {A B : Prop} (b : B) : ((1 : Int32) = 0 → A) ∧ (¬ (1 : Int32) = 0 → B) := br_f (by decide) b
/-- both coordinates of every corner are on the grid -/
def gr (X Y : Nat → Int) : Prop := ∀ i, (0 ≤ X i ∧ X i ≤ 15) ∧ (0 ≤ Y i ∧ Y i ≤ 15)
theorem ra_mul {a b : Int} (ha : -30 ≤ a ∧ a ≤ 30) (hb : -30 ≤ b ∧ b ≤ 30) : -900 ≤ a * b ∧ a * b ≤ 900 := by
  have h1 : 0 ≤ (30 - a) * (30 + b) := Int.mul_nonneg (by omega) (by omega)
  have h2 : 0 ≤ (30 + a) * (30 - b) := Int.mul_nonneg (by omega) (by omega)
  have h3 : 0 ≤ (30 - a) * (30 - b) := Int.mul_nonneg (by omega) (by omega)
  have h4 : 0 ≤ (30 + a) * (30 + b) := Int.mul_nonneg (by omega) (by omega)
  have e1 : (30 - a) * (30 + b) = 900 + 30 * b - 30 * a - a * b := by grind
  have e2 : (30 + a) * (30 - b) = 900 - 30 * b + 30 * a - a * b := by grind
  have e3 : (30 - a) * (30 - b) = 900 - 30 * b - 30 * a + a * b := by grind
  have e4 : (30 + a) * (30 + b) = 900 + 30 * b + 30 * a + a * b := by grind
  omega
theorem sm_d {a b c d : Int} (ha : -30 ≤ a ∧ a ≤ 30) (hb : -30 ≤ b ∧ b ≤ 30) (hc : -30 ≤ c ∧ c ≤ 30) (hd : -30 ≤ d ∧ d ≤ 30) : sm (a * b - c * d) := by
  have h1 := ra_mul ha hb
  have h2 := ra_mul hc hd
  exact ⟨by omega, by omega⟩
theorem sm_s {a b c d : Int} (ha : -30 ≤ a ∧ a ≤ 30) (hb : -30 ≤ b ∧ b ≤ 30) (hc : -30 ≤ c ∧ c ≤ 30) (hd : -30 ≤ d ∧ d ≤ 30) : sm (a * b + c * d) := by
  have h1 := ra_mul ha hb
  have h2 := ra_mul hc hd
  exact ⟨by omega, by omega⟩
theorem sm_m {a b : Int} (ha : -30 ≤ a ∧ a ≤ 30) (hb : -30 ≤ b ∧ b ≤ 30) : sm (a * b) := by
  have h1 := ra_mul ha hb
  exact ⟨by omega, by omega⟩
theorem gr_x {X Y : Nat → Int} (g : gr X Y) (i j : Nat) : -30 ≤ X i - X j ∧ X i - X j ≤ 30 := by
  have h1 := g i; have h2 := g j; omega
theorem gr_y {X Y : Nat → Int} (g : gr X Y) (i j : Nat) : -30 ≤ Y i - Y j ∧ Y i - Y j ≤ 30 := by
  have h1 := g i; have h2 := g j; omega
abbrev sX (n : Nat) (X Y : Nat → Int) (s t w : Nat → Int32) : SX := (nI n, fun i => iN (X i), fun i => iN (Y i), s, t, w)
abbrev sY (n : Nat) (p : Int32) (X Y : Nat → Int) (k l q c : Nat → Int32) : SY := (nI n, p, fun i => iN (X i), fun i => iN (Y i), k, l, q, c)
end
section
/-- the cross product (b - a) x (c - a) -/
def tn (X Y : Nat → Int) (a b c : Nat) : Int := (X b - X a) * (Y c - Y a) - (Y b - Y a) * (X c - X a)
def SP (X Y : Nat → Int) (a b : Nat) : Prop := X a = X b ∧ Y a = Y b
def BT (X Y : Nat → Int) (a b c : Nat) : Prop := (X a - X c) * (Y b - Y c) = (Y a - Y c) * (X b - X c) ∧ (X a - X c) * (X b - X c) + (Y a - Y c) * (Y b - Y c) ≤ 0
def LM (X Y : Nat → Int) (a b c d : Nat) : Prop := BT X Y a b c ∨ BT X Y a b d ∨ BT X Y c d a ∨ BT X Y c d b ∨ (¬ (0 < tn X Y a b c ↔ 0 < tn X Y a b d) ∧ ¬ (0 < tn X Y c d a ↔ 0 < tn X Y c d b))
def nx (n i : Nat) : Nat := if i + 1 < n then i + 1 else 0
def SC (n : Nat) (X Y : Nat → Int) (i j : Nat) : Prop :=
  (nx n i = j ∧ (BT X Y i j (nx n j) ∨ BT X Y j (nx n j) i)) ∨
  (nx n i ≠ j ∧ nx n j = i ∧ (BT X Y j i (nx n i) ∨ BT X Y i (nx n i) j)) ∨
  (nx n i ≠ j ∧ nx n j ≠ i ∧ LM X Y i (nx n i) j (nx n j))
/-- the component's proper -/
def PR (n : Nat) (X Y : Nat → Int) : Prop := 3 ≤ n ∧ (∀ i j, i < j → j < n → ¬ SP X Y i j) ∧ (∀ i j, i < j → j < n → ¬ SC n X Y i j)
theorem nx_lt {n i : Nat} (h : i < n) : nx n i < n := by
  unfold nx; split <;> omega
theorem nx_mod {n i : Nat} (h : i < n) : (i + 1) % n = nx n i := by
  unfold nx
  split
  · exact Nat.mod_eq_of_lt (by omega)
  · have : i + 1 = n := by omega
    rw [this, Nat.mod_self]
theorem tn_sm {X Y : Nat → Int} (g : gr X Y) (a b c : Nat) : sm (tn X Y a b c) := sm_d (gr_x g _ _) (gr_y g _ _) (gr_y g _ _) (gr_x g _ _)
noncomputable def ind (p : Prop) : Nat := @ite Nat p (Classical.propDecidable p) 1 0
theorem ind_t {p : Prop} (h : p) : ind p = 1 := if_pos h
theorem ind_f {p : Prop} (h : ¬ p) : ind p = 0 := if_neg h
theorem ind_c {p q : Prop} (h : p ↔ q) : ind p = ind q := by rw [propext h]
noncomputable def sel {α : Type} (p : Prop) (a b : α) : α := @ite α p (Classical.propDecidable p) a b
theorem sel_t {α : Type} {p : Prop} {a b : α} (h : p) : sel p a b = a := if_pos h
theorem sel_f {α : Type} {p : Prop} {a b : α} (h : ¬ p) : sel p a b = b := if_neg h
def oE (X Y : Nat → Int) (x y : Int) (i j : Nat) : Prop := (2 * X i - x) * (2 * Y j - y) - (2 * Y i - y) * (2 * X j - x) = 0 ∧ (2 * X i - x) * (2 * X j - x) + (2 * Y i - y) * (2 * Y j - y) ≤ 0
def cR (X Y : Nat → Int) (x y : Int) (i j : Nat) : Prop := ¬ (0 < 2 * Y i - y ↔ 0 < 2 * Y j - y) ∧ (0 < (2 * X i - x) * (2 * Y j - y) - (2 * Y i - y) * (2 * X j - x) ↔ 0 < 2 * Y j - y)
/-- the sides before k that the ray crosses -/
noncomputable def pc (n : Nat) (X Y : Nat → Int) (x y : Int) : Nat → Nat
  | 0 => 0
  | k + 1 => pc n X Y x y k + ind (cR X Y x y k (nx n k))
/-- where a point (its coordinates twice) is: -1, 0, 1 -/
noncomputable def plv (n : Nat) (X Y : Nat → Int) (x y : Int) : Int := sel (∃ i, i < n ∧ oE X Y x y i (nx n i)) 0 (sel (pc n X Y x y n % 2 = 1) 1 (-1))
/-- the component's isCut, of two corners -/
def CUX (n : Nat) (X Y : Nat → Int) (p q : Nat) : Prop := p ≠ q ∧ ¬ (nx n p = q ∨ nx n q = p) ∧ (∀ i, i < n → ¬ (i = p ∨ i = q ∨ nx n i = p ∨ nx n i = q) → ¬ LM X Y p q i (nx n i)) ∧ plv n X Y (X p + X q) (Y p + Y q) = 1
theorem plv_r {n : Nat} {X Y : Nat → Int} {x y : Int} : plv n X Y x y = 0 ∨ plv n X Y x y = 1 ∨ plv n X Y x y = -1 := by
  unfold plv
  by_cases h : ∃ i, i < n ∧ oE X Y x y i (nx n i)
  · exact Or.inl (sel_t h)
  · rw [sel_f h]
    by_cases h2 : pc n X Y x y n % 2 = 1
    · exact Or.inr (Or.inl (sel_t h2))
    · exact Or.inr (Or.inr (sel_f h2))
end
section
section
variable {n : Nat} {X Y : Nat → Int} {s t w : Nat → Int32} {post : Int32 → Prop}
theorem xb_isPoint {p : Int32} (h1 : (0 ≤ p.toInt ∧ p.toInt < 256) → post 1) (h0 : ¬ (0 ≤ p.toInt ∧ p.toInt < 256) → post 0) : wpX_isPoint post p := by
  have e0 : (0 : Int32).toInt = 0 := by decide
  have e1 : (256 : Int32).toInt = 256 := by decide
  refine br_c (fun a => h0 ?_) (fun a => br_c (fun b => h0 ?_) (fun b => h1 ?_))
  · rw [Int32.lt_iff_toInt_lt, e0] at a; omega
  · rw [Int32.le_iff_toInt_le, e1] at b; omega
  · rw [Int32.lt_iff_toInt_lt, e0] at a; rw [Int32.le_iff_toInt_le, e1] at b; omega
theorem xb_isCorner {p : Int32} (hn : n ≤ 10) (h1 : ∀ a, a < n → p = nI a → post 1) (h0 : (∀ a, a < n → p ≠ nI a) → post 0) : wpX_isCorner post (sX n X Y s t w) p := by
  show (p < 0 → post 0) ∧ (¬ p < 0 → (nI n ≤ p → post 0) ∧ (¬ nI n ≤ p → post 1))
  rcases pk_ix p (n := n) (by omega) with h | h | ⟨j, hj, rfl⟩
  · exact br_t h (h0 fun a ha e => by subst e; exact nI_pos (by omega) h)
  · refine br_c (fun _ => ?_) (fun _ => br_t h ?_) <;> exact h0 fun a ha e => by subst e; exact nI_ge ha (by omega) h
  · exact br_f (nI_pos (by omega)) (br_f (nI_ge hj (by omega)) (h1 j hj rfl))
theorem xb_next {i : Nat} (hn : n ≤ 10) (hi : i < n) (h : post (nI (nx n i))) : wpX_next post (sX n X Y s t w) (nI i) := by
  show (nI n ≤ nI i + 1 → post 0) ∧ (¬ nI n ≤ nI i + 1 → post (nI i + 1))
  rw [nI_1]
  unfold nx at h
  by_cases c : i + 1 < n
  · rw [if_pos c] at h
    exact br_f (nI_ge c (by omega)) h
  · rw [if_neg c] at h
    exact br_t (nI_le (by omega) (by omega)) h
theorem xb_isSamePoint {a b : Nat} (g : gr X Y) (ha : a < 10) (hb : b < 10) (h1 : SP X Y a b → post 1) (h0 : ¬ SP X Y a b → post 0) : wpX_isSamePoint post (sX n X Y s t w) (nI a) (nI b) := by
  have ia := vp_in_nI ha (by decide : 10 < 2 ^ 31)
  have ib := vp_in_nI hb (by decide : 10 < 2 ^ 31)
  have g1 := g a
  have g2 := g b
  simp only [wpX_isSamePoint, nI_clamp (n := a) (by omega), nI_clamp (n := b) (by omega)]
  refine ⟨ia, ib, ib_eq (X a) (X b) rfl rfl ⟨by omega, by omega⟩ ⟨by omega, by omega⟩ (fun e => ⟨ia, ib, ib_eq (Y a) (Y b) rfl rfl ⟨by omega, by omega⟩ ⟨by omega, by omega⟩ (fun e2 => h1 ⟨e, e2⟩) (fun e2 => h0 fun z => e2 z.2)⟩) (fun e => h0 fun z => e z.1)⟩
theorem xb_turnOf {a b c : Nat} (ha : a < 10) (hb : b < 10) (hc : c < 10) (h : post (iN (tn X Y a b c))) : wpX_turnOf post (sX n X Y s t w) (nI a) (nI b) (nI c) := by
  have ia := vp_in_nI ha (by decide : 10 < 2 ^ 31)
  have ib := vp_in_nI hb (by decide : 10 < 2 ^ 31)
  have ic := vp_in_nI hc (by decide : 10 < 2 ^ 31)
  simp only [wpX_turnOf, nI_clamp (n := a) (by omega), nI_clamp (n := b) (by omega), nI_clamp (n := c) (by omega), ie_sub, ie_mul]
  exact ⟨ib, ia, ic, ia, ib, ia, ic, ia, h⟩
theorem xb_isBetween {a b c : Nat} (g : gr X Y) (ha : a < 10) (hb : b < 10) (hc : c < 10) (h1 : BT X Y a b c → post 1) (h0 : ¬ BT X Y a b c → post 0) : wpX_isBetween post (sX n X Y s t w) (nI a) (nI b) (nI c) := by
  have ia := vp_in_nI ha (by decide : 10 < 2 ^ 31)
  have ib := vp_in_nI hb (by decide : 10 < 2 ^ 31)
  have ic := vp_in_nI hc (by decide : 10 < 2 ^ 31)
  simp only [wpX_isBetween, nI_clamp (n := a) (by omega), nI_clamp (n := b) (by omega), nI_clamp (n := c) (by omega), ie_sub]
  refine ⟨ia, ic, nm_e ⟨ia, ic, nm_e ⟨ib, ic, nm_e ⟨ib, ic, nm_e ?_⟩⟩⟩⟩
  refine ib_eq _ _ (ie_mul _ _) (ie_mul _ _) (sm_m (gr_x g _ _) (gr_y g _ _)) (sm_m (gr_y g _ _) (gr_x g _ _)) (fun e => ?_) (fun e => h0 fun z => e z.1)
  simp only [ie_mul, ie_add]
  refine ib_lt 0 _ ie_0 rfl (sm_k 0) (sm_s (gr_x g _ _) (gr_x g _ _) (gr_y g _ _) (gr_y g _ _)) (fun e2 => h0 fun z => ?_) (fun e2 => h1 ⟨e, e2⟩)
  have := z.2
  omega
theorem xb_pos {z : Int} {A B : Prop} (hz : sm z) (f : 0 < z → B) (g : ¬ 0 < z → A) : (iN z ≤ 0 → A) ∧ (¬ iN z ≤ 0 → B) :=
  ib_le z 0 rfl ie_0 hz (sm_k 0) (fun h => g (by omega)) f
/-- the last half of linesMeet: the four turns -/
theorem xb_lm2 {a b c d : Nat} (g : gr X Y) (ha : a < 10) (hb : b < 10) (hc : c < 10) (hd : d < 10)
    (h1 : (¬ (0 < tn X Y a b c ↔ 0 < tn X Y a b d) ∧ ¬ (0 < tn X Y c d a ↔ 0 < tn X Y c d b)) → post 1)
    (h0 : ¬ (¬ (0 < tn X Y a b c ↔ 0 < tn X Y a b d) ∧ ¬ (0 < tn X Y c d a ↔ 0 < tn X Y c d b)) → post 0) :
    wpX_turnOf (fun r_33 => (((r_33 ≤ 0 → (wX_linesMeet_60 post (nI a) (nI b) (nI c) (nI d) 0 (nI n) (fun i => iN (X i)) (fun i => iN (Y i)) s t w)) ∧ (¬ r_33 ≤ 0 → (wX_linesMeet_60 post (nI a) (nI b) (nI c) (nI d) 1 (nI n) (fun i => iN (X i)) (fun i => iN (Y i)) s t w))))) (sX n X Y s t w) (nI a) (nI b) (nI c) := by
  have e00 : ∀ {A B : Prop}, A → ((0 : Int32) = 0 → A) ∧ (¬ (0 : Int32) = 0 → B) := fun a => br_t rfl a
  have e11 : ∀ {A B : Prop}, A → ((1 : Int32) = 1 → A) ∧ (¬ (1 : Int32) = 1 → B) := fun a => br_t rfl a
  have e01 : ∀ {A B : Prop}, B → ((0 : Int32) = 1 → A) ∧ (¬ (0 : Int32) = 1 → B) := fun a => br_f (by decide) a
  have e10 : ∀ {A B : Prop}, B → ((1 : Int32) = 0 → A) ∧ (¬ (1 : Int32) = 0 → B) := fun a => br_f (by decide) a
  refine xb_turnOf ha hb hc (xb_pos (tn_sm g _ _ _) (fun p1 => ?_) (fun p1 => ?_)) <;>
  refine xb_turnOf ha hb hd (xb_pos (tn_sm g _ _ _) (fun p2 => ?_) (fun p2 => ?_)) <;>
  refine xb_turnOf hc hd ha (xb_pos (tn_sm g _ _ _) (fun p3 => ?_) (fun p3 => ?_)) <;>
  refine xb_turnOf hc hd hb (xb_pos (tn_sm g _ _ _) (fun p4 => ?_) (fun p4 => ?_)) <;>
  unfold wX_linesMeet_114 <;>
  first
    | exact e00 (h0 (by simp [p1, p2, p3, p4]))
    | exact e11 (h0 (by simp [p1, p2, p3, p4]))
    | exact e01 (e00 (h0 (by simp [p1, p2, p3, p4])))
    | exact e01 (e11 (h0 (by simp [p1, p2, p3, p4])))
    | exact e10 (e00 (h0 (by simp [p1, p2, p3, p4])))
    | exact e10 (e11 (h0 (by simp [p1, p2, p3, p4])))
    | exact e01 (e01 (h1 (by simp [p1, p2, p3, p4])))
    | exact e01 (e10 (h1 (by simp [p1, p2, p3, p4])))
    | exact e10 (e01 (h1 (by simp [p1, p2, p3, p4])))
    | exact e10 (e10 (h1 (by simp [p1, p2, p3, p4])))
theorem xb_linesMeet {a b c d : Nat} (g : gr X Y) (ha : a < 10) (hb : b < 10) (hc : c < 10) (hd : d < 10) (h1 : LM X Y a b c d → post 1) (h0 : ¬ LM X Y a b c d → post 0) : wpX_linesMeet post (sX n X Y s t w) (nI a) (nI b) (nI c) (nI d) := by
  unfold wpX_linesMeet
  refine xb_isBetween g ha hb hc (fun z => bo_1 (h1 (Or.inl z))) (fun z1 => bo_0 ?_)
  refine xb_isBetween g ha hb hd (fun z => bo_1 (h1 (Or.inr (Or.inl z)))) (fun z2 => bo_0 ?_)
  refine xb_isBetween g hc hd ha (fun z => bo_1 (h1 (Or.inr (Or.inr (Or.inl z))))) (fun z3 => bo_0 ?_)
  refine xb_isBetween g hc hd hb (fun z => bo_1 (h1 (Or.inr (Or.inr (Or.inr (Or.inl z)))))) (fun z4 => bo_0 ?_)
  exact xb_lm2 g ha hb hc hd (fun z => h1 (Or.inr (Or.inr (Or.inr (Or.inr z))))) (fun z => h0 fun y => by
    rcases y with y | y | y | y | y
    · exact z1 y
    · exact z2 y
    · exact z3 y
    · exact z4 y
    · exact z y)
theorem xb_sidesClash {i j : Nat} (g : gr X Y) (hn : n ≤ 10) (hi : i < n) (hj : j < n) (h1 : SC n X Y i j → post 1) (h0 : ¬ SC n X Y i j → post 0) : wpX_sidesClash post (sX n X Y s t w) (nI i) (nI j) := by
  have li := nx_lt hi
  have lj := nx_lt hj
  have k1 : narrow .boolean (.int 1) = .int 1 := rfl
  have k0 : narrow .boolean (.int 0) = .int 0 := rfl
  unfold wpX_sidesClash
  refine xb_next hn hi (xb_next hn hj ?_)
  refine pk_eq (nx n i) j (fun e => ?_) (fun e => pk_eq (nx n j) i (fun e2 => ?_) (fun e2 => ?_))
  · refine xb_isBetween g (by omega) (by omega) (by omega) (fun z => bo_1 (h1 (Or.inl ⟨e, Or.inl z⟩))) (fun z1 => bo_0 ?_)
    refine xb_isBetween g (by omega) (by omega) (by omega) (fun z => bo_1 (h1 (Or.inl ⟨e, Or.inr z⟩))) (fun z2 => bo_0 (h0 ?_))
    rintro (⟨_, z | z⟩ | ⟨z, _⟩ | ⟨z, _⟩)
    · exact z1 z
    · exact z2 z
    · exact z e
    · exact z e
  · refine xb_isBetween g (by omega) (by omega) (by omega) (fun z => bo_1 (h1 (Or.inr (Or.inl ⟨e, e2, Or.inl z⟩)))) (fun z1 => bo_0 ?_)
    refine xb_isBetween g (by omega) (by omega) (by omega) (fun z => bo_1 (h1 (Or.inr (Or.inl ⟨e, e2, Or.inr z⟩)))) (fun z2 => bo_0 (h0 ?_))
    rintro (⟨z, _⟩ | ⟨_, _, z | z⟩ | ⟨_, z, _⟩)
    · exact e z
    · exact z1 z
    · exact z2 z
    · exact z e2
  · refine xb_linesMeet g (by omega) (by omega) (by omega) (by omega) (fun z => ⟨k1, h1 (Or.inr (Or.inr ⟨e, e2, z⟩))⟩) (fun z => ⟨k0, h0 ?_⟩)
    rintro (⟨y, _⟩ | ⟨_, y, _⟩ | ⟨_, _, y⟩)
    · exact e y
    · exact e2 y
    · exact z y
theorem xb_areNeighbours {i j : Nat} (hn : n ≤ 10) (hi : i < n) (hj : j < n) (h1 : (nx n i = j ∨ nx n j = i) → post 1) (h0 : ¬ (nx n i = j ∨ nx n j = i) → post 0) : wpX_areNeighbours post (sX n X Y s t w) (nI i) (nI j) := by
  have li := nx_lt hi
  have lj := nx_lt hj
  unfold wpX_areNeighbours
  refine xb_next hn hi ?_
  refine pk_eq (nx n i) j (fun e => h1 (Or.inl e)) (fun e => xb_next hn hj ?_)
  exact pk_eq (nx n j) i (fun e2 => h1 (Or.inr e2)) (fun e2 => h0 (by rintro (z | z); exact e z; exact e2 z))
end
end
section
section
variable {n : Nat} {X Y : Nat → Int} {s t w : Nat → Int32} {post : Int32 → Prop}
theorem xl_p69 {J : Int32 → Prop} {i : Nat} (g : gr X Y) (hn : n ≤ 10) (hi : i < n) (h0 : ∀ j, i < j → j < n → SC n X Y i j → post 0) (hJ : (∀ j, i < j → j < n → ¬ SC n X Y i j) → J (nI (i + 1))) :
    ∀ d j, i < j → j + d = n → (∀ k, i < k → k < j → ¬ SC n X Y i k) → wX_proper_69 post J (nI i) (nI n) (fun i => iN (X i)) (fun i => iN (Y i)) s t w (d + 1) (nI j) := by
  intro d
  induction d with
  | zero => exact fun j hj e a => br_t (nI_le (by omega) (by omega)) (nm_r (nI_1 i) (hJ fun k h1 h2 => a k h1 (by omega)))
  | succ d ih =>
    intro j hj e a
    refine br_f (nI_ge (by omega) (by omega)) (xb_sidesClash g hn hi (by omega) (fun z => bo_1 (h0 j hj (by omega) z)) (fun z => bo_0 (nm_r (nI_1 j) (ih (j + 1) (by omega) (by omega) fun k h1 h2 => ?_))))
    by_cases c : k = j
    · exact c ▸ z
    · exact a k h1 (by omega)
theorem xl_p57 (g : gr X Y) (hn : n ≤ 10) (h0 : ∀ i j, i < j → j < n → SC n X Y i j → post 0) (h1 : (∀ i j, i < j → j < n → ¬ SC n X Y i j) → post 1) :
    ∀ d i, i + d = n → (∀ k j, k < i → k < j → j < n → ¬ SC n X Y k j) → wX_proper_57 post (nI n) (fun i => iN (X i)) (fun i => iN (Y i)) s t w (d + 1) (nI i) := by
  intro d
  induction d with
  | zero => exact fun i e a => br_t (nI_le (by omega) (by omega)) (h1 fun k j h2 h3 => a k j (by omega) h2 h3)
  | succ d ih =>
    intro i e a
    refine br_f (nI_ge (by omega) (by omega)) (nm_r (nI_1 i) ⟨n - (i + 1) + 1, xl_p69 g hn (by omega) (fun j h2 h3 => h0 i j h2 h3) (fun b => ih (i + 1) (by omega) fun k j h2 h3 h4 => ?_) (n - (i + 1)) (i + 1) (by omega) (by omega) (fun k h2 h3 => absurd h2 (by omega))⟩)
    by_cases c : k = i
    · exact c ▸ b j (by omega) h4
    · exact a k j (by omega) h3 h4
theorem xl_p24 {J : Int32 → Prop} {i : Nat} (g : gr X Y) (hn : n ≤ 10) (hi : i < n) (h0 : ∀ j, i < j → j < n → SP X Y i j → post 0) (hJ : (∀ j, i < j → j < n → ¬ SP X Y i j) → J (nI (i + 1))) :
    ∀ d j, i < j → j + d = n → (∀ k, i < k → k < j → ¬ SP X Y i k) → wX_proper_24 post J (nI i) (nI n) (fun i => iN (X i)) (fun i => iN (Y i)) s t w (d + 1) (nI j) := by
  intro d
  induction d with
  | zero => exact fun j hj e a => br_t (nI_le (by omega) (by omega)) (nm_r (nI_1 i) (hJ fun k h1 h2 => a k h1 (by omega)))
  | succ d ih =>
    intro j hj e a
    refine br_f (nI_ge (by omega) (by omega)) (xb_isSamePoint g (by omega) (by omega) (fun z => bo_1 (h0 j hj (by omega) z)) (fun z => bo_0 (nm_r (nI_1 j) (ih (j + 1) (by omega) (by omega) fun k h1 h2 => ?_))))
    by_cases c : k = j
    · exact c ▸ z
    · exact a k h1 (by omega)
theorem xl_p12 (g : gr X Y) (hn : n ≤ 10) (h0 : ∀ i j, i < j → j < n → SP X Y i j → post 0) (h1 : (∀ i j, i < j → j < n → ¬ SP X Y i j) → ∃ m, wX_proper_57 post (nI n) (fun i => iN (X i)) (fun i => iN (Y i)) s t w m 0) :
    ∀ d i, i + d = n → (∀ k j, k < i → k < j → j < n → ¬ SP X Y k j) → wX_proper_12 post (nI n) (fun i => iN (X i)) (fun i => iN (Y i)) s t w (d + 1) (nI i) := by
  intro d
  induction d with
  | zero => exact fun i e a => br_t (nI_le (by omega) (by omega)) (h1 fun k j h2 h3 => a k j (by omega) h2 h3)
  | succ d ih =>
    intro i e a
    refine br_f (nI_ge (by omega) (by omega)) (nm_r (nI_1 i) ⟨n - (i + 1) + 1, xl_p24 g hn (by omega) (fun j h2 h3 => h0 i j h2 h3) (fun b => ih (i + 1) (by omega) fun k j h2 h3 h4 => ?_) (n - (i + 1)) (i + 1) (by omega) (by omega) (fun k h2 h3 => absurd h2 (by omega))⟩)
    by_cases c : k = i
    · exact c ▸ b j (by omega) h4
    · exact a k j (by omega) h3 h4
theorem xb_proper (g : gr X Y) (hn : n ≤ 10) (h1 : PR n X Y → post 1) (h0 : ¬ PR n X Y → post 0) : wpX_proper post (sX n X Y s t w) := by
  refine pk_le 3 n (fun c => ?_) (fun c => h0 fun z => by have := z.1; omega)
  refine ⟨n + 1, xl_p12 g hn (fun i j a b z => h0 fun y => y.2.1 i j a b z) (fun a => ⟨n + 1, ?_⟩) n 0 (by omega) (fun k j h2 => absurd h2 (by omega))⟩
  exact xl_p57 g hn (fun i j a b z => h0 fun y => y.2.2 i j a b z) (fun b => h1 ⟨c, a, b⟩) n 0 (by omega) (fun k j h2 => absurd h2 (by omega))
theorem xb_tog {J : Int32 → Int32 → Prop} {c i : Nat} (hJ : J (nI ((c + 1) % 2)) (nI (i + 1))) : (nI (c % 2) = 0 → (∀ x4, x4 = nI i + 1 → J 1 x4)) ∧ (¬ nI (c % 2) = 0 → (∀ x4, x4 = nI i + 1 → J 0 x4)) := by
  refine pk_eq (c % 2) 0 (fun e => nm_r (nI_1 i) ?_) (fun e => nm_r (nI_1 i) ?_) (hb := by decide)
  · rw [show (c + 1) % 2 = 1 by omega] at hJ; exact hJ
  · rw [show (c + 1) % 2 = 0 by omega] at hJ; exact hJ
theorem xb_pl108 {J : Int32 → Int32 → Prop} {x1 x2 : Int32} {c i : Nat} {ay by' tu : Int} (h1 : sm ay) (h2 : sm by') (h3 : sm tu)
    (hJ : J (nI ((c + ind (¬ (0 < ay ↔ 0 < by') ∧ (0 < tu ↔ 0 < by'))) % 2)) (nI (i + 1))) :
    wX_placeOf_108 post J x1 x2 (nI (c % 2)) (nI i) (iN ay) (iN by') (iN tu) (nI n) (fun i => iN (X i)) (fun i => iN (Y i)) s t w := by
  have e00 : ∀ {A B : Prop}, A → ((0 : Int32) = 0 → A) ∧ (¬ (0 : Int32) = 0 → B) := fun a => br_t rfl a
  have e11 : ∀ {A B : Prop}, A → ((1 : Int32) = 1 → A) ∧ (¬ (1 : Int32) = 1 → B) := fun a => br_t rfl a
  have e01 : ∀ {A B : Prop}, B → ((0 : Int32) = 1 → A) ∧ (¬ (0 : Int32) = 1 → B) := fun a => br_f (by decide) a
  have e10 : ∀ {A B : Prop}, B → ((1 : Int32) = 0 → A) ∧ (¬ (1 : Int32) = 0 → B) := fun a => br_f (by decide) a
  refine xb_pos h2 (fun p1 => ?_) (fun p1 => ?_) <;> refine xb_pos h1 (fun p2 => ?_) (fun p2 => ?_)
  · rw [ind_f (by simp [p1, p2])] at hJ
    exact e11 (nm_r (nI_1 i) hJ)
  · refine e01 (xb_pos h3 (fun p3 => ?_) (fun p3 => ?_))
    · rw [ind_t (by simp [p1, p2, p3])] at hJ
      exact e11 (xb_tog hJ)
    · rw [ind_f (by simp [p1, p2, p3])] at hJ
      exact e01 (nm_r (nI_1 i) hJ)
  · refine e10 (xb_pos h3 (fun p3 => ?_) (fun p3 => ?_))
    · rw [ind_f (by simp [p1, p2, p3])] at hJ
      exact e10 (nm_r (nI_1 i) hJ)
    · rw [ind_t (by simp [p1, p2, p3])] at hJ
      exact e00 (xb_tog hJ)
  · rw [ind_f (by simp [p1, p2])] at hJ
    exact e00 (nm_r (nI_1 i) hJ)
theorem xl_pl5 {x y : Int} (g : gr X Y) (hn : n ≤ 10) (hx : 0 ≤ x ∧ x ≤ 30) (hy : 0 ≤ y ∧ y ≤ 30)
    (h0 : (∃ i, i < n ∧ oE X Y x y i (nx n i)) → post 0) (h1 : (¬ ∃ i, i < n ∧ oE X Y x y i (nx n i)) → pc n X Y x y n % 2 = 1 → post 1) (h2 : (¬ ∃ i, i < n ∧ oE X Y x y i (nx n i)) → ¬ pc n X Y x y n % 2 = 1 → post (-1)) :
    ∀ d i, i + d = n → (∀ k, k < i → ¬ oE X Y x y k (nx n k)) → wX_placeOf_5 post (iN x) (iN y) (nI n) (fun i => iN (X i)) (fun i => iN (Y i)) s t w (d + 1) (nI (pc n X Y x y i % 2)) (nI i) := by
  intro d
  induction d with
  | zero =>
    intro i e a
    have e' : i = n := by omega
    subst e'
    have no : ¬ ∃ k, k < i ∧ oE X Y x y k (nx i k) := fun ⟨k, hk, z⟩ => a k hk z
    refine br_t (nI_le (by omega) (by omega)) (pk_eq (pc i X Y x y i % 2) 0 (fun c => h2 no (by omega)) (fun c => h1 no (by omega)) (hb := by decide))
  | succ d ih =>
    intro i e a
    have hi : i < n := by omega
    have li := nx_lt hi
    have ci : (nI i).toNatClampNeg = i := nI_clamp (by omega)
    have cj : (nI (nx n i)).toNatClampNeg = nx n i := nI_clamp (by omega)
    have g1 := g i
    have g2 := g (nx n i)
    have r1 : -30 ≤ 2 * X i - x ∧ 2 * X i - x ≤ 30 := by omega
    have r2 : -30 ≤ 2 * Y i - y ∧ 2 * Y i - y ≤ 30 := by omega
    have r3 : -30 ≤ 2 * X (nx n i) - x ∧ 2 * X (nx n i) - x ≤ 30 := by omega
    have r4 : -30 ≤ 2 * Y (nx n i) - y ∧ 2 * Y (nx n i) - y ≤ 30 := by omega
    have e1 : 2 * (fun i => iN (X i)) (nI i).toNatClampNeg - iN x = iN (2 * X i - x) := by
      show 2 * iN (X _) - iN x = _
      rw [ci, ie_2, ie_mul, ie_sub]
    have e2 : 2 * (fun i => iN (Y i)) (nI i).toNatClampNeg - iN y = iN (2 * Y i - y) := by
      show 2 * iN (Y _) - iN y = _
      rw [ci, ie_2, ie_mul, ie_sub]
    have e3 : 2 * (fun i => iN (X i)) (nI (nx n i)).toNatClampNeg - iN x = iN (2 * X (nx n i) - x) := by
      show 2 * iN (X _) - iN x = _
      rw [cj, ie_2, ie_mul, ie_sub]
    have e4 : 2 * (fun i => iN (Y i)) (nI (nx n i)).toNatClampNeg - iN y = iN (2 * Y (nx n i) - y) := by
      show 2 * iN (Y _) - iN y = _
      rw [cj, ie_2, ie_mul, ie_sub]
    have ii := vp_in_nI (n := i) (N := 10) (by omega) (by decide)
    have ij := vp_in_nI (n := nx n i) (N := 10) (by omega) (by decide)
    refine br_f (nI_ge (by omega) (by omega)) (xb_next hn hi ⟨ii, nm_r e1 ⟨ii, nm_r e2 ⟨ij, nm_r e3 ⟨ij, nm_r e4 ?_⟩⟩⟩⟩)
    refine nm_r (e' := iN ((2 * X i - x) * (2 * Y (nx n i) - y) - (2 * Y i - y) * (2 * X (nx n i) - x))) (by rw [ie_mul, ie_mul, ie_sub]) ?_
    have hs : ¬ oE X Y x y i (nx n i) → wX_placeOf_108 post (wX_placeOf_5 post (iN x) (iN y) (nI n) (fun i => iN (X i)) (fun i => iN (Y i)) s t w (d + 1)) (iN x) (iN y) (nI (pc n X Y x y i % 2)) (nI i) (iN (2 * Y i - y)) (iN (2 * Y (nx n i) - y)) (iN ((2 * X i - x) * (2 * Y (nx n i) - y) - (2 * Y i - y) * (2 * X (nx n i) - x))) (nI n) (fun i => iN (X i)) (fun i => iN (Y i)) s t w := by
      intro z
      refine xb_pl108 ⟨by omega, by omega⟩ ⟨by omega, by omega⟩ (sm_d r1 r4 r2 r3) ?_
      refine ih (i + 1) (by omega) fun k hk => ?_
      by_cases c : k = i
      · exact c ▸ z
      · exact a k (by omega)
    refine ib_eq _ 0 rfl ie_0 (sm_d r1 r4 r2 r3) (sm_k 0) (fun c1 => ?_) (fun c1 => hs fun z => c1 z.1)
    refine ib_lt 0 ((2 * X i - x) * (2 * X (nx n i) - x) + (2 * Y i - y) * (2 * Y (nx n i) - y)) ie_0 (by rw [ie_mul, ie_mul, ie_add]) (sm_k 0) (sm_s r1 r3 r2 r4) (fun c2 => hs fun z => ?_) (fun c2 => h0 ⟨i, hi, c1, c2⟩)
    have := z.2
    omega
theorem xb_placeOf {x y : Int} (g : gr X Y) (hn : n ≤ 10) (hx : 0 ≤ x ∧ x ≤ 30) (hy : 0 ≤ y ∧ y ≤ 30) (h : post (iN (plv n X Y x y))) : wpX_placeOf post (sX n X Y s t w) (iN x) (iN y) := by
  refine ⟨n + 1, xl_pl5 g hn hx hy (fun z => ?_) (fun z z2 => ?_) (fun z z2 => ?_) n 0 (by omega) (fun k hk => absurd hk (by omega))⟩
  · unfold plv at h; rw [sel_t z] at h; exact h
  · unfold plv at h; rw [sel_f z, sel_t z2] at h; exact h
  · unfold plv at h; rw [sel_f z, sel_f z2] at h; exact h
theorem xl_cut34 {p q : Nat} (g : gr X Y) (hn : n ≤ 10) (hp : p < n) (hq : q < n)
    (h0 : ∀ i, i < n → ¬ (i = p ∨ i = q ∨ nx n i = p ∨ nx n i = q) → LM X Y p q i (nx n i) → post 0)
    (h1 : (∀ i, i < n → ¬ (i = p ∨ i = q ∨ nx n i = p ∨ nx n i = q) → ¬ LM X Y p q i (nx n i)) → (plv n X Y (X p + X q) (Y p + Y q) = 1 → post 1) ∧ (¬ plv n X Y (X p + X q) (Y p + Y q) = 1 → post 0)) :
    ∀ d i, i + d = n → (∀ k, k < i → ¬ (k = p ∨ k = q ∨ nx n k = p ∨ nx n k = q) → ¬ LM X Y p q k (nx n k)) → wX_isCut_34 post (nI p) (nI q) (nI n) (fun i => iN (X i)) (fun i => iN (Y i)) s t w (d + 1) (nI i) := by
  intro d
  induction d with
  | zero =>
    intro i e a
    have ip := vp_in_nI (n := p) (N := 10) (by omega) (by decide)
    have iq := vp_in_nI (n := q) (N := 10) (by omega) (by decide)
    have cp : (nI p).toNatClampNeg = p := nI_clamp (by omega)
    have cq : (nI q).toNatClampNeg = q := nI_clamp (by omega)
    refine br_t (nI_le (by omega) (by omega)) ⟨ip, iq, ip, iq, ?_⟩
    rw [cp, cq]
    show wpX_placeOf _ _ (iN (X p) + iN (X q)) (iN (Y p) + iN (Y q))
    rw [ie_add, ie_add]
    have g1 := g p
    have g2 := g q
    have := h1 fun k hk => a k (by omega)
    refine xb_placeOf g hn (by omega) (by omega) ?_
    refine ib_eq _ 1 rfl ie_1 ?_ (sm_k 1) this.1 this.2
    rcases plv_r (n := n) (X := X) (Y := Y) (x := X p + X q) (y := Y p + Y q) with h | h | h <;> rw [h] <;> exact sm_k _
  | succ d ih =>
    intro i e a
    have hi : i < n := by omega
    have li := nx_lt hi
    have hs : ((i = p ∨ i = q ∨ nx n i = p ∨ nx n i = q) ∨ ¬ LM X Y p q i (nx n i)) → ∀ x, x = nI i + 1 → wX_isCut_34 post (nI p) (nI q) (nI n) (fun i => iN (X i)) (fun i => iN (Y i)) s t w (d + 1) x := by
      intro z
      refine nm_r (nI_1 i) (ih (i + 1) (by omega) fun k hk => ?_)
      by_cases c : k = i
      · subst c; exact fun y => z.resolve_left y
      · exact a k (by omega)
    refine br_f (nI_ge (by omega) (by omega)) (xb_next hn hi ?_)
    refine pk_eq i p (fun c => br_f (by decide) (hs (Or.inl (Or.inl c)))) (fun c1 => ?_)
    refine pk_eq i q (fun c => br_f (by decide) (hs (Or.inl (Or.inr (Or.inl c))))) (fun c2 => ?_)
    refine pk_eq (nx n i) p (fun c => br_f (by decide) (hs (Or.inl (Or.inr (Or.inr (Or.inl c)))))) (fun c3 => ?_)
    refine pk_eq (nx n i) q (fun c => br_f (by decide) (hs (Or.inl (Or.inr (Or.inr (Or.inr c)))))) (fun c4 => ?_)
    refine br_t rfl (xb_linesMeet g (by omega) (by omega) (by omega) (by omega) (fun z => bo_1 (h0 i hi ?_ z)) (fun z => bo_0 (hs (Or.inr z))))
    rintro (y | y | y | y)
    · exact c1 y
    · exact c2 y
    · exact c3 y
    · exact c4 y
theorem xb_isCut {p q : Int32} (g : gr X Y) (hn : n ≤ 10) (h1 : ∀ a b, a < n → b < n → p = nI a → q = nI b → CUX n X Y a b → post 1) (h0 : (∀ a b, a < n → b < n → p = nI a → q = nI b → ¬ CUX n X Y a b) → post 0) : wpX_isCut post (sX n X Y s t w) p q := by
  unfold wpX_isCut
  refine xb_isCorner hn (fun a ha ea => bo_1 ?_) (fun z => bo_0 (h0 fun a b ha _ e _ => absurd e (z a ha)))
  refine xb_isCorner hn (fun b hb eb => bo_1 ?_) (fun z => bo_0 (h0 fun a b _ hb _ e => absurd e (z b hb)))
  subst ea eb
  have h0' : ¬ CUX n X Y a b → post 0 := fun z => h0 fun a' b' ha' hb' e1 e2 => by
    rw [nI_eq (by omega) (by omega)] at e1 e2
    subst e1 e2
    exact z
  have h1' := h1 a b ha hb rfl rfl
  refine pk_eq a b (fun c => h0' fun z => z.1 c) (fun c => ?_)
  refine xb_areNeighbours hn ha hb (fun z => bo_1 (h0' fun y => y.2.1 z)) (fun z => bo_0 ?_)
  refine ⟨n + 1, xl_cut34 g hn ha hb (fun i hi c1 c2 => h0' fun y => y.2.2.1 i hi c1 c2) (fun y => ⟨fun y2 => h1' ⟨c, z, y, y2⟩, fun y2 => h0' fun x => y2 x.2.2.2⟩) n 0 (by omega) (fun k hk => absurd hk (by omega))⟩
end
end
section
theorem al_sq (a : Int) : 0 ≤ a * a := by
  by_cases h : 0 ≤ a
  · exact Int.mul_nonneg h h
  · have := Int.mul_nonneg (a := -a) (b := -a) (by omega) (by omega)
    rwa [Int.neg_mul_neg] at this
theorem al_pn {a b : Int} (ha : 0 < a) (h : 0 ≤ a * b) : 0 ≤ b := by
  by_cases c : 0 ≤ b
  · exact c
  · have := Int.mul_pos ha (show 0 < -b by omega)
    rw [Int.mul_neg] at this
    omega
theorem al_pp {a b : Int} (ha : 0 < a) (h : a * b ≤ 0) : b ≤ 0 := by
  by_cases c : b ≤ 0
  · exact c
  · have := Int.mul_pos ha (show 0 < b by omega)
    omega
theorem al_bt1 {a b c d : Int} (e : a * d = b * c) (h : a * c + b * d ≤ 0) : a * c ≤ 0 := by
  by_cases z : a * c ≤ 0
  · exact z
  · have h1 : (a * c) * (b * d) = (a * d) * (a * d) := by grind
    have h2 := al_sq (a * d)
    rw [← h1] at h2
    have := al_pn (by omega) h2
    omega
theorem al_bt (a b c d : Int) : (a * d = b * c ∧ a * c + b * d ≤ 0) ↔ (a * c ≤ 0 ∧ b * d ≤ 0 ∧ a * d = b * c) := by
  constructor
  · rintro ⟨e, h⟩
    exact ⟨al_bt1 e h, al_bt1 (a := b) (b := a) (c := d) (d := c) e.symm (by omega), e⟩
  · rintro ⟨h1, h2, e⟩
    exact ⟨e, by omega⟩
theorem al_box (x a b : Int) : ((a ≤ x ∧ x ≤ b) ∨ (b ≤ x ∧ x ≤ a)) ↔ (a - x) * (b - x) ≤ 0 := by
  constructor
  · rintro (⟨h1, h2⟩ | ⟨h1, h2⟩)
    · have := Int.mul_nonneg (show 0 ≤ x - a by omega) (show 0 ≤ b - x by omega)
      have e : (x - a) * (b - x) = - ((a - x) * (b - x)) := by grind
      omega
    · have := Int.mul_nonneg (show 0 ≤ a - x by omega) (show 0 ≤ x - b by omega)
      have e : (a - x) * (x - b) = - ((a - x) * (b - x)) := by grind
      omega
  · intro h
    by_cases c : a ≤ x
    · by_cases d : x ≤ b
      · exact Or.inl ⟨c, d⟩
      · by_cases e : a = x
        · subst e; exact Or.inr ⟨by omega, by omega⟩
        · have := Int.mul_pos (show 0 < x - a by omega) (show 0 < x - b by omega)
          have e : (x - a) * (x - b) = (a - x) * (b - x) := by grind
          omega
    · have := al_pp (show 0 < a - x by omega) h
      exact Or.inr ⟨by omega, by omega⟩
section
variable {n : Nat} {X Y : Nat → Int}
theorem tn_c (a b c : Nat) : tn X Y a b c = (X a - X c) * (Y b - Y c) - (Y a - Y c) * (X b - X c) := by unfold tn; grind
theorem bt_y (a b c : Nat) : BT X Y a b c ↔ ((X c - X a) * (X c - X b) ≤ 0 ∧ (Y c - Y a) * (Y c - Y b) ≤ 0 ∧ tn X Y a b c = 0) := by
  unfold BT
  rw [tn_c, show (X c - X a) * (X c - X b) = (X a - X c) * (X b - X c) by grind, show (Y c - Y a) * (Y c - Y b) = (Y a - Y c) * (Y b - Y c) by grind, al_bt, Int.sub_eq_zero]
theorem al_A {a1 a2 b1 b2 c1 c2 : Int} (h : a1 * b2 = a2 * b1) (t3 t4 : Int) (e3 : t3 = c2 * a1 - c1 * a2) (e4 : t4 = c2 * b1 - c1 * b2) (h3 : t3 ≤ 0) (h4 : 0 ≤ t4) (ne : t4 - t3 ≠ 0) : a1 * b1 + a2 * b2 ≤ 0 := by
  have k1 : (t4 - t3) * (a1 * b1 + a2 * b2) = t3 * (b1 * b1 + b2 * b2) - t4 * (a1 * a1 + a2 * a2) := by subst e3 e4; grind
  have q1 := al_sq b1
  have q2 := al_sq b2
  have q3 := al_sq a1
  have q4 := al_sq a2
  have k2 : 0 ≤ (-t3) * (b1 * b1 + b2 * b2) := Int.mul_nonneg (by omega) (by omega)
  have k3 : 0 ≤ t4 * (a1 * a1 + a2 * a2) := Int.mul_nonneg (by omega) (by omega)
  rw [Int.neg_mul] at k2
  exact al_pp (a := t4 - t3) (by omega) (by rw [k1]; omega)
theorem bt_A {a b c d : Nat} (h2 : tn X Y a b d = 0) (h1 : tn X Y a b c ≠ 0) (h : (tn X Y c d a ≤ 0 ∧ 0 ≤ tn X Y c d b) ∨ (0 ≤ tn X Y c d a ∧ tn X Y c d b ≤ 0)) : BT X Y a b d := by
  rw [tn_c] at h2
  refine ⟨by omega, ?_⟩
  have h2' : (X a - X d) * (Y b - Y d) = (Y a - Y d) * (X b - X d) := by omega
  have e1 : tn X Y a b c = tn X Y c d b - tn X Y c d a := by unfold tn; grind
  rcases h with ⟨h3, h4⟩ | ⟨h3, h4⟩
  · refine al_A (c1 := X c - X d) (c2 := Y c - Y d) h2' (tn X Y c d a) (tn X Y c d b) ?_ ?_ h3 h4 (by omega)
    · unfold tn; grind
    · unfold tn; grind
  · refine al_A (c1 := -(X c - X d)) (c2 := -(Y c - Y d)) h2' (-tn X Y c d a) (-tn X Y c d b) ?_ ?_ (by omega) (by omega) (by omega)
    · unfold tn; grind
    · unfold tn; grind
theorem tn_sw (a b c : Nat) : tn X Y b a c = - tn X Y a b c := by unfold tn; grind
theorem tn_cy (a b c : Nat) : tn X Y b c a = tn X Y a b c := by unfold tn; grind
theorem bt_sw {a b c : Nat} : BT X Y b a c ↔ BT X Y a b c := by
  rw [bt_y, bt_y, tn_sw, Int.mul_comm, Int.mul_comm (Y c - Y b)]
  constructor
  · rintro ⟨h1, h2, h3⟩; exact ⟨h1, h2, by omega⟩
  · rintro ⟨h1, h2, h3⟩; exact ⟨h1, h2, by omega⟩
theorem al_opp {a b : Int} : a * b < 0 ↔ (0 < a ∧ b < 0) ∨ (a < 0 ∧ 0 < b) := by
  constructor
  · intro h
    rcases Int.lt_trichotomy a 0 with h1 | h1 | h1
    · refine Or.inr ⟨h1, ?_⟩
      by_cases c : 0 < b
      · exact c
      · have := Int.mul_nonneg (show 0 ≤ -a by omega) (show 0 ≤ -b by omega)
        rw [Int.neg_mul_neg] at this
        omega
    · subst h1; omega
    · refine Or.inl ⟨h1, ?_⟩
      by_cases c : b < 0
      · exact c
      · have := Int.mul_nonneg (show 0 ≤ a by omega) (show 0 ≤ b by omega)
        omega
  · rintro (⟨h1, h2⟩ | ⟨h1, h2⟩)
    · exact Int.mul_neg_of_pos_of_neg h1 h2
    · exact Int.mul_neg_of_neg_of_pos h1 h2
theorem lm_y (a b c d : Nat) : LM X Y a b c d ↔ (BT X Y a b c ∨ BT X Y a b d ∨ BT X Y c d a ∨ BT X Y c d b ∨ (tn X Y a b c * tn X Y a b d < 0 ∧ tn X Y c d a * tn X Y c d b < 0)) := by
  unfold LM
  by_cases n1 : BT X Y a b c
  · simp [n1]
  by_cases n2 : BT X Y a b d
  · simp [n2]
  by_cases n3 : BT X Y c d a
  · simp [n3]
  by_cases n4 : BT X Y c d b
  · simp [n4]
  simp only [n1, n2, n3, n4, false_or]
  rw [al_opp, al_opp]
  have e1 : tn X Y a b c - tn X Y a b d = tn X Y c d b - tn X Y c d a := by unfold tn; grind
  have s1 : tn X Y d c a = - tn X Y c d a := tn_sw c d a
  have s2 : tn X Y d c b = - tn X Y c d b := tn_sw c d b
  have s3 : tn X Y b a c = - tn X Y a b c := tn_sw a b c
  have s4 : tn X Y b a d = - tn X Y a b d := tn_sw a b d
  have m2 : tn X Y a b d = 0 → tn X Y a b c ≠ 0 → ¬ ((tn X Y c d a ≤ 0 ∧ 0 ≤ tn X Y c d b) ∨ (0 ≤ tn X Y c d a ∧ tn X Y c d b ≤ 0)) := fun x y z => n2 (bt_A x y z)
  have m1 : tn X Y a b c = 0 → tn X Y a b d ≠ 0 → ¬ ((tn X Y d c a ≤ 0 ∧ 0 ≤ tn X Y d c b) ∨ (0 ≤ tn X Y d c a ∧ tn X Y d c b ≤ 0)) := fun x y z => n1 (bt_A x y z)
  have m4 : tn X Y c d b = 0 → tn X Y c d a ≠ 0 → ¬ ((tn X Y a b c ≤ 0 ∧ 0 ≤ tn X Y a b d) ∨ (0 ≤ tn X Y a b c ∧ tn X Y a b d ≤ 0)) := fun x y z => n4 (bt_A x y z)
  have m3 : tn X Y c d a = 0 → tn X Y c d b ≠ 0 → ¬ ((tn X Y b a c ≤ 0 ∧ 0 ≤ tn X Y b a d) ∨ (0 ≤ tn X Y b a c ∧ tn X Y b a d ≤ 0)) := fun x y z => n3 (bt_A x y z)
  rw [s1, s2] at m1
  rw [s3, s4] at m3
  generalize tn X Y a b c = t1 at *
  generalize tn X Y a b d = t2 at *
  generalize tn X Y c d a = t3 at *
  generalize tn X Y c d b = t4 at *
  omega
theorem lm_sw (a b c d : Nat) : LM X Y c d a b ↔ LM X Y a b c d := by
  unfold LM
  constructor
  · rintro (h | h | h | h | h)
    · exact Or.inr (Or.inr (Or.inl h))
    · exact Or.inr (Or.inr (Or.inr (Or.inl h)))
    · exact Or.inl h
    · exact Or.inr (Or.inl h)
    · exact Or.inr (Or.inr (Or.inr (Or.inr ⟨h.2, h.1⟩)))
  · rintro (h | h | h | h | h)
    · exact Or.inr (Or.inr (Or.inl h))
    · exact Or.inr (Or.inr (Or.inr (Or.inl h)))
    · exact Or.inl h
    · exact Or.inr (Or.inl h)
    · exact Or.inr (Or.inr (Or.inr (Or.inr ⟨h.2, h.1⟩)))
/-- folded at m: the reference's words -/
theorem al_fold {a b c d : Int} (hu : a * a + b * b ≠ 0) (hv : c * c + d * d ≠ 0) (e : a * d = b * c) : 0 < a * c + b * d ↔ (c * c + d * d ≤ a * c + b * d ∨ a * a + b * b ≤ a * c + b * d) := by
  have q1 := al_sq a
  have q2 := al_sq b
  have q3 := al_sq c
  have q4 := al_sq d
  have k : (a * a + b * b) * (c * c + d * d) = (a * c + b * d) * (a * c + b * d) := by grind
  constructor
  · intro h
    by_cases c1 : c * c + d * d ≤ a * c + b * d
    · exact Or.inl c1
    by_cases c2 : a * a + b * b ≤ a * c + b * d
    · exact Or.inr c2
    exfalso
    have k1 := Int.mul_pos (show 0 < a * a + b * b - (a * c + b * d) by omega) (show 0 < c * c + d * d by omega)
    have k2 := Int.mul_pos h (show 0 < c * c + d * d - (a * c + b * d) by omega)
    rw [Int.sub_mul] at k1
    rw [Int.mul_sub] at k2
    omega
  · omega
def pv (n i : Nat) : Nat := if i = 0 then n - 1 else i - 1
def FO (n : Nat) (X Y : Nat → Int) (i : Nat) : Prop := tn X Y (pv n i) i (nx n i) = 0 ∧ 0 < (X (nx n i) - X i) * (X (pv n i) - X i) + (Y (nx n i) - Y i) * (Y (pv n i) - Y i)
theorem al_n0 {a b : Int} (h : ¬ (a = 0 ∧ b = 0)) : a * a + b * b ≠ 0 := by
  intro z
  have q1 := al_sq a
  have q2 := al_sq b
  have z1 : a * a = 0 := by omega
  have z2 : b * b = 0 := by omega
  exact h ⟨(Int.mul_eq_zero.mp z1).elim id id, (Int.mul_eq_zero.mp z2).elim id id⟩
theorem fo_bt {h m k : Nat} (h1 : ¬ SP X Y h m) (h2 : ¬ SP X Y m k) : (tn X Y h m k = 0 ∧ 0 < (X k - X m) * (X h - X m) + (Y k - Y m) * (Y h - Y m)) ↔ (BT X Y h m k ∨ BT X Y m k h) := by
  have n1 : (X h - X m) * (X h - X m) + (Y h - Y m) * (Y h - Y m) ≠ 0 := al_n0 fun z => h1 ⟨by omega, by omega⟩
  have n2 : (X k - X m) * (X k - X m) + (Y k - Y m) * (Y k - Y m) ≠ 0 := al_n0 fun z => h2 ⟨by omega, by omega⟩
  by_cases e : tn X Y h m k = 0
  · have e' : (X h - X m) * (Y k - Y m) = (Y h - Y m) * (X k - X m) := by unfold tn at e; grind
    have f := al_fold n1 n2 e'
    have b1 : BT X Y h m k ↔ (X k - X m) * (X k - X m) + (Y k - Y m) * (Y k - Y m) ≤ (X h - X m) * (X k - X m) + (Y h - Y m) * (Y k - Y m) := by
      unfold BT
      have : (X h - X k) * (X m - X k) + (Y h - Y k) * (Y m - Y k) = (X k - X m) * (X k - X m) + (Y k - Y m) * (Y k - Y m) - ((X h - X m) * (X k - X m) + (Y h - Y m) * (Y k - Y m)) := by grind
      have e2 : (X h - X k) * (Y m - Y k) = (Y h - Y k) * (X m - X k) := by grind
      simp only [e2, true_and]
      omega
    have b2 : BT X Y m k h ↔ (X h - X m) * (X h - X m) + (Y h - Y m) * (Y h - Y m) ≤ (X h - X m) * (X k - X m) + (Y h - Y m) * (Y k - Y m) := by
      unfold BT
      have : (X m - X h) * (X k - X h) + (Y m - Y h) * (Y k - Y h) = (X h - X m) * (X h - X m) + (Y h - Y m) * (Y h - Y m) - ((X h - X m) * (X k - X m) + (Y h - Y m) * (Y k - Y m)) := by grind
      have e2 : (X m - X h) * (Y k - Y h) = (Y m - Y h) * (X k - X h) := by grind
      simp only [e2, true_and]
      omega
    rw [b1, b2, ← f]
    have : (X k - X m) * (X h - X m) + (Y k - Y m) * (Y h - Y m) = (X h - X m) * (X k - X m) + (Y h - Y m) * (Y k - Y m) := by grind
    rw [this]
    simp [e]
  · constructor
    · exact fun z => absurd z.1 e
    · rintro (z | z)
      · exact absurd ((bt_y _ _ _).mp z).2.2 e
      · exact absurd (by rw [← tn_cy h m k]; exact ((bt_y _ _ _).mp z).2.2) e
end
end
section
section
variable {n : Nat} {X Y : Nat → Int}
def PRY (n : Nat) (X Y : Nat → Int) : Prop := 2 < n ∧ (∀ i k, k < i → i < n → ¬ SP X Y i k) ∧ (∀ i k, k < i → i < n → ¬ (k = i - 1 ∨ (k = 0 ∧ i = n - 1)) → ¬ LM X Y i (nx n i) k (k + 1)) ∧ (∀ i, i < n → ¬ FO n X Y i)
theorem sp_sw {a b : Nat} : SP X Y a b ↔ SP X Y b a := by
  unfold SP; constructor <;> (rintro ⟨h1, h2⟩; exact ⟨h1.symm, h2.symm⟩)
theorem sp_all (h : ∀ i j, i < j → j < n → ¬ SP X Y i j) {a b : Nat} (ha : a < n) (hb : b < n) (ne : a ≠ b) : ¬ SP X Y a b := by
  by_cases c : a < b
  · exact h a b c hb
  · exact fun z => h b a (by omega) ha (sp_sw.mp z)
theorem nx_1 {i : Nat} (h : i + 1 < n) : nx n i = i + 1 := if_pos h
theorem nx_0 {i : Nat} (h : ¬ i + 1 < n) : nx n i = 0 := if_neg h
theorem pv_lt {i : Nat} (h : i < n) : pv n i < n := by unfold pv; split <;> omega
theorem nx_pv {i : Nat} (h : i < n) : nx n (pv n i) = i := by
  unfold pv
  split
  · rw [nx_0 (by omega)]; omega
  · rw [nx_1 (by omega)]; omega
theorem pv_nx {i : Nat} (h : i < n) : pv n (nx n i) = i := by
  by_cases c : i + 1 < n
  · rw [nx_1 c]; unfold pv; rw [if_neg (by omega)]; omega
  · rw [nx_0 c]; unfold pv; rw [if_pos rfl]; omega
theorem nx_ne {i : Nat} (h : i < n) (h2 : 2 ≤ n) : nx n i ≠ i := by
  unfold nx; split <;> omega
theorem pv_ne {i : Nat} (h : i < n) (h2 : 2 ≤ n) : pv n i ≠ i := by
  unfold pv; split <;> omega
theorem pr_eq : PR n X Y ↔ PRY n X Y := by
  constructor
  · rintro ⟨h3, hd, hs⟩
    refine ⟨h3, fun i k a b z => hd k i a b (sp_sw.mp z), fun i k a b c z => ?_, fun i hi z => ?_⟩
    · have e : nx n k = k + 1 := nx_1 (by omega)
      refine hs k i a b (Or.inr (Or.inr ⟨?_, ?_, ?_⟩))
      · rw [e]; omega
      · unfold nx; split <;> omega
      · rw [e, lm_sw]; exact z
    · have m1 := sp_all hd (pv_lt hi) hi (pv_ne hi (by omega))
      have m2 := sp_all hd hi (nx_lt hi) (fun e => nx_ne hi (by omega) e.symm)
      have z2 := (fo_bt m1 m2).mp z
      by_cases c : i = 0
      · subst c
        have e1 : pv n 0 = n - 1 := rfl
        rw [e1] at z2
        refine hs 0 (n - 1) (by omega) (by omega) (Or.inr (Or.inl ⟨?_, ?_, z2⟩))
        · rw [nx_1 (by omega)]; omega
        · rw [nx_0 (by omega)]
      · have e1 : pv n i = i - 1 := if_neg c
        rw [e1] at z2
        refine hs (i - 1) i (by omega) hi (Or.inl ⟨?_, z2⟩)
        rw [nx_1 (by omega)]; omega
  · rintro ⟨h3, hd', hm, hf⟩
    have hd : ∀ i j, i < j → j < n → ¬ SP X Y i j := fun i j a b z => hd' j i a b (sp_sw.mp z)
    refine ⟨h3, hd, fun i j a b z => ?_⟩
    have e : nx n i = i + 1 := nx_1 (by omega)
    rcases z with ⟨c, z⟩ | ⟨c1, c2, z⟩ | ⟨c1, c2, z⟩
    · have m1 := sp_all hd (a := i) (b := j) (by omega) b (by omega)
      have m2 := sp_all hd b (nx_lt b) (fun e => nx_ne b (by omega) e.symm)
      have k := (fo_bt m1 m2).mpr z
      have e1 : pv n j = i := by unfold pv; rw [if_neg (by omega)]; omega
      refine hf j b ?_
      unfold FO
      rw [e1]
      exact k
    · have ej : i = 0 ∧ j = n - 1 := by unfold nx at c2; split at c2 <;> omega
      obtain ⟨rfl, rfl⟩ := ej
      have m1 := sp_all hd (a := n - 1) (b := 0) b (by omega) (by omega)
      have m2 := sp_all hd (a := 0) (b := nx n 0) (by omega) (nx_lt (by omega)) (fun e => nx_ne (show 0 < n by omega) (by omega) e.symm)
      exact hf 0 (by omega) ((fo_bt m1 m2).mpr z)
    · rw [e] at c1
      refine hm j i a b ?_ ?_
      · rintro (q | ⟨q1, q2⟩)
        · omega
        · subst q1 q2; exact c2 (nx_0 (by omega))
      · rw [lm_sw, ← e]; exact z
def CUY (n : Nat) (X Y : Nat → Int) (p q : Nat) : Prop := p ≠ q ∧ ¬ (nx n p = q ∨ nx n q = p) ∧ (∀ i, i < n → ¬ ((i ≠ p ∧ i ≠ q ∧ BT X Y p q i) ∨ (¬ (i = p ∨ i = q ∨ nx n i = p ∨ nx n i = q) ∧ LM X Y p q i (nx n i)))) ∧ plv n X Y (X p + X q) (Y p + Y q) = 1
theorem oe_mid {p i q : Nat} (h : BT X Y p q i) : oE X Y (X p + X q) (Y p + Y q) p i ∨ oE X Y (X p + X q) (Y p + Y q) i q := by
  obtain ⟨e, _⟩ := h
  have k1 : (2 * X p - (X p + X q)) * (2 * Y i - (Y p + Y q)) - (2 * Y p - (Y p + Y q)) * (2 * X i - (X p + X q)) = 0 := by grind
  have k2 : (2 * X i - (X p + X q)) * (2 * Y q - (Y p + Y q)) - (2 * Y i - (Y p + Y q)) * (2 * X q - (X p + X q)) = 0 := by grind
  have k3 : (2 * X p - (X p + X q)) * (2 * X i - (X p + X q)) + (2 * Y p - (Y p + Y q)) * (2 * Y i - (Y p + Y q)) = -((2 * X i - (X p + X q)) * (2 * X q - (X p + X q)) + (2 * Y i - (Y p + Y q)) * (2 * Y q - (Y p + Y q))) := by grind
  unfold oE
  by_cases c : (2 * X p - (X p + X q)) * (2 * X i - (X p + X q)) + (2 * Y p - (Y p + Y q)) * (2 * Y i - (Y p + Y q)) ≤ 0
  · exact Or.inl ⟨k1, c⟩
  · exact Or.inr ⟨k2, by omega⟩
theorem plv_0 {x y : Int} {i : Nat} (hi : i < n) (h : oE X Y x y i (nx n i)) : plv n X Y x y = 0 := by
  unfold plv; exact sel_t ⟨i, hi, h⟩
theorem cu_eq {p q : Nat} (hp : p < n) (hq : q < n) : CUX n X Y p q ↔ CUY n X Y p q := by
  constructor
  · rintro ⟨h1, h2, h3, h4⟩
    refine ⟨h1, h2, fun i hi z => ?_, h4⟩
    rcases z with ⟨c1, c2, z⟩ | ⟨c, z⟩
    · have lm : ∀ j, LM X Y p q i j := fun j => Or.inl z
      have lm' : ∀ j, LM X Y p q j i := fun j => Or.inr (Or.inl z)
      have hh := pv_lt hi
      have e1 := nx_pv hi
      have a1 : nx n i = p ∨ nx n i = q := by
        by_cases d1 : nx n i = p
        · exact Or.inl d1
        by_cases d2 : nx n i = q
        · exact Or.inr d2
        exact absurd (lm _) (h3 i hi (by rintro (y | y | y | y) <;> contradiction))
      have a2 : pv n i = p ∨ pv n i = q := by
        by_cases d1 : pv n i = p
        · exact Or.inl d1
        by_cases d2 : pv n i = q
        · exact Or.inr d2
        refine absurd (lm' (pv n i)) ?_
        have := h3 (pv n i) hh (by rw [e1]; rintro (y | y | y | y) <;> contradiction)
        rwa [e1] at this
      have ne : nx n i ≠ pv n i := by
        unfold nx pv; split <;> split <;> omega
      have no : ∀ a b, a < n → nx n a = b → ¬ oE X Y (X p + X q) (Y p + Y q) a b := by
        intro a b ha e y
        subst e
        have := plv_0 ha y
        omega
      rcases a1 with a1 | a1 <;> rcases a2 with a2 | a2
      · omega
      · rcases oe_mid (bt_sw.mpr z) with y | y
        · rw [Int.add_comm (X q), Int.add_comm (Y q)] at y
          exact no q i hq (by rw [← a2, e1]) y
        · rw [Int.add_comm (X q), Int.add_comm (Y q)] at y
          exact no i p hi a1 y
      · rcases oe_mid z with y | y
        · exact no p i hp (by rw [← a2, e1]) y
        · exact no i q hi a1 y
      · omega
    · exact h3 i hi c z
  · rintro ⟨h1, h2, h3, h4⟩
    exact ⟨h1, h2, fun i hi c z => h3 i hi (Or.inr ⟨c, z⟩), h4⟩
theorem oe_y {x y : Int} (i j : Nat) : oE X Y x y i j ↔ (((2 * X i ≤ x ∧ x ≤ 2 * X j) ∨ (2 * X j ≤ x ∧ x ≤ 2 * X i)) ∧ ((2 * Y i ≤ y ∧ y ≤ 2 * Y j) ∨ (2 * Y j ≤ y ∧ y ≤ 2 * Y i)) ∧ (2 * X j - 2 * X i) * (y - 2 * Y i) - (x - 2 * X i) * (2 * Y j - 2 * Y i) = 0) := by
  unfold oE
  rw [al_box, al_box, show (2 * X j - 2 * X i) * (y - 2 * Y i) - (x - 2 * X i) * (2 * Y j - 2 * Y i) = (2 * X i - x) * (2 * Y j - y) - (2 * Y i - y) * (2 * X j - x) by grind, Int.sub_eq_zero, al_bt]
end
end
section
theorem yr_1 {n i : Nat} (hn : n ≤ 10) (hi : i < n) : nI i + 1 - (nI i + 1) / nI n * nI n = nI (nx n i) := by
  rw [nI_1, pk_rem (by omega) (by omega) (by omega), nx_mod hi]
theorem yr_2 {n i : Nat} (hn : n ≤ 10) (hi : i < n) : nI i + 2 - (nI i + 2) / nI n * nI n = nI (nx n (nx n i)) := by
  rw [show nI i + 2 = nI (i + 2) from nI_add i 2, pk_rem (by omega) (by omega) (by omega)]
  congr 1
  unfold nx
  split
  · split
    · exact Nat.mod_eq_of_lt (by omega)
    · rw [show i + 2 = n by omega, Nat.mod_self]
  · have e : i + 2 = n + 1 := by omega
    rw [e, Nat.add_mod_left]
    split
    · exact Nat.mod_eq_of_lt (by omega)
    · rw [show n = 1 by omega]
theorem yr_m {n i : Nat} (hn : n ≤ 10) (hi : i < n) : nI i + nI n - 1 - (nI i + nI n - 1) / nI n * nI n = nI (pv n i) := by
  rw [nI_add, show i + n = (i + n - 1) + 1 by omega, nI_pred, pk_rem (by omega) (by omega) (by omega)]
  congr 1
  unfold pv
  split
  · rw [show i + n - 1 = n - 1 by omega]; exact Nat.mod_eq_of_lt (by omega)
  · rw [show i + n - 1 = n + (i - 1) by omega, Nat.add_mod_left]; exact Nat.mod_eq_of_lt (by omega)
theorem sg_sm (z : Int) : sm (Int.sign z) := by
  rcases Int.lt_trichotomy z 0 with h | h | h
  · rw [Int.sign_eq_neg_one_of_neg h]; exact sm_k _
  · rw [h, Int.sign_zero]; exact sm_k _
  · rw [Int.sign_eq_one_of_pos h]; exact sm_k _
theorem sg_pos (z : Int) : 0 < Int.sign z ↔ 0 < z := by
  rcases Int.lt_trichotomy z 0 with h | h | h
  · rw [Int.sign_eq_neg_one_of_neg h]; omega
  · rw [h, Int.sign_zero]
  · rw [Int.sign_eq_one_of_pos h]; omega
theorem sg_neg (z : Int) : Int.sign z < 0 ↔ z < 0 := by
  rcases Int.lt_trichotomy z 0 with h | h | h
  · rw [Int.sign_eq_neg_one_of_neg h]; omega
  · rw [h, Int.sign_zero]
  · rw [Int.sign_eq_one_of_pos h]; omega
theorem sg_0 (z : Int) : Int.sign z = 0 ↔ z = 0 := Int.sign_eq_zero_iff_zero
section
variable {n : Nat} {p : Int32} {X Y : Nat → Int} {k l q c : Nat → Int32} {post : Int32 → Prop}
theorem yb_isPoint {z : Int32} (h1 : (0 ≤ z.toInt ∧ z.toInt < 256) → post 1) (h0 : ¬ (0 ≤ z.toInt ∧ z.toInt < 256) → post 0) : wpY_isPoint post (sY n p X Y k l q c) z := by
  have e0 : (0 : Int32).toInt = 0 := by decide
  have e1 : (255 : Int32).toInt = 255 := by decide
  refine br_c (fun a => h0 ?_) (fun a => br_c (fun b => h0 ?_) (fun b => h1 ?_))
  · rw [Int32.lt_iff_toInt_lt, e0] at a; omega
  · rw [Int32.lt_iff_toInt_lt, e1] at b; omega
  · rw [Int32.lt_iff_toInt_lt, e0] at a; rw [Int32.lt_iff_toInt_lt, e1] at b; omega
theorem yb_isCorner {z : Int32} (hn : n ≤ 10) (h1 : ∀ a, a < n → z = nI a → post 1) (h0 : (∀ a, a < n → z ≠ nI a) → post 0) : wpY_isCorner post (sY n p X Y k l q c) z := by
  show (z < 0 → post 0) ∧ (¬ z < 0 → (nI n ≤ z → post 0) ∧ (¬ nI n ≤ z → post 1))
  rcases pk_ix z (n := n) (by omega) with h | h | ⟨j, hj, rfl⟩
  · exact br_t h (h0 fun a ha e => by subst e; exact nI_pos (by omega) h)
  · refine br_c (fun _ => ?_) (fun _ => br_t h ?_) <;> exact h0 fun a ha e => by subst e; exact nI_ge ha (by omega) h
  · exact br_f (nI_pos (by omega)) (br_f (nI_ge hj (by omega)) (h1 j hj rfl))
theorem yb_turn {x0 y0 x1 y1 x y : Int} (r1 : -30 ≤ x1 - x0 ∧ x1 - x0 ≤ 30) (r2 : -30 ≤ y - y0 ∧ y - y0 ≤ 30) (r3 : -30 ≤ x - x0 ∧ x - x0 ≤ 30) (r4 : -30 ≤ y1 - y0 ∧ y1 - y0 ≤ 30)
    (h : post (iN (Int.sign ((x1 - x0) * (y - y0) - (x - x0) * (y1 - y0))))) : wpY_turn post (sY n p X Y k l q c) (iN x0) (iN y0) (iN x1) (iN y1) (iN x) (iN y) := by
  have hs := sm_d r1 r2 r3 r4
  refine nm_r (e' := iN ((x1 - x0) * (y - y0) - (x - x0) * (y1 - y0))) (by simp only [ie_sub, ie_mul]) ?_
  refine ib_le _ 0 rfl ie_0 hs (sm_k 0) (fun a => ib_le 0 _ ie_0 rfl (sm_k 0) hs (fun b => ?_) (fun b => ?_)) (fun a => ?_)
  · rw [show (x1 - x0) * (y - y0) - (x - x0) * (y1 - y0) = 0 by omega] at h; exact h
  · rw [Int.sign_eq_neg_one_of_neg b] at h; exact h
  · rw [Int.sign_eq_one_of_pos a] at h; exact h
theorem yb_turnOf {a b d : Nat} (g : gr X Y) (ha : a < 10) (hb : b < 10) (hd : d < 10) (h : post (iN (Int.sign (tn X Y a b d)))) : wpY_turnOf post (sY n p X Y k l q c) (nI a) (nI b) (nI d) := by
  have ia := vp_in_nI ha (by decide : 10 < 2 ^ 31)
  have ib := vp_in_nI hb (by decide : 10 < 2 ^ 31)
  have id := vp_in_nI hd (by decide : 10 < 2 ^ 31)
  simp only [wpY_turnOf, nI_clamp (n := a) (by omega), nI_clamp (n := b) (by omega), nI_clamp (n := d) (by omega)]
  refine ⟨ia, ia, ib, ib, id, id, yb_turn (gr_x g _ _) (gr_y g _ _) (gr_x g _ _) (gr_y g _ _) ?_⟩
  rw [show (X b - X a) * (Y d - Y a) - (X d - X a) * (Y b - Y a) = tn X Y a b d by unfold tn; rw [Int.mul_comm (X d - X a)]]
  exact h
theorem yb_isBetween {a b d : Nat} (g : gr X Y) (ha : a < 10) (hb : b < 10) (hd : d < 10) (h1 : BT X Y a b d → post 1) (h0 : ¬ BT X Y a b d → post 0) : wpY_isBetween post (sY n p X Y k l q c) (nI a) (nI b) (nI d) := by
  have ia := vp_in_nI ha (by decide : 10 < 2 ^ 31)
  have ib := vp_in_nI hb (by decide : 10 < 2 ^ 31)
  have id := vp_in_nI hd (by decide : 10 < 2 ^ 31)
  rw [bt_y] at h1 h0
  simp only [wpY_isBetween, wY_isBetween_35, nI_clamp (n := a) (by omega), nI_clamp (n := b) (by omega), nI_clamp (n := d) (by omega), ie_sub, ie_mul]
  refine ⟨id, ia, id, ib, ib_lt 0 _ ie_0 rfl (sm_k 0) (sm_m (gr_x g _ _) (gr_x g _ _)) (fun e1 => ?_) (fun e1 => ?_)⟩
  · refine ⟨id, ia, id, ib, br_c (fun _ => ?_) (fun _ => ?_)⟩ <;> exact bo_0 (h0 fun z => by have := z.1; omega)
  · refine ⟨id, ia, id, ib, ib_lt 0 _ ie_0 rfl (sm_k 0) (sm_m (gr_y g _ _) (gr_y g _ _)) (fun e2 => ?_) (fun e2 => ?_)⟩
    · exact bo_1 (bo_0 (h0 fun z => by have := z.2.1; omega))
    · refine bo_1 (bo_1 (yb_turnOf g ha hb hd ?_))
      exact ib_eq _ 0 rfl ie_0 (sg_sm _) (sm_k 0) (fun e3 => h1 ⟨e1, e2, (sg_0 _).mp e3⟩) (fun e3 => h0 fun z => e3 ((sg_0 _).mpr z.2.2))
theorem yb_meet {a b d e : Nat} (g : gr X Y) (ha : a < 10) (hb : b < 10) (hd : d < 10) (he : e < 10) (h1 : LM X Y a b d e → post 1) (h0 : ¬ LM X Y a b d e → post 0) : wpY_meet post (sY n p X Y k l q c) (nI a) (nI b) (nI d) (nI e) := by
  rw [lm_y] at h1 h0
  unfold wpY_meet
  refine yb_isBetween g ha hb hd (fun z => bo_1 (h1 (Or.inl z))) (fun z1 => bo_0 ?_)
  refine yb_isBetween g ha hb he (fun z => bo_1 (h1 (Or.inr (Or.inl z)))) (fun z2 => bo_0 ?_)
  refine yb_isBetween g hd he ha (fun z => bo_1 (h1 (Or.inr (Or.inr (Or.inl z))))) (fun z3 => bo_0 ?_)
  refine yb_isBetween g hd he hb (fun z => bo_1 (h1 (Or.inr (Or.inr (Or.inr (Or.inl z)))))) (fun z4 => bo_0 ?_)
  have h0' : ¬ (tn X Y a b d * tn X Y a b e < 0 ∧ tn X Y d e a * tn X Y d e b < 0) → post 0 := fun z => h0 fun y => by
    rcases y with y | y | y | y | y
    · exact z1 y
    · exact z2 y
    · exact z3 y
    · exact z4 y
    · exact z y
  have h1' := fun z => h1 (Or.inr (Or.inr (Or.inr (Or.inr z))))
  refine yb_turnOf g ha hb hd (yb_turnOf g ha hb he ?_)
  refine ib_le 0 (Int.sign (tn X Y a b d * tn X Y a b e)) ie_0 (by rw [ie_mul, Int.sign_mul]) (sm_k 0) (sg_sm _) (fun e1 => h0' fun z => ?_) (fun e1 => ?_)
  · have := (sg_neg _).mpr z.1; omega
  · refine yb_turnOf g hd he ha (yb_turnOf g hd he hb ?_)
    refine ib_le 0 (Int.sign (tn X Y d e a * tn X Y d e b)) ie_0 (by rw [ie_mul, Int.sign_mul]) (sm_k 0) (sg_sm _) (fun e2 => h0' fun z => ?_) (fun e2 => h1' ⟨(sg_neg _).mp e1, (sg_neg _).mp e2⟩)
    have := (sg_neg _).mpr z.2; omega
theorem yb_os112 {x y x0 y0 x1 y1 : Int} {x9 z0 : Int32} (r1 : -30 ≤ x1 - x0 ∧ x1 - x0 ≤ 30) (r2 : -30 ≤ y - y0 ∧ y - y0 ≤ 30) (r3 : -30 ≤ x - x0 ∧ x - x0 ≤ 30) (r4 : -30 ≤ y1 - y0 ∧ y1 - y0 ≤ 30)
    (h1 : ¬ x9 = 0 → ¬ z0 = 0 → (x1 - x0) * (y - y0) - (x - x0) * (y1 - y0) = 0 → post 1) (h0 : (x9 = 0 ∨ z0 = 0 ∨ ¬ (x1 - x0) * (y - y0) - (x - x0) * (y1 - y0) = 0) → post 0) :
    wY_isOnSide_112 post (iN x) (iN y) (iN x0) (iN y0) (iN x1) (iN y1) x9 z0 (nI n) p (fun i => iN (X i)) (fun i => iN (Y i)) k l q c := by
  refine br_c (fun a => h0 (Or.inl a)) (fun a => br_c (fun b => h0 (Or.inr (Or.inl b))) (fun b => yb_turn r1 r2 r3 r4 ?_))
  exact ib_eq _ 0 rfl ie_0 (sg_sm _) (sm_k 0) (fun e3 => h1 a b ((sg_0 _).mp e3)) (fun e3 => h0 (Or.inr (Or.inr fun z => e3 ((sg_0 _).mpr z))))
theorem yb_os81 {x y x0 y0 x1 y1 : Int} {z0 : Int32} (m1 : sm y) (m2 : sm y0) (m3 : sm y1) (r1 : -30 ≤ x1 - x0 ∧ x1 - x0 ≤ 30) (r2 : -30 ≤ y - y0 ∧ y - y0 ≤ 30) (r3 : -30 ≤ x - x0 ∧ x - x0 ≤ 30) (r4 : -30 ≤ y1 - y0 ∧ y1 - y0 ≤ 30)
    (h1 : ¬ z0 = 0 → ((y0 ≤ y ∧ y ≤ y1) ∨ (y1 ≤ y ∧ y ≤ y0)) → (x1 - x0) * (y - y0) - (x - x0) * (y1 - y0) = 0 → post 1) (h0 : (z0 = 0 ∨ ¬ ((y0 ≤ y ∧ y ≤ y1) ∨ (y1 ≤ y ∧ y ≤ y0)) ∨ ¬ (x1 - x0) * (y - y0) - (x - x0) * (y1 - y0) = 0) → post 0) :
    wY_isOnSide_81 post (iN x) (iN y) (iN x0) (iN y0) (iN x1) (iN y1) z0 (nI n) p (fun i => iN (X i)) (fun i => iN (Y i)) k l q c := by
  have a1 : ((y0 ≤ y ∧ y ≤ y1) ∨ (y1 ≤ y ∧ y ≤ y0)) → wY_isOnSide_107 post (iN x) (iN y) (iN x0) (iN y0) (iN x1) (iN y1) z0 (nI n) p (fun i => iN (X i)) (fun i => iN (Y i)) k l q c := fun u =>
    yb_os112 r1 r2 r3 r4 (fun a _ d => h1 a u d) (fun z => h0 (by
      rcases z with z | z | z
      · exact Or.inl z
      · exact absurd z (by decide)
      · exact Or.inr (Or.inr z)))
  have a0 : ¬ ((y0 ≤ y ∧ y ≤ y1) ∨ (y1 ≤ y ∧ y ≤ y0)) → wY_isOnSide_111 post (iN x) (iN y) (iN x0) (iN y0) (iN x1) (iN y1) z0 (nI n) p (fun i => iN (X i)) (fun i => iN (Y i)) k l q c := fun u =>
    yb_os112 r1 r2 r3 r4 (fun _ b _ => absurd rfl b) (fun z => h0 (Or.inr (Or.inl u)))
  have a95 : ¬ (y0 ≤ y ∧ y ≤ y1) → wY_isOnSide_95 post (iN x) (iN y) (iN x0) (iN y0) (iN x1) (iN y1) z0 (nI n) p (fun i => iN (X i)) (fun i => iN (Y i)) k l q c := fun u =>
    ib_lt _ _ rfl rfl m1 m3 (fun e => a0 (by omega)) (fun e => ib_lt _ _ rfl rfl m2 m1 (fun e => a0 (by omega)) (fun e => a1 (by omega)))
  exact ib_lt _ _ rfl rfl m1 m2 (fun e => a95 (by omega)) (fun e => ib_le _ _ rfl rfl m1 m3 (fun e => a1 (by omega)) (fun e => a95 (by omega)))
theorem yb_isOnSide {x y : Int} {i : Nat} (g : gr X Y) (hn : n ≤ 10) (hi : i < n) (hx : 0 ≤ x ∧ x ≤ 30) (hy : 0 ≤ y ∧ y ≤ 30) (h1 : oE X Y x y i (nx n i) → post 1) (h0 : ¬ oE X Y x y i (nx n i) → post 0) : wpY_isOnSide post (sY n p X Y k l q c) (iN x) (iN y) (nI i) := by
  rw [oe_y] at h1 h0
  have li := nx_lt hi
  have ci : (nI i).toNatClampNeg = i := nI_clamp (by omega)
  have cj : (nI (nx n i)).toNatClampNeg = nx n i := nI_clamp (by omega)
  have g1 := g i
  have g2 := g (nx n i)
  have e1 : 2 * (fun i => iN (X i)) (nI i).toNatClampNeg = iN (2 * X i) := by
    show 2 * iN (X _) = _
    rw [ci, ie_2, ie_mul]
  have e2 : 2 * (fun i => iN (Y i)) (nI i).toNatClampNeg = iN (2 * Y i) := by
    show 2 * iN (Y _) = _
    rw [ci, ie_2, ie_mul]
  have e3 : 2 * (fun i => iN (X i)) (nI (nx n i)).toNatClampNeg = iN (2 * X (nx n i)) := by
    show 2 * iN (X _) = _
    rw [cj, ie_2, ie_mul]
  have e4 : 2 * (fun i => iN (Y i)) (nI (nx n i)).toNatClampNeg = iN (2 * Y (nx n i)) := by
    show 2 * iN (Y _) = _
    rw [cj, ie_2, ie_mul]
  have ii := vp_in_nI (n := i) (N := 10) (by omega) (by decide)
  have ij := vp_in_nI (n := nx n i) (N := 10) (by omega) (by decide)
  have m1 : sm x := ⟨by omega, by omega⟩
  have m2 : sm y := ⟨by omega, by omega⟩
  have m3 : sm (2 * X i) := ⟨by omega, by omega⟩
  have m4 : sm (2 * Y i) := ⟨by omega, by omega⟩
  have m5 : sm (2 * X (nx n i)) := ⟨by omega, by omega⟩
  have m6 : sm (2 * Y (nx n i)) := ⟨by omega, by omega⟩
  refine ⟨nI_ne0 (by omega) (by omega), nm_r (yr_1 hn hi) ⟨ii, nm_r e1 ⟨ii, nm_r e2 ⟨ij, nm_r e3 ⟨ij, nm_r e4 ?_⟩⟩⟩⟩⟩
  have b1 : ((2 * X i ≤ x ∧ x ≤ 2 * X (nx n i)) ∨ (2 * X (nx n i) ≤ x ∧ x ≤ 2 * X i)) → wY_isOnSide_76 post (iN x) (iN y) (iN (2 * X i)) (iN (2 * Y i)) (iN (2 * X (nx n i))) (iN (2 * Y (nx n i))) (nI n) p (fun i => iN (X i)) (fun i => iN (Y i)) k l q c := fun u =>
    yb_os81 m2 m4 m6 (by omega) (by omega) (by omega) (by omega) (fun _ a b => h1 ⟨u, a, b⟩) (fun z => h0 (by
      rintro ⟨z1, z2, z3⟩
      rcases z with z | z | z
      · exact absurd z (by decide)
      · exact z z2
      · exact z z3))
  have b0 : ¬ ((2 * X i ≤ x ∧ x ≤ 2 * X (nx n i)) ∨ (2 * X (nx n i) ≤ x ∧ x ≤ 2 * X i)) → wY_isOnSide_80 post (iN x) (iN y) (iN (2 * X i)) (iN (2 * Y i)) (iN (2 * X (nx n i))) (iN (2 * Y (nx n i))) (nI n) p (fun i => iN (X i)) (fun i => iN (Y i)) k l q c := fun u =>
    yb_os81 m2 m4 m6 (by omega) (by omega) (by omega) (by omega) (fun a _ _ => absurd rfl a) (fun z => h0 fun z => u z.1)
  have b64 : ¬ (2 * X i ≤ x ∧ x ≤ 2 * X (nx n i)) → wY_isOnSide_64 post (iN x) (iN y) (iN (2 * X i)) (iN (2 * Y i)) (iN (2 * X (nx n i))) (iN (2 * Y (nx n i))) (nI n) p (fun i => iN (X i)) (fun i => iN (Y i)) k l q c := fun u =>
    ib_lt _ _ rfl rfl m1 m5 (fun e => b0 (by omega)) (fun e => ib_lt _ _ rfl rfl m3 m1 (fun e => b0 (by omega)) (fun e => b1 (by omega)))
  exact ib_lt _ _ rfl rfl m1 m3 (fun e => b64 (by omega)) (fun e => ib_le _ _ rfl rfl m1 m5 (fun e => b1 (by omega)) (fun e => b64 (by omega)))
theorem yb_isFolded {i : Nat} (g : gr X Y) (hn : n ≤ 10) (hi : i < n) (h1 : FO n X Y i → post 1) (h0 : ¬ FO n X Y i → post 0) : wpY_isFolded post (sY n p X Y k l q c) (nI i) := by
  have li := nx_lt hi
  have lh := pv_lt hi
  have ci : (nI i).toNatClampNeg = i := nI_clamp (by omega)
  have cj : (nI (nx n i)).toNatClampNeg = nx n i := nI_clamp (by omega)
  have ch : (nI (pv n i)).toNatClampNeg = pv n i := nI_clamp (by omega)
  have ii := vp_in_nI (n := i) (N := 10) (by omega) (by decide)
  have ij := vp_in_nI (n := nx n i) (N := 10) (by omega) (by decide)
  have ih := vp_in_nI (n := pv n i) (N := 10) (by omega) (by decide)
  have z0 : ¬ nI n = 0 := nI_ne0 (by omega) (by omega)
  refine ⟨z0, nm_r (yr_1 hn hi) ⟨z0, nm_r (yr_m hn hi) ⟨ij, ii, ih, ii, ij, ii, ih, ii, ?_⟩⟩⟩
  refine nm_r (e' := iN ((X (nx n i) - X i) * (X (pv n i) - X i) + (Y (nx n i) - Y i) * (Y (pv n i) - Y i))) ?_ (yb_turnOf g (by omega) (by omega) (by omega) ?_)
  · rw [ci, cj, ch]
    simp only [ie_sub, ie_mul, ie_add]
  · refine ib_eq _ 0 rfl ie_0 (sg_sm _) (sm_k 0) (fun e1 => ?_) (fun e1 => h0 fun z => e1 ((sg_0 _).mpr z.1))
    refine ib_le _ 0 rfl ie_0 (sm_s (gr_x g _ _) (gr_x g _ _) (gr_y g _ _) (gr_y g _ _)) (sm_k 0) (fun e2 => h0 fun z => ?_) (fun e2 => h1 ⟨(sg_0 _).mp e1, e2⟩)
    have := z.2
    omega
end
end
section
section
variable {n : Nat} {p : Int32} {X Y : Nat → Int} {k l q c : Nat → Int32} {post : Int32 → Prop}
def nxP (n i j : Nat) : Prop := j = i - 1 ∨ (j = 0 ∧ i = n - 1)
theorem yb_pr79 {J2 J12 : Int32 → Prop} {i j : Nat} {z0 : Int32} (g : gr X Y) (hn : n ≤ 10) (hi : i < n) (hj : j < i)
    (hm : z0 = 0 → LM X Y i (nx n i) j (j + 1) → post 0) (hJ : (¬ z0 = 0 ∨ ¬ LM X Y i (nx n i) j (j + 1)) → J12 (nI (j + 1))) :
    wY_isProper_79 post J2 J12 (nI i) (nI j) z0 0 (nI n) p (fun i => iN (X i)) (fun i => iN (Y i)) k l q c := by
  have li := nx_lt hi
  refine br_t rfl (br_c (fun e => ⟨nI_ne0 (by omega) (by omega), ?_⟩) (fun e => nm_r (nI_1 j) (hJ (Or.inl e))))
  rw [yr_1 hn hi, nI_1 j]
  exact yb_meet g (by omega) (by omega) (by omega) (by omega) (fun z => bo_1 (hm e z)) (fun z => bo_0 (nm_e (hJ (Or.inr z))))
theorem yb_pr43 {J2 J12 : Int32 → Prop} {i j : Nat} {z0 : Int32} (g : gr X Y) (hn : n ≤ 10) (hi : i < n) (hj : j < i)
    (hs : SP X Y i j → post 0) (hm : z0 = 0 → LM X Y i (nx n i) j (j + 1) → post 0) (hJ : ¬ SP X Y i j → (¬ z0 = 0 ∨ ¬ LM X Y i (nx n i) j (j + 1)) → J12 (nI (j + 1))) :
    wY_isProper_43 post J2 J12 (nI i) (nI j) z0 (nI n) p (fun i => iN (X i)) (fun i => iN (Y i)) k l q c := by
  have ii := vp_in_nI (n := i) (N := 10) (by omega) (by decide)
  have ij := vp_in_nI (n := j) (N := 10) (by omega) (by decide)
  have ci : (nI i).toNatClampNeg = i := nI_clamp (by omega)
  have cj : (nI j).toNatClampNeg = j := nI_clamp (by omega)
  have g1 := g i
  have g2 := g j
  refine ⟨ii, ij, ib_eq (X i) (X j) (by rw [ci]) (by rw [cj]) ⟨by omega, by omega⟩ ⟨by omega, by omega⟩ (fun e1 => ⟨ii, ij, ib_eq (Y i) (Y j) (by rw [ci]) (by rw [cj]) ⟨by omega, by omega⟩ ⟨by omega, by omega⟩ (fun e2 => ?_) (fun e2 => ?_)⟩) (fun e1 => ?_)⟩
  · exact br_f (by decide) (hs ⟨e1, e2⟩)
  · exact yb_pr79 g hn hi hj hm (hJ fun z => e2 z.2)
  · exact yb_pr79 g hn hi hj hm (hJ fun z => e1 z.1)
theorem yl_pr12 {J : Int32 → Prop} {i : Nat} (g : gr X Y) (hn : n ≤ 10) (hi : i < n)
    (hs : ∀ j, j < i → SP X Y i j → post 0) (hm : ∀ j, j < i → ¬ nxP n i j → LM X Y i (nx n i) j (j + 1) → post 0)
    (hJ : (∀ j, j < i → ¬ SP X Y i j ∧ (¬ nxP n i j → ¬ LM X Y i (nx n i) j (j + 1))) → J (nI (i + 1))) :
    ∀ d j, j + d = i → (∀ m, m < j → ¬ SP X Y i m ∧ (¬ nxP n i m → ¬ LM X Y i (nx n i) m (m + 1))) → wY_isProper_12 post J (nI i) (nI n) p (fun i => iN (X i)) (fun i => iN (Y i)) k l q c (d + 1) (nI j) := by
  intro d
  induction d with
  | zero => exact fun j e a => br_t (nI_le (by omega) (by omega)) (nm_r (nI_1 i) (hJ fun m hm => a m (by omega)))
  | succ d ih =>
    intro j e a
    have hj : j < i := by omega
    have e1 : nI i - 1 = nI (i - 1) := by rw [← nI_pred (i - 1)]; congr 1; congr 1; omega
    have e2 : nI n - 1 = nI (n - 1) := by rw [← nI_pred (n - 1)]; congr 1; congr 1; omega
    have s1 : nxP n i j → wY_isProper_38 post J (wY_isProper_12 post J (nI i) (nI n) p (fun i => iN (X i)) (fun i => iN (Y i)) k l q c (d + 1)) (nI i) (nI j) (nI n) p (fun i => iN (X i)) (fun i => iN (Y i)) k l q c := fun z =>
      yb_pr43 g hn hi hj (hs j hj) (fun y => absurd y (by decide)) (fun y1 _ => ih (j + 1) (by omega) fun m hm => by
        by_cases c : m = j
        · subst c; exact ⟨y1, fun y => absurd z y⟩
        · exact a m (by omega))
    have s0 : ¬ nxP n i j → wY_isProper_42 post J (wY_isProper_12 post J (nI i) (nI n) p (fun i => iN (X i)) (fun i => iN (Y i)) k l q c (d + 1)) (nI i) (nI j) (nI n) p (fun i => iN (X i)) (fun i => iN (Y i)) k l q c := fun z =>
      yb_pr43 g hn hi hj (hs j hj) (fun _ y => hm j hj z y) (fun y1 y2 => ih (j + 1) (by omega) fun m hm => by
        by_cases c : m = j
        · subst c; exact ⟨y1, fun _ => y2.resolve_left fun h => h rfl⟩
        · exact a m (by omega))
    refine br_f (nI_ge (by omega) (by omega)) (pk_eq j (i - 1) (fun z => s1 (Or.inl z)) (fun z => ?_) (hy := e1))
    refine pk_eq j 0 (fun z0 => pk_eq i (n - 1) (fun z1 => s1 (Or.inr ⟨z0, z1⟩)) (fun z1 => s0 ?_) (hy := e2)) (fun z0 => s0 ?_) (hb := by decide)
    · rintro (y | ⟨_, y⟩)
      · exact z y
      · exact z1 y
    · rintro (y | ⟨y, _⟩)
      · exact z y
      · exact z0 y
theorem yl_pr126 (g : gr X Y) (hn : n ≤ 10) (h0 : (∃ i, i < n ∧ 2 < n ∧ FO n X Y i) → post 0) (h0' : n ≤ 2 → post 0) (h1 : 2 < n → (∀ i, i < n → ¬ FO n X Y i) → post 1) :
    ∀ d i, i + d = n → (∀ m, m < i → ¬ FO n X Y m) → wY_isProper_126 post (nI n) p (fun i => iN (X i)) (fun i => iN (Y i)) k l q c (d + 1) (nI i) := by
  intro d
  induction d with
  | zero =>
    intro i e a
    refine br_t (nI_le (by omega) (by omega)) (pk_le n 2 (fun z => h0' z) (fun z => h1 z fun m hm => a m (by omega)) (hb := by decide))
  | succ d ih =>
    intro i e a
    refine br_f (nI_ge (by omega) (by omega)) (pk_le n 2 (fun z => pk_le n 2 (fun z => h0' z) (fun y => by omega) (hb := by decide)) (fun z => ?_) (hb := by decide))
    refine yb_isFolded g hn (by omega) (fun y => bo_1 (h0 ⟨i, by omega, z, y⟩)) (fun y => bo_0 (nm_r (nI_1 i) (ih (i + 1) (by omega) fun m hm => ?_)))
    by_cases c : m = i
    · exact c ▸ y
    · exact a m (by omega)
theorem yl_pr2 (g : gr X Y) (hn : n ≤ 10) (hs : ∀ i j, j < i → i < n → SP X Y i j → post 0) (hm : ∀ i j, j < i → i < n → ¬ nxP n i j → LM X Y i (nx n i) j (j + 1) → post 0)
    (hJ : (∀ i j, j < i → i < n → ¬ SP X Y i j ∧ (¬ nxP n i j → ¬ LM X Y i (nx n i) j (j + 1))) → ∃ m, wY_isProper_126 post (nI n) p (fun i => iN (X i)) (fun i => iN (Y i)) k l q c m 0) :
    ∀ d i, i + d = n → (∀ m j, m < i → j < m → ¬ SP X Y m j ∧ (¬ nxP n m j → ¬ LM X Y m (nx n m) j (j + 1))) → wY_isProper_2 post (nI n) p (fun i => iN (X i)) (fun i => iN (Y i)) k l q c (d + 1) (nI i) := by
  intro d
  induction d with
  | zero => exact fun i e a => br_t (nI_le (by omega) (by omega)) (hJ fun m j h1 h2 => a m j (by omega) h1)
  | succ d ih =>
    intro i e a
    refine br_f (nI_ge (by omega) (by omega)) ⟨i + 1, yl_pr12 g hn (by omega) (fun j h => hs i j h (by omega)) (fun j h => hm i j h (by omega)) (fun b => ih (i + 1) (by omega) fun m j h1 h2 => ?_) i 0 (by omega) (fun m h => absurd h (by omega))⟩
    by_cases c : m = i
    · subst c; exact b j h2
    · exact a m j (by omega) h2
theorem yb_isProper (g : gr X Y) (hn : n ≤ 10) (h1 : PR n X Y → post 1) (h0 : ¬ PR n X Y → post 0) : wpY_isProper post (sY n p X Y k l q c) := by
  rw [pr_eq] at h1 h0
  refine ⟨n + 1, yl_pr2 g hn (fun i j a b z => h0 fun y => y.2.1 i j a b z) (fun i j a b z1 z2 => h0 fun y => y.2.2.1 i j a b z1 z2) (fun a => ⟨n + 1, ?_⟩) n 0 (by omega) (fun m j h => absurd h (by omega))⟩
  refine yl_pr126 g hn (fun ⟨i, hi, _, z⟩ => h0 fun y => y.2.2.2 i hi z) (fun z => h0 fun y => by have := y.1; omega) (fun z1 z2 => h1 ⟨z1, fun i j x y => (a i j x y).1, fun i j x y => (a i j x y).2, z2⟩) n 0 (by omega) (fun m h => absurd h (by omega))
theorem yb_tog {J : Int32 → Int32 → Prop} {c i : Nat} (hJ : J (nI ((c + 1) % 2)) (nI (i + 1))) : (nI (c % 2) = 0 → (∀ x4, x4 = nI i + 1 → J 1 x4)) ∧ (¬ nI (c % 2) = 0 → (∀ x4, x4 = nI i + 1 → J 0 x4)) := xb_tog hJ
theorem yl_pl5 {x y : Int} (g : gr X Y) (hn : n ≤ 10) (hx : 0 ≤ x ∧ x ≤ 30) (hy : 0 ≤ y ∧ y ≤ 30)
    (h0 : (∃ i, i < n ∧ oE X Y x y i (nx n i)) → post 0) (h1 : (¬ ∃ i, i < n ∧ oE X Y x y i (nx n i)) → pc n X Y x y n % 2 = 1 → post 1) (h2 : (¬ ∃ i, i < n ∧ oE X Y x y i (nx n i)) → ¬ pc n X Y x y n % 2 = 1 → post (-1)) :
    ∀ d i, i + d = n → (∀ m, m < i → ¬ oE X Y x y m (nx n m)) → wY_place_5 post (iN x) (iN y) (nI n) p (fun i => iN (X i)) (fun i => iN (Y i)) k l q c (d + 1) (nI (pc n X Y x y i % 2)) (nI i) := by
  intro d
  induction d with
  | zero =>
    intro i e a
    have e' : i = n := by omega
    subst e'
    have no : ¬ ∃ m, m < i ∧ oE X Y x y m (nx i m) := fun ⟨m, hm, z⟩ => a m hm z
    refine br_t (nI_le (by omega) (by omega)) (pk_eq (pc i X Y x y i % 2) 0 (fun c => h2 no (by omega)) (fun c => h1 no (by omega)) (hb := by decide))
  | succ d ih =>
    intro i e a
    have hi : i < n := by omega
    have li := nx_lt hi
    have ci : (nI i).toNatClampNeg = i := nI_clamp (by omega)
    have cj : (nI (nx n i)).toNatClampNeg = nx n i := nI_clamp (by omega)
    have g1 := g i
    have g2 := g (nx n i)
    have e1 : 2 * (fun i => iN (X i)) (nI i).toNatClampNeg = iN (2 * X i) := by
      show 2 * iN (X _) = _
      rw [ci, ie_2, ie_mul]
    have e2 : 2 * (fun i => iN (Y i)) (nI i).toNatClampNeg = iN (2 * Y i) := by
      show 2 * iN (Y _) = _
      rw [ci, ie_2, ie_mul]
    have e3 : 2 * (fun i => iN (X i)) (nI (nx n i)).toNatClampNeg = iN (2 * X (nx n i)) := by
      show 2 * iN (X _) = _
      rw [cj, ie_2, ie_mul]
    have e4 : 2 * (fun i => iN (Y i)) (nI (nx n i)).toNatClampNeg = iN (2 * Y (nx n i)) := by
      show 2 * iN (Y _) = _
      rw [cj, ie_2, ie_mul]
    have ii := vp_in_nI (n := i) (N := 10) (by omega) (by decide)
    have ij := vp_in_nI (n := nx n i) (N := 10) (by omega) (by decide)
    have m2 : sm y := ⟨by omega, by omega⟩
    have m4 : sm (2 * Y i) := ⟨by omega, by omega⟩
    have m6 : sm (2 * Y (nx n i)) := ⟨by omega, by omega⟩
    refine br_f (nI_ge (by omega) (by omega)) (yb_isOnSide g hn hi hx hy (fun z => bo_1 (h0 ⟨i, hi, z⟩)) (fun z => bo_0 ⟨nI_ne0 (by omega) (by omega), nm_r (yr_1 hn hi) ⟨ii, ?_⟩⟩))
    have hJ : wY_place_5 post (iN x) (iN y) (nI n) p (fun i => iN (X i)) (fun i => iN (Y i)) k l q c (d + 1) (nI ((pc n X Y x y i + ind (cR X Y x y i (nx n i))) % 2)) (nI (i + 1)) := ih (i + 1) (by omega) fun m hm => by
      by_cases c : m = i
      · exact c ▸ z
      · exact a m (by omega)
    have hD : (2 * X (nx n i) - 2 * X i) * (y - 2 * Y i) - (x - 2 * X i) * (2 * Y (nx n i) - 2 * Y i) = (2 * X i - x) * (2 * Y (nx n i) - y) - (2 * Y i - y) * (2 * X (nx n i) - x) := by grind
    have tur : ∀ {P : Int32 → Prop}, (0 < (2 * X i - x) * (2 * Y (nx n i) - y) - (2 * Y i - y) * (2 * X (nx n i) - x) → P 1) → (¬ 0 < (2 * X i - x) * (2 * Y (nx n i) - y) - (2 * Y i - y) * (2 * X (nx n i) - x) → P 0) → wpY_turn (fun r_25 => (((r_25 ≤ 0 → P 0) ∧ (¬ r_25 ≤ 0 → P 1)))) (sY n p X Y k l q c) (2 * (fun i => iN (X i)) (nI i).toNatClampNeg) (2 * (fun i => iN (Y i)) (nI i).toNatClampNeg) (2 * (fun i => iN (X i)) (nI (nx n i)).toNatClampNeg) (2 * (fun i => iN (Y i)) (nI (nx n i)).toNatClampNeg) (iN x) (iN y) := by
      intro P f1 f0
      rw [e1, e2, e3, e4]
      refine yb_turn (by omega) (by omega) (by omega) (by omega) ?_
      rw [hD]
      refine ib_le _ 0 rfl ie_0 (sg_sm _) (sm_k 0) (fun z => f0 fun y => ?_) (fun z => f1 ((sg_pos _).mp z))
      have := (sg_pos _).mpr y
      omega
    have cc : cR X Y x y i (nx n i) ↔ ¬ (0 < 2 * Y i - y ↔ 0 < 2 * Y (nx n i) - y) ∧ (0 < (2 * X i - x) * (2 * Y (nx n i) - y) - (2 * Y i - y) * (2 * X (nx n i) - x) ↔ 0 < 2 * Y (nx n i) - y) := Iff.rfl
    refine ib_le (2 * Y i) y e2 rfl m4 m2 (fun p1 => ⟨ij, ib_le (2 * Y (nx n i)) y e4 rfl m6 m2 (fun p2 => ?_) (fun p2 => ?_)⟩) (fun p1 => ⟨ij, ib_le (2 * Y (nx n i)) y e4 rfl m6 m2 (fun p2 => ?_) (fun p2 => ?_)⟩)
    · rw [ind_f (by rw [cc]; omega)] at hJ
      exact br_t rfl (nm_r (nI_1 i) hJ)
    · refine br_f (by decide) ⟨ii, ii, ij, ij, tur (P := fun z => wY_place_135 post (wY_place_5 post (iN x) (iN y) (nI n) p (fun i => iN (X i)) (fun i => iN (Y i)) k l q c (d + 1)) (iN x) (iN y) (nI (pc n X Y x y i % 2)) (nI i) 0 z (nI n) p (fun i => iN (X i)) (fun i => iN (Y i)) k l q c) (fun p3 => ?_) (fun p3 => ?_)⟩
      · rw [ind_t (by rw [cc]; omega)] at hJ
        exact br_f (by decide) (xb_tog hJ)
      · rw [ind_f (by rw [cc]; omega)] at hJ
        exact br_t rfl (nm_r (nI_1 i) hJ)
    · refine br_f (by decide) ⟨ii, ii, ij, ij, tur (P := fun z => wY_place_135 post (wY_place_5 post (iN x) (iN y) (nI n) p (fun i => iN (X i)) (fun i => iN (Y i)) k l q c (d + 1)) (iN x) (iN y) (nI (pc n X Y x y i % 2)) (nI i) 1 z (nI n) p (fun i => iN (X i)) (fun i => iN (Y i)) k l q c) (fun p3 => ?_) (fun p3 => ?_)⟩
      · rw [ind_f (by rw [cc]; omega)] at hJ
        exact br_t rfl (nm_r (nI_1 i) hJ)
      · rw [ind_t (by rw [cc]; omega)] at hJ
        exact br_f (by decide) (xb_tog hJ)
    · rw [ind_f (by rw [cc]; omega)] at hJ
      exact br_t rfl (nm_r (nI_1 i) hJ)
theorem yb_place {x y : Int} (g : gr X Y) (hn : n ≤ 10) (hx : 0 ≤ x ∧ x ≤ 30) (hy : 0 ≤ y ∧ y ≤ 30) (h : post (iN (plv n X Y x y))) : wpY_place post (sY n p X Y k l q c) (iN x) (iN y) := by
  refine ⟨n + 1, yl_pl5 g hn hx hy (fun z => ?_) (fun z z2 => ?_) (fun z z2 => ?_) n 0 (by omega) (fun m hm => absurd hm (by omega))⟩
  · unfold plv at h; rw [sel_t z] at h; exact h
  · unfold plv at h; rw [sel_f z, sel_t z2] at h; exact h
  · unfold plv at h; rw [sel_f z, sel_f z2] at h; exact h
end
end
section
section
variable {n : Nat} {p : Int32} {X Y : Nat → Int} {k l q c : Nat → Int32} {s t w : Nat → Int32} {post : Int32 → Prop}
def BAD (n : Nat) (X Y : Nat → Int) (a b i : Nat) : Prop := (i ≠ a ∧ i ≠ b ∧ BT X Y a b i) ∨ (¬ (i = a ∨ i = b ∨ nx n i = a ∨ nx n i = b) ∧ LM X Y a b i (nx n i))
theorem yl_cut44 {a b : Nat} (g : gr X Y) (hn : n ≤ 10) (ha : a < n) (hb : b < n)
    (h0 : ∀ i, i < n → BAD n X Y a b i → post 0)
    (h1 : (∀ i, i < n → ¬ BAD n X Y a b i) → (plv n X Y (X a + X b) (Y a + Y b) = 1 → post 1) ∧ (¬ plv n X Y (X a + X b) (Y a + Y b) = 1 → post 0)) :
    ∀ d i, i + d = n → (∀ m, m < i → ¬ BAD n X Y a b m) → wY_isCut_44 post (nI a) (nI b) (nI n) p (fun i => iN (X i)) (fun i => iN (Y i)) k l q c (d + 1) (nI i) := by
  intro d
  induction d with
  | zero =>
    intro i e z
    have ia := vp_in_nI (n := a) (N := 10) (by omega) (by decide)
    have ib := vp_in_nI (n := b) (N := 10) (by omega) (by decide)
    have ca : (nI a).toNatClampNeg = a := nI_clamp (by omega)
    have cb : (nI b).toNatClampNeg = b := nI_clamp (by omega)
    refine br_t (nI_le (by omega) (by omega)) ⟨ia, ib, ia, ib, ?_⟩
    rw [ca, cb]
    show wpY_place _ _ (iN (X a) + iN (X b)) (iN (Y a) + iN (Y b))
    rw [ie_add, ie_add]
    have g1 := g a
    have g2 := g b
    have := h1 fun m hm => z m (by omega)
    refine yb_place g hn (by omega) (by omega) ?_
    refine ib_eq _ 1 rfl ie_1 ?_ (sm_k 1) this.1 this.2
    rcases plv_r (n := n) (X := X) (Y := Y) (x := X a + X b) (y := Y a + Y b) with h | h | h <;> rw [h] <;> exact sm_k _
  | succ d ih =>
    intro i e z
    have hi : i < n := by omega
    have li := nx_lt hi
    have hs : ¬ BAD n X Y a b i → ∀ x, x = nI i + 1 → wY_isCut_44 post (nI a) (nI b) (nI n) p (fun i => iN (X i)) (fun i => iN (Y i)) k l q c (d + 1) x := by
      intro y
      refine nm_r (nI_1 i) (ih (i + 1) (by omega) fun m hm => ?_)
      by_cases cc : m = i
      · subst cc; exact y
      · exact z m (by omega)
    have s118 : ∀ z0 : Int32, (z0 = 0 ↔ (i = a ∨ i = b ∨ nx n i = a ∨ nx n i = b)) → ¬ (i ≠ a ∧ i ≠ b ∧ BT X Y a b i) → wY_isCut_118 post (wY_isCut_44 post (nI a) (nI b) (nI n) p (fun i => iN (X i)) (fun i => iN (Y i)) k l q c (d + 1)) (nI a) (nI b) (nI i) (nI (nx n i)) z0 (nI n) p (fun i => iN (X i)) (fun i => iN (Y i)) k l q c := by
      intro z0 hz hb1
      refine br_c (fun y => hs ?_) (fun y => yb_meet g (by omega) (by omega) (by omega) (by omega) (fun y2 => bo_1 (h0 i hi (Or.inr ⟨fun y3 => y (hz.mpr y3), y2⟩))) (fun y2 => bo_0 (hs ?_)))
      · rintro (x | x)
        · exact hb1 x
        · exact x.1 (hz.mp y)
      · rintro (x | x)
        · exact hb1 x
        · exact y2 x.2
    have s93 : ∀ z0 : Int32, (z0 = 0 ↔ (i = a ∨ i = b ∨ nx n i = a ∨ nx n i = b)) → wY_isCut_93 post (wY_isCut_44 post (nI a) (nI b) (nI n) p (fun i => iN (X i)) (fun i => iN (Y i)) k l q c (d + 1)) (nI a) (nI b) (nI i) (nI (nx n i)) z0 (nI n) p (fun i => iN (X i)) (fun i => iN (Y i)) k l q c := by
      intro z0 hz
      refine pk_eq i a (fun y => s118 z0 hz fun x => x.1 y) (fun y1 => pk_eq i b (fun y => s118 z0 hz fun x => x.2.1 y) (fun y2 => ?_))
      exact yb_isBetween g (by omega) (by omega) (by omega) (fun y3 => bo_1 (h0 i hi (Or.inl ⟨y1, y2, y3⟩))) (fun y3 => bo_0 (s118 z0 hz fun x => y3 x.2.2))
    refine br_f (nI_ge (by omega) (by omega)) ⟨nI_ne0 (by omega) (by omega), nm_r (yr_1 hn hi) ?_⟩
    refine pk_eq i a (fun y => s93 0 ⟨fun _ => Or.inl y, fun _ => rfl⟩) (fun c1 => ?_)
    refine pk_eq i b (fun y => s93 0 ⟨fun _ => Or.inr (Or.inl y), fun _ => rfl⟩) (fun c2 => ?_)
    refine pk_eq (nx n i) a (fun y => s93 0 ⟨fun _ => Or.inr (Or.inr (Or.inl y)), fun _ => rfl⟩) (fun c3 => ?_)
    refine pk_eq (nx n i) b (fun y => s93 0 ⟨fun _ => Or.inr (Or.inr (Or.inr y)), fun _ => rfl⟩) (fun c4 => ?_)
    refine s93 1 ⟨fun y => absurd y (by decide), ?_⟩
    rintro (y | y | y | y)
    · exact absurd y c1
    · exact absurd y c2
    · exact absurd y c3
    · exact absurd y c4
theorem yb_isCut {a b : Nat} (g : gr X Y) (hn : n ≤ 10) (ha : a < n) (hb : b < n) (h1 : CUX n X Y a b → post 1) (h0 : ¬ CUX n X Y a b → post 0) : wpY_isCut post (sY n p X Y k l q c) (nI a) (nI b) := by
  rw [cu_eq ha hb] at h1 h0
  have la := nx_lt ha
  have lb := nx_lt hb
  have z : ¬ nI n = 0 := nI_ne0 (by omega) (by omega)
  have s24 : (nx n a = b ∨ nx n b = a) → wY_isCut_24 post (nI a) (nI b) (nI n) p (fun i => iN (X i)) (fun i => iN (Y i)) k l q c := fun y =>
    br_c (fun _ => h0 fun x => x.2.1 y) (fun _ => br_f (by decide) (h0 fun x => x.2.1 y))
  refine ⟨z, pk_eq (nx n a) b (fun y => s24 (Or.inl y)) (fun c1 => ⟨z, pk_eq (nx n b) a (fun y => s24 (Or.inr y)) (fun c2 => ?_) (hx := yr_1 hn hb)⟩) (hx := yr_1 hn ha)⟩
  refine pk_eq a b (fun y => h0 fun x => x.1 y) (fun y => br_t rfl ⟨n + 1, yl_cut44 g hn ha hb (fun i hi z => h0 fun x => x.2.2.1 i hi z) (fun z => ⟨fun z2 => h1 ⟨y, ?_, z, z2⟩, fun z2 => h0 fun x => z2 x.2.2.2⟩) n 0 (by omega) (fun m hm => absurd hm (by omega))⟩)
  rintro (x | x)
  · exact c1 x
  · exact c2 x
def CT (n : Nat) (X Y : Nat → Int) (z1 z2 : Int32) : Prop := PR n X Y ∧ ∃ a b, a < n ∧ b < n ∧ z1 = nI a ∧ z2 = nI b ∧ CUX n X Y a b
theorem ct_n {a b : Nat} (hn : n ≤ 10) (ha : a < n) (hb : b < n) (h : CT n X Y (nI a) (nI b)) : CUX n X Y a b := by
  obtain ⟨_, a', b', ha', hb', e1, e2, z⟩ := h
  rw [nI_eq (by omega) (by omega)] at e1 e2
  subst e1 e2
  exact z
theorem xb_cut {z1 z2 : Int32} (g : gr X Y) (hn : n ≤ 10) (h1 : CT n X Y z1 z2 → post 1) (h0 : ¬ CT n X Y z1 z2 → post 0) : wpX_cut post (sX n X Y s t w) z1 z2 := by
  unfold wpX_cut
  refine xb_proper g hn (fun y => bo_1 ?_) (fun y => bo_0 (h0 fun x => y x.1))
  refine xb_isCut g hn (fun a b ha hb e1 e2 z => bo_1 (h1 ⟨y, a, b, ha, hb, e1, e2, z⟩)) (fun z => bo_0 (h0 fun ⟨_, a, b, ha, hb, e1, e2, x⟩ => z a b ha hb e1 e2 x))
theorem yb_cut {z1 z2 : Int32} (g : gr X Y) (hn : n ≤ 10) (h1 : CT n X Y z1 z2 → post 1) (h0 : ¬ CT n X Y z1 z2 → post 0) : wpY_cut post (sY n p X Y k l q c) z1 z2 := by
  unfold wpY_cut
  refine yb_isCorner hn (fun a ha ea => bo_1 ?_) (fun z => bo_0 (h0 fun ⟨_, a, b, ha, hb, e1, e2, x⟩ => z a ha e1))
  refine yb_isCorner hn (fun b hb eb => bo_1 ?_) (fun z => bo_0 (h0 fun ⟨_, a, b, ha, hb, e1, e2, x⟩ => z b hb e2))
  subst ea eb
  refine yb_isProper g hn (fun y => bo_1 ?_) (fun y => bo_0 (h0 fun x => y x.1))
  exact yb_isCut g hn ha hb (fun z => bo_1 (h1 ⟨y, a, b, ha, hb, rfl, rfl, z⟩)) (fun z => bo_0 (h0 fun x => z (ct_n hn ha hb x)))
end
/-- how many below m -/
noncomputable def cn (f : Nat → Prop) : Nat → Nat
  | 0 => 0
  | m + 1 => cn f m + ind (f m)
theorem ind_le (p : Prop) : ind p ≤ 1 := by
  by_cases h : p
  · rw [ind_t h]; omega
  · rw [ind_f h]; omega
theorem cn_le (f : Nat → Prop) (m : Nat) : cn f m ≤ m := by
  induction m with
  | zero => exact Nat.le_refl 0
  | succ m ih =>
    have := ind_le (f m)
    show cn f m + ind (f m) ≤ m + 1
    omega
theorem cn_c {f f' : Nat → Prop} {m : Nat} (h : ∀ i, i < m → (f i ↔ f' i)) : cn f m = cn f' m := by
  induction m with
  | zero => rfl
  | succ m ih =>
    show cn f m + ind (f m) = cn f' m + ind (f' m)
    rw [ih fun i hi => h i (by omega), ind_c (h m (by omega))]
section
variable {n : Nat} {p : Int32} {X Y : Nat → Int} {k l q c : Nat → Int32} {s t w : Nat → Int32} {post : Int32 → Prop}
/-- the points of the grid with the place v -/
def PT (n : Nat) (X Y : Nat → Int) (v : Int) (i : Nat) : Prop := plv n X Y (2 * ((i % 16 : Nat) : Int)) (2 * ((i / 16 : Nat) : Int)) = v
theorem plv_sm {x y : Int} : sm (plv n X Y x y) := by
  rcases plv_r (n := n) (X := X) (Y := Y) (x := x) (y := y) with h | h | h <;> rw [h] <;> exact sm_k _
theorem xl_cp13 {J : Int32 → Int32 → Prop} {v : Int} {y : Nat} (g : gr X Y) (hn : n ≤ 10) (hv : sm v) (hy : y < 16) (hJ : J (nI (cn (PT n X Y v) (16 * (y + 1)))) (nI (y + 1))) :
    ∀ d x, x + d = 16 → wX_countPoints_13 post J (iN v) (nI y) (nI n) (fun i => iN (X i)) (fun i => iN (Y i)) s t w (d + 1) (nI (cn (PT n X Y v) (16 * y + x))) (nI x) := by
  intro d
  induction d with
  | zero =>
    intro x e
    have e' : x = 16 := by omega
    subst e'
    exact br_t (nI_le (a := 16) (b := 16) (by omega) (by omega)) (nm_r (nI_1 y) hJ)
  | succ d ih =>
    intro x e
    have e1 : 2 * nI x = iN (2 * (((16 * y + x) % 16 : Nat) : Int)) := by
      rw [show (16 * y + x) % 16 = x by omega, ie_nI, ie_2, ie_mul]
    have e2 : 2 * nI y = iN (2 * (((16 * y + x) / 16 : Nat) : Int)) := by
      rw [show (16 * y + x) / 16 = y by omega, ie_nI, ie_2, ie_mul]
    refine br_f (nI_ge (b := 16) (by omega) (by omega)) ?_
    rw [e1, e2]
    have hs := ih (x + 1) (by omega)
    rw [show 16 * y + (x + 1) = (16 * y + x) + 1 by omega] at hs
    refine xb_placeOf g hn (by omega) (by omega) (ib_eq _ v rfl rfl plv_sm hv (fun z => ?_) (fun z => ?_))
    · have hs' : wX_countPoints_13 post J (iN v) (nI y) (nI n) (fun i => iN (X i)) (fun i => iN (Y i)) s t w (d + 1) (nI (cn (PT n X Y v) (16 * y + x) + ind (PT n X Y v (16 * y + x)))) (nI (x + 1)) := hs
      rw [ind_t (p := PT n X Y v (16 * y + x)) z] at hs'
      exact nm_r (nI_1 _) (nm_r (nI_1 x) hs')
    · have hs' : wX_countPoints_13 post J (iN v) (nI y) (nI n) (fun i => iN (X i)) (fun i => iN (Y i)) s t w (d + 1) (nI (cn (PT n X Y v) (16 * y + x) + ind (PT n X Y v (16 * y + x)))) (nI (x + 1)) := hs
      rw [ind_f (p := PT n X Y v (16 * y + x)) z] at hs'
      exact nm_r (nI_1 x) hs'
theorem xl_cp4 {v : Int} (g : gr X Y) (hn : n ≤ 10) (hv : sm v) (h : post (nI (cn (PT n X Y v) 256))) :
    ∀ d y, y + d = 16 → wX_countPoints_4 post (iN v) (nI n) (fun i => iN (X i)) (fun i => iN (Y i)) s t w (d + 1) (nI (cn (PT n X Y v) (16 * y))) (nI y) := by
  intro d
  induction d with
  | zero =>
    intro y e
    have e' : y = 16 := by omega
    subst e'
    exact br_t (nI_le (a := 16) (b := 16) (by omega) (by omega)) h
  | succ d ih =>
    intro y e
    exact br_f (nI_ge (b := 16) (by omega) (by omega)) ⟨17, xl_cp13 g hn hv (by omega) (ih (y + 1) (by omega)) 16 0 (by omega)⟩
theorem xb_countPoints {v : Int} (g : gr X Y) (hn : n ≤ 10) (hv : sm v) (h : post (nI (cn (PT n X Y v) 256))) : wpX_countPoints post (sX n X Y s t w) (iN v) :=
  ⟨17, xl_cp4 g hn hv h 16 0 (by omega)⟩
theorem yl_cp4 {v : Int} (g : gr X Y) (hn : n ≤ 10) (hv : sm v) (h : post (nI (cn (PT n X Y v) 256))) :
    ∀ d i, i + d = 256 → wY_countPlaces_4 post (iN v) (nI n) p (fun i => iN (X i)) (fun i => iN (Y i)) k l q c (d + 1) (nI (cn (PT n X Y v) i)) (nI i) := by
  intro d
  induction d with
  | zero =>
    intro i e
    have e' : i = 256 := by omega
    subst e'
    exact br_t (nI_le (a := 256) (b := 256) (by omega) (by omega)) h
  | succ d ih =>
    intro i e
    have z16 : ¬ (16 : Int32) = 0 := by decide
    have e1 : 2 * (nI i - nI i / 16 * 16) = iN (2 * ((i % 16 : Nat) : Int)) := by
      rw [show nI i - nI i / 16 * 16 = nI (i % 16) from pk_rem (d := 16) (by omega) (by omega) (by omega), ie_nI, ie_2, ie_mul]
    have e2 : nI i / 16 * 2 = iN (2 * ((i / 16 : Nat) : Int)) := by
      rw [show nI i / 16 = nI (i / 16) from pk_div (d := 16) (by omega) (by omega) (by omega), ie_nI, ie_2, ie_mul, Int.mul_comm]
    refine br_f (nI_ge (b := 256) (by omega) (by omega)) ⟨z16, z16, ?_⟩
    rw [e1, e2]
    have hs : wY_countPlaces_4 post (iN v) (nI n) p (fun i => iN (X i)) (fun i => iN (Y i)) k l q c (d + 1) (nI (cn (PT n X Y v) i + ind (PT n X Y v i))) (nI (i + 1)) := ih (i + 1) (by omega)
    refine yb_place g hn (by omega) (by omega) (ib_eq _ v rfl rfl plv_sm hv (fun z => ?_) (fun z => ?_))
    · rw [ind_t (p := PT n X Y v i) z] at hs
      exact nm_r (nI_1 _) (nm_r (nI_1 i) hs)
    · rw [ind_f (p := PT n X Y v i) z] at hs
      exact nm_r (nI_1 i) hs
theorem yb_countPlaces {v : Int} (g : gr X Y) (hn : n ≤ 10) (hv : sm v) (h : post (nI (cn (PT n X Y v) 256))) : wpY_countPlaces post (sY n p X Y k l q c) (iN v) :=
  ⟨257, yl_cp4 g hn hv h 256 0 (by omega)⟩
end
end
section
noncomputable def fb (p : Prop) : Int32 := nI (ind p)
theorem fb_t {p : Prop} (h : p) : fb p = 1 := by unfold fb; rw [ind_t h]; rfl
theorem fb_f {p : Prop} (h : ¬ p) : fb p = 0 := by unfold fb; rw [ind_f h]; rfl
theorem fb_br {p A B : Prop} (f : p → B) (g : ¬ p → A) : (fb p = 0 → A) ∧ (¬ fb p = 0 → B) := by
  by_cases h : p
  · rw [fb_t h]; exact bo_1 (f h)
  · rw [fb_f h]; exact bo_0 (g h)
theorem fb_c {p q : Prop} (h : p ↔ q) : fb p = fb q := by rw [propext h]
section
variable {n : Nat} {p : Int32} {X Y : Nat → Int} {k l q c : Nat → Int32} {s t w : Nat → Int32} {post : Int32 → Prop}
/-- the shoelace sum over the sides before k -/
def sA (n : Nat) (X Y : Nat → Int) : Nat → Int
  | 0 => 0
  | k + 1 => sA n X Y k + (X k * Y (nx n k) - X (nx n k) * Y k)
theorem gr_X {X Y : Nat → Int} (g : gr X Y) (i : Nat) : -30 ≤ X i ∧ X i ≤ 30 := by have := g i; omega
theorem gr_Y {X Y : Nat → Int} (g : gr X Y) (i : Nat) : -30 ≤ Y i ∧ Y i ≤ 30 := by have := g i; omega
theorem sA_r (g : gr X Y) (k : Nat) : -(1800 * k) ≤ sA n X Y k ∧ sA n X Y k ≤ 1800 * k := by
  induction k with
  | zero => exact ⟨Int.le_refl _, Int.le_refl _⟩
  | succ k ih =>
    have h1 := ra_mul (gr_X g k) (gr_Y g (nx n k))
    have h2 := ra_mul (gr_X g (nx n k)) (gr_Y g k)
    show -(1800 * ((k + 1 : Nat) : Int)) ≤ sA n X Y k + (X k * Y (nx n k) - X (nx n k) * Y k) ∧ sA n X Y k + (X k * Y (nx n k) - X (nx n k) * Y k) ≤ 1800 * ((k + 1 : Nat) : Int)
    omega
theorem xl_sa4 (hn : n ≤ 10) (h : post (iN (sA n X Y n))) :
    ∀ d i, i + d = n → wX_signedArea_4 post (nI n) (fun i => iN (X i)) (fun i => iN (Y i)) s t w (d + 1) (iN (sA n X Y i)) (nI i) := by
  intro d
  induction d with
  | zero =>
    intro i e
    have e' : i = n := by omega
    subst e'
    exact br_t (nI_le (by omega) (by omega)) h
  | succ d ih =>
    intro i e
    have hi : i < n := by omega
    have li := nx_lt hi
    have ci : (nI i).toNatClampNeg = i := nI_clamp (by omega)
    have cj : (nI (nx n i)).toNatClampNeg = nx n i := nI_clamp (by omega)
    have ii := vp_in_nI (n := i) (N := 10) (by omega) (by decide)
    have ij := vp_in_nI (n := nx n i) (N := 10) (by omega) (by decide)
    refine br_f (nI_ge (by omega) (by omega)) (xb_next hn hi ⟨ii, ij, ij, ii, nm_r (e' := iN (sA n X Y (i + 1))) ?_ (nm_r (nI_1 i) (ih (i + 1) (by omega)))⟩)
    rw [ci, cj]
    simp only [ie_mul, ie_sub, ie_add]
    rfl
theorem xb_signedArea (hn : n ≤ 10) (h : post (iN (sA n X Y n))) : wpX_signedArea post (sX n X Y s t w) := ⟨n + 1, xl_sa4 hn h n 0 (by omega)⟩
/-- the turn at the corner behind i -/
def tu (n : Nat) (X Y : Nat → Int) (i : Nat) : Int := tn X Y i (nx n i) (nx n (nx n i))
theorem ex_s {i : Nat} {P : Nat → Prop} : (∃ m, m < i + 1 ∧ P m) ↔ ((∃ m, m < i ∧ P m) ∨ P i) := by
  constructor
  · rintro ⟨m, h1, h2⟩
    by_cases e : m = i
    · exact Or.inr (e ▸ h2)
    · exact Or.inl ⟨m, by omega, h2⟩
  · rintro (⟨m, h1, h2⟩ | h)
    · exact ⟨m, by omega, h2⟩
    · exact ⟨i, by omega, h⟩
theorem xb_cv63 {J : Int32 → Int32 → Int32 → Prop} {R : Prop} {z : Int} {i : Nat} {z0 : Int32} (hz : sm z) (hJ : J z0 (fb (R ∨ z < 0)) (nI (i + 1))) :
    wX_convex_63 post J (fb R) (nI i) (iN z) z0 (nI n) (fun i => iN (X i)) (fun i => iN (Y i)) s t w := by
  refine fb_br (fun r => nm_r (nI_1 i) ?_) (fun r => ib_le 0 z ie_0 rfl (sm_k 0) hz (fun y => nm_r (nI_1 i) ?_) (fun y => nm_r (nI_1 i) ?_))
  · rwa [fb_t (Or.inl r)] at hJ
  · rwa [fb_f (by rintro (x | x); exact r x; omega)] at hJ
  · rwa [fb_t (Or.inr y)] at hJ
theorem yb_cv51 {J : Int32 → Int32 → Int32 → Prop} {R : Prop} {z : Int} {i : Nat} {z0 : Int32} (hz : sm z) (hJ : J z0 (fb (R ∨ z < 0)) (nI (i + 1))) :
    wY_convex_51 post J (fb R) (nI i) (iN z) z0 (nI n) p (fun i => iN (X i)) (fun i => iN (Y i)) k l q c := by
  refine fb_br (fun r => nm_r (nI_1 i) ?_) (fun r => ib_le 0 z ie_0 rfl (sm_k 0) hz (fun y => nm_r (nI_1 i) ?_) (fun y => nm_r (nI_1 i) ?_))
  · rwa [fb_t (Or.inl r)] at hJ
  · rwa [fb_f (by rintro (x | x); exact r x; omega)] at hJ
  · rwa [fb_t (Or.inr y)] at hJ
def CV (n : Nat) (X Y : Nat → Int) : Prop := ¬ ((∃ m, m < n ∧ 0 < tu n X Y m) ∧ (∃ m, m < n ∧ tu n X Y m < 0))
theorem xl_cv15 (g : gr X Y) (hn : n ≤ 10) (h1 : CV n X Y → post 1) (h0 : ¬ CV n X Y → post 0) :
    ∀ d i, i + d = n → wX_convex_15 post (nI n) (fun i => iN (X i)) (fun i => iN (Y i)) s t w (d + 1) (fb (∃ m, m < i ∧ 0 < tu n X Y m)) (fb (∃ m, m < i ∧ tu n X Y m < 0)) (nI i) := by
  intro d
  induction d with
  | zero =>
    intro i e
    have e' : i = n := by omega
    subst e'
    exact br_t (nI_le (by omega) (by omega)) (fb_br (fun a => fb_br (fun b => h0 fun z => z ⟨a, b⟩) (fun b => h1 fun z => b z.2)) (fun a => h1 fun z => a z.1))
  | succ d ih =>
    intro i e
    have hi : i < n := by omega
    have li := nx_lt hi
    have lj := nx_lt li
    have hJ := ih (i + 1) (by omega)
    rw [fb_c (ex_s (P := fun m => 0 < tu n X Y m)), fb_c (ex_s (P := fun m => tu n X Y m < 0))] at hJ
    refine br_f (nI_ge (by omega) (by omega)) (xb_next hn hi (xb_next hn li (xb_turnOf (by omega) (by omega) (by omega) ?_)))
    have hz : sm (tn X Y i (nx n i) (nx n (nx n i))) := tn_sm g _ _ _
    refine fb_br (fun a => xb_cv63 hz ?_) (fun a => xb_pos hz (fun b => xb_cv63 hz ?_) (fun b => xb_cv63 hz ?_))
    · rw [fb_t (Or.inl a)] at hJ; exact hJ
    · rw [fb_t (p := (∃ m, m < i ∧ 0 < tu n X Y m) ∨ 0 < tu n X Y i) (Or.inr b)] at hJ; exact hJ
    · rw [fb_f (p := (∃ m, m < i ∧ 0 < tu n X Y m) ∨ 0 < tu n X Y i) (by rintro (x | x); exact a x; exact b x)] at hJ; exact hJ
theorem yl_cv6 (g : gr X Y) (hn : n ≤ 10) (h1 : PR n X Y → CV n X Y → post 1) (h0 : ¬ (PR n X Y ∧ CV n X Y) → post 0) :
    ∀ d i, i + d = n → wY_convex_6 post (nI n) p (fun i => iN (X i)) (fun i => iN (Y i)) k l q c (d + 1) (fb (∃ m, m < i ∧ 0 < tu n X Y m)) (fb (∃ m, m < i ∧ tu n X Y m < 0)) (nI i) := by
  intro d
  induction d with
  | zero =>
    intro i e
    have e' : i = n := by omega
    subst e'
    refine br_t (nI_le (by omega) (by omega)) (yb_isProper g hn (fun y => bo_1 ?_) (fun y => bo_0 (h0 fun x => y x.1)))
    exact (fb_br (fun a => fb_br (fun b => h0 fun z => z.2 ⟨a, b⟩) (fun b => h1 y fun z => b z.2)) (fun a => h1 y fun z => a z.1))
  | succ d ih =>
    intro i e
    have hi : i < n := by omega
    have li := nx_lt hi
    have lj := nx_lt li
    have z0 : ¬ nI n = 0 := nI_ne0 (by omega) (by omega)
    have hJ := ih (i + 1) (by omega)
    have f1 : (∃ m, m < i + 1 ∧ 0 < tu n X Y m) ↔ ((∃ m, m < i ∧ 0 < tu n X Y m) ∨ 0 < Int.sign (tu n X Y i)) := by rw [sg_pos, ex_s]
    have f2 : (∃ m, m < i + 1 ∧ tu n X Y m < 0) ↔ ((∃ m, m < i ∧ tu n X Y m < 0) ∨ Int.sign (tu n X Y i) < 0) := by rw [sg_neg, ex_s]
    rw [fb_c f1, fb_c f2] at hJ
    refine br_f (nI_ge (by omega) (by omega)) ⟨z0, z0, ?_⟩
    rw [yr_1 hn hi, yr_2 hn hi]
    refine yb_turnOf g (by omega) (by omega) (by omega) ?_
    have hz : sm (Int.sign (tn X Y i (nx n i) (nx n (nx n i)))) := sg_sm _
    refine fb_br (fun a => yb_cv51 hz ?_) (fun a => xb_pos hz (fun b => yb_cv51 hz ?_) (fun b => yb_cv51 hz ?_))
    · rw [fb_t (Or.inl a)] at hJ; exact hJ
    · rw [fb_t (p := (∃ m, m < i ∧ 0 < tu n X Y m) ∨ 0 < Int.sign (tu n X Y i)) (Or.inr b)] at hJ; exact hJ
    · rw [fb_f (p := (∃ m, m < i ∧ 0 < tu n X Y m) ∨ 0 < Int.sign (tu n X Y i)) (by rintro (x | x); exact a x; exact b x)] at hJ; exact hJ
def FI (X Y : Nat → Int) (i : Nat) : Prop := ∀ m, m < i → ¬ SP X Y m i
def HX (n : Nat) (X Y : Nat → Int) (a b : Nat) : Prop := ¬ SP X Y a b ∧ FI X Y a ∧ FI X Y b ∧ ∀ m, m < n → (0 < tn X Y a b m ∨ BT X Y a b m)
def HY (n : Nat) (X Y : Nat → Int) (a b : Nat) : Prop := a ≠ b ∧ FI X Y a ∧ FI X Y b ∧ (∀ m, m < n → (0 < tn X Y a b m ∨ BT X Y a b m)) ∧ ∃ m, m < n ∧ 0 < tn X Y a b m
theorem xl_rep {a : Nat} (g : gr X Y) (ha : a < 10) (h1 : ¬ FI X Y a → post 1) (h0 : FI X Y a → post 0) :
    ∀ d i, i + d = a → (∀ m, m < i → ¬ SP X Y m a) → wX_isRepeated_2 post (nI a) (nI n) (fun i => iN (X i)) (fun i => iN (Y i)) s t w (d + 1) (nI i) := by
  intro d
  induction d with
  | zero => exact fun i e z => br_t (nI_le (by omega) (by omega)) (h0 fun m hm => z m (by omega))
  | succ d ih =>
    intro i e z
    refine br_f (nI_ge (by omega) (by omega)) (xb_isSamePoint g (by omega) ha (fun y => bo_1 (h1 fun x => x i (by omega) y)) (fun y => bo_0 (nm_r (nI_1 i) (ih (i + 1) (by omega) fun m hm => ?_))))
    by_cases e : m = i
    · exact e ▸ y
    · exact z m (by omega)
theorem xb_isRepeated {a : Nat} (g : gr X Y) (ha : a < 10) (h1 : ¬ FI X Y a → post 1) (h0 : FI X Y a → post 0) : wpX_isRepeated post (sX n X Y s t w) (nI a) :=
  ⟨a + 1, xl_rep g ha h1 h0 a 0 (by omega) (fun m hm => absurd hm (by omega))⟩
theorem yl_fst {a : Nat} (g : gr X Y) (ha : a < 10) (h1 : ¬ FI X Y a → post 0) (h0 : FI X Y a → post 1) :
    ∀ d i, i + d = a → (∀ m, m < i → ¬ SP X Y m a) → wY_isFirst_2 post (nI a) (nI n) p (fun i => iN (X i)) (fun i => iN (Y i)) k l q c (d + 1) (nI i) := by
  intro d
  induction d with
  | zero => exact fun i e z => br_t (nI_le (by omega) (by omega)) (h0 fun m hm => z m (by omega))
  | succ d ih =>
    intro i e z
    have ii := vp_in_nI (n := i) (N := 10) (by omega) (by decide)
    have ia := vp_in_nI (n := a) (N := 10) (by omega) (by decide)
    have ci : (nI i).toNatClampNeg = i := nI_clamp (by omega)
    have ca : (nI a).toNatClampNeg = a := nI_clamp (by omega)
    have g1 := g i
    have g2 := g a
    have hs : ¬ SP X Y i a → ∀ x, x = nI i + 1 → wY_isFirst_2 post (nI a) (nI n) p (fun i => iN (X i)) (fun i => iN (Y i)) k l q c (d + 1) x := fun y => nm_r (nI_1 i) (ih (i + 1) (by omega) fun m hm => by
      by_cases e : m = i
      · exact e ▸ y
      · exact z m (by omega))
    refine br_f (nI_ge (by omega) (by omega)) ⟨ii, ia, ib_eq (X i) (X a) (by rw [ci]) (by rw [ca]) ⟨by omega, by omega⟩ ⟨by omega, by omega⟩ (fun e1 => ⟨ii, ia, ib_eq (Y i) (Y a) (by rw [ci]) (by rw [ca]) ⟨by omega, by omega⟩ ⟨by omega, by omega⟩ (fun e2 => h1 fun x => x i (by omega) ⟨e1, e2⟩) (fun e2 => hs fun x => e2 x.2)⟩) (fun e1 => hs fun x => e1 x.1)⟩
theorem yb_isFirst {a : Nat} (g : gr X Y) (ha : a < 10) (h1 : ¬ FI X Y a → post 0) (h0 : FI X Y a → post 1) : wpY_isFirst post (sY n p X Y k l q c) (nI a) :=
  ⟨a + 1, yl_fst g ha h1 h0 a 0 (by omega) (fun m hm => absurd hm (by omega))⟩
theorem xl_hs {a b : Nat} (g : gr X Y) (hn : n ≤ 10) (ha : a < n) (hb : b < n) (h1 : (∀ m, m < n → (0 < tn X Y a b m ∨ BT X Y a b m)) → post 1) (h0 : ¬ (∀ m, m < n → (0 < tn X Y a b m ∨ BT X Y a b m)) → post 0) :
    ∀ d i, i + d = n → (∀ m, m < i → (0 < tn X Y a b m ∨ BT X Y a b m)) → wX_isHullSide_29 post (nI a) (nI b) (nI n) (fun i => iN (X i)) (fun i => iN (Y i)) s t w (d + 1) (nI i) := by
  intro d
  induction d with
  | zero => exact fun i e z => br_t (nI_le (by omega) (by omega)) (h1 fun m hm => z m (by omega))
  | succ d ih =>
    intro i e z
    have hs : (0 < tn X Y a b i ∨ BT X Y a b i) → ∀ x, x = nI i + 1 → wX_isHullSide_29 post (nI a) (nI b) (nI n) (fun i => iN (X i)) (fun i => iN (Y i)) s t w (d + 1) x := fun y => nm_r (nI_1 i) (ih (i + 1) (by omega) fun m hm => by
      by_cases e : m = i
      · exact e ▸ y
      · exact z m (by omega))
    refine br_f (nI_ge (by omega) (by omega)) (xb_turnOf (by omega) (by omega) (by omega) (ib_lt 0 _ ie_0 rfl (sm_k 0) (tn_sm g _ _ _) (fun y => hs (Or.inl y)) (fun y => ?_)))
    refine xb_isBetween g (by omega) (by omega) (by omega) (fun y2 => bo_1 (hs (Or.inr y2))) (fun y2 => bo_0 (h0 fun x => ?_))
    rcases x i (by omega) with x | x
    · omega
    · exact y2 x
theorem xb_isHullSide {a b : Nat} (g : gr X Y) (hn : n ≤ 10) (ha : a < n) (hb : b < n) (h1 : HX n X Y a b → post 1) (h0 : ¬ HX n X Y a b → post 0) : wpX_isHullSide post (sX n X Y s t w) (nI a) (nI b) := by
  unfold wpX_isHullSide
  refine xb_isSamePoint g (by omega) (by omega) (fun y => bo_1 (h0 fun x => x.1 y)) (fun y1 => bo_0 ?_)
  refine xb_isRepeated g (by omega) (fun y => bo_1 (h0 fun x => y x.2.1)) (fun y2 => bo_0 ?_)
  refine xb_isRepeated g (by omega) (fun y => bo_1 (h0 fun x => y x.2.2.1)) (fun y3 => bo_0 ?_)
  exact ⟨n + 1, xl_hs g hn ha hb (fun y => h1 ⟨y1, y2, y3, y⟩) (fun y => h0 fun x => y x.2.2.2) n 0 (by omega) (fun m hm => absurd hm (by omega))⟩
theorem yl_hs {a b : Nat} (g : gr X Y) (hn : n ≤ 10) (ha : a < n) (hb : b < n) (h1 : (∀ m, m < n → (0 < tn X Y a b m ∨ BT X Y a b m)) → (∃ m, m < n ∧ 0 < tn X Y a b m) → post 1) (h0 : ¬ ((∀ m, m < n → (0 < tn X Y a b m ∨ BT X Y a b m)) ∧ (∃ m, m < n ∧ 0 < tn X Y a b m)) → post 0) :
    ∀ d i, i + d = n → (∀ m, m < i → (0 < tn X Y a b m ∨ BT X Y a b m)) → wY_isHullSide_28 post (nI a) (nI b) (nI n) p (fun i => iN (X i)) (fun i => iN (Y i)) k l q c (d + 1) (fb (∃ m, m < i ∧ 0 < tn X Y a b m)) (nI i) := by
  intro d
  induction d with
  | zero =>
    intro i e z
    have e' : i = n := by omega
    subst e'
    refine br_t (nI_le (by omega) (by omega)) ?_
    by_cases y : ∃ m, m < i ∧ 0 < tn X Y a b m
    · rw [fb_t y]; exact ⟨rfl, h1 z y⟩
    · rw [fb_f y]; exact ⟨rfl, h0 fun x => y x.2⟩
  | succ d ih =>
    intro i e z
    have f1 : (∃ m, m < i + 1 ∧ 0 < tn X Y a b m) ↔ ((∃ m, m < i ∧ 0 < tn X Y a b m) ∨ 0 < Int.sign (tn X Y a b i)) := by rw [sg_pos, ex_s]
    have hz : sm (Int.sign (tn X Y a b i)) := sg_sm _
    have hs : (0 < tn X Y a b i ∨ BT X Y a b i) → wY_isHullSide_70 post (wY_isHullSide_28 post (nI a) (nI b) (nI n) p (fun i => iN (X i)) (fun i => iN (Y i)) k l q c (d + 1)) (nI a) (nI b) (fb (∃ m, m < i ∧ 0 < tn X Y a b m)) (nI i) (iN (Int.sign (tn X Y a b i))) (nI n) p (fun i => iN (X i)) (fun i => iN (Y i)) k l q c := by
      intro y
      have hJ := ih (i + 1) (by omega) fun m hm => by
        by_cases e : m = i
        · exact e ▸ y
        · exact z m (by omega)
      rw [fb_c f1] at hJ
      refine fb_br (fun x => nm_r (nI_1 i) ?_) (fun x => xb_pos hz (fun b => nm_r (nI_1 i) ?_) (fun b => nm_r (nI_1 i) ?_))
      · rwa [fb_t (Or.inl x)] at hJ
      · rwa [fb_t (Or.inr b)] at hJ
      · rwa [fb_f (by rintro (u | u); exact x u; exact b u)] at hJ
    have no : ¬ 0 < tn X Y a b i → ¬ BT X Y a b i → post 0 := fun y1 y2 => h0 fun x => (x.1 i (by omega)).elim y1 y2
    refine br_f (nI_ge (by omega) (by omega)) (yb_turnOf g (by omega) (by omega) (by omega) (ib_lt _ 0 rfl ie_0 hz (sm_k 0) (fun y => ?_) (fun y => ib_eq _ 0 rfl ie_0 hz (sm_k 0) (fun y2 => ?_) (fun y2 => hs (Or.inl ?_)))))
    · have := (sg_neg _).mp y
      exact no (by omega) fun x => by have := ((bt_y _ _ _).mp x).2.2; omega
    · have := (sg_0 _).mp y2
      exact yb_isBetween g (by omega) (by omega) (by omega) (fun y3 => bo_1 (hs (Or.inr y3))) (fun y3 => bo_0 (no (by omega) y3))
    · exact (sg_pos _).mp (by omega)
theorem yb_isHullSide {a b : Nat} (g : gr X Y) (hn : n ≤ 10) (ha : a < n) (hb : b < n) (h1 : HY n X Y a b → post 1) (h0 : ¬ HY n X Y a b → post 0) : wpY_isHullSide post (sY n p X Y k l q c) (nI a) (nI b) := by
  refine pk_eq a b (fun y => h0 fun x => x.1 y) (fun y1 => ?_)
  refine yb_isFirst g (by omega) (fun y => bo_0 (h0 fun x => y x.2.1)) (fun y2 => bo_1 ?_)
  refine yb_isFirst g (by omega) (fun y => bo_0 (h0 fun x => y x.2.2.1)) (fun y3 => bo_1 ?_)
  refine ⟨n + 1, ?_⟩
  have := yl_hs (p := p) (k := k) (l := l) (q := q) (c := c) g hn ha hb (fun y z => h1 ⟨y1, y2, y3, y, z⟩) (fun y => h0 fun x => y x.2.2.2) n 0 (by omega) (fun m hm => absurd hm (by omega))
  rw [fb_f (by rintro ⟨m, hm, _⟩; omega)] at this
  exact this
end
end
section
def HF (n : Nat) (H : Nat → Nat → Prop) (i : Nat) : Prop := H (i / n) (i % n)
theorem hf_e {n a b : Nat} {H : Nat → Nat → Prop} (hb : b < n) : HF n H (n * a + b) ↔ H a b := by
  unfold HF
  rw [Nat.mul_add_div (by omega), Nat.mul_add_mod, Nat.div_eq_of_lt hb, Nat.mod_eq_of_lt hb, Nat.add_zero]
noncomputable def sF (f : Nat → Prop) (v : Nat → Int) : Nat → Int
  | 0 => 0
  | m + 1 => sF f v m + sel (f m) (v m) 0
def GA (n : Nat) (X Y : Nat → Int) (i : Nat) : Int := X (i / n) * Y (i % n) - X (i % n) * Y (i / n)
theorem ga_e {n a b : Nat} {X Y : Nat → Int} (hb : b < n) : GA n X Y (n * a + b) = X a * Y b - X b * Y a := by
  unfold GA
  rw [Nat.mul_add_div (by omega), Nat.mul_add_mod, Nat.div_eq_of_lt hb, Nat.mod_eq_of_lt hb, Nat.add_zero]
theorem sF_r {n : Nat} {X Y : Nat → Int} (g : gr X Y) (f : Nat → Prop) (m : Nat) : -(1800 * m) ≤ sF f (GA n X Y) m ∧ sF f (GA n X Y) m ≤ 1800 * m := by
  induction m with
  | zero => exact ⟨Int.le_refl _, Int.le_refl _⟩
  | succ m ih =>
    have h1 := ra_mul (gr_X g (m / n)) (gr_Y g (m % n))
    have h2 := ra_mul (gr_X g (m % n)) (gr_Y g (m / n))
    show -(1800 * ((m + 1 : Nat) : Int)) ≤ sF f (GA n X Y) m + sel (f m) (GA n X Y m) 0 ∧ sF f (GA n X Y) m + sel (f m) (GA n X Y m) 0 ≤ 1800 * ((m + 1 : Nat) : Int)
    by_cases h : f m
    · rw [sel_t h]; unfold GA; unfold GA at ih; omega
    · rw [sel_f h]; omega
section
variable {n : Nat} {p : Int32} {X Y : Nat → Int} {k l q c : Nat → Int32} {s t w : Nat → Int32} {post : Int32 → Prop}
theorem xl_hu14 {J : Int32 → Int32 → Prop} {a : Nat} (g : gr X Y) (hn : n ≤ 10) (ha : a < n) (hJ : J (nI (cn (HF n (HX n X Y)) (n * a + n))) (nI (a + 1))) :
    ∀ d b, b + d = n → wX_hull_14 post J (nI a) (nI n) (fun i => iN (X i)) (fun i => iN (Y i)) s t w (d + 1) (nI (cn (HF n (HX n X Y)) (n * a + b))) (nI b) := by
  intro d
  induction d with
  | zero =>
    intro b e
    have e' : b = n := by omega
    subst e'
    exact br_t (nI_le (by omega) (by omega)) (nm_r (nI_1 a) hJ)
  | succ d ih =>
    intro b e
    have hs : wX_hull_14 post J (nI a) (nI n) (fun i => iN (X i)) (fun i => iN (Y i)) s t w (d + 1) (nI (cn (HF n (HX n X Y)) (n * a + b) + ind (HF n (HX n X Y) (n * a + b)))) (nI (b + 1)) := ih (b + 1) (by omega)
    rw [ind_c (hf_e (by omega))] at hs
    refine br_f (nI_ge (by omega) (by omega)) (xb_isHullSide g hn ha (by omega) (fun z => bo_1 ?_) (fun z => bo_0 ?_))
    · rw [ind_t z] at hs; exact nm_r (nI_1 _) (nm_r (nI_1 b) hs)
    · rw [ind_f z] at hs; exact nm_r (nI_1 b) hs
theorem xl_hu4 (g : gr X Y) (hn : n ≤ 10) (h1 : 3 ≤ cn (HF n (HX n X Y)) (n * n) → post (nI (cn (HF n (HX n X Y)) (n * n)))) (h0 : cn (HF n (HX n X Y)) (n * n) < 3 → post (-1000)) :
    ∀ d a, a + d = n → wX_hull_4 post (nI n) (fun i => iN (X i)) (fun i => iN (Y i)) s t w (d + 1) (nI (cn (HF n (HX n X Y)) (n * a))) (nI a) := by
  intro d
  have hb := cn_le (HF n (HX n X Y)) (n * n)
  have hb2 := Nat.mul_le_mul hn hn
  induction d with
  | zero =>
    intro a e
    have e' : a = n := by omega
    subst e'
    exact br_t (nI_le (by omega) (by omega)) (pk_le 3 _ h1 h0)
  | succ d ih =>
    intro a e
    exact br_f (nI_ge (by omega) (by omega)) ⟨n + 1, xl_hu14 g hn (by omega) (by have := ih (a + 1) (by omega); rwa [Nat.mul_succ] at this) n 0 (by omega)⟩
theorem xb_hull (g : gr X Y) (hn : n ≤ 10) (h1 : 3 ≤ cn (HF n (HX n X Y)) (n * n) → post (nI (cn (HF n (HX n X Y)) (n * n)))) (h0 : cn (HF n (HX n X Y)) (n * n) < 3 → post (-1000)) : wpX_hull post (sX n X Y s t w) :=
  ⟨n + 1, xl_hu4 g hn h1 h0 n 0 (by omega)⟩
theorem yl_hu14 {J : Int32 → Int32 → Prop} {a : Nat} (g : gr X Y) (hn : n ≤ 10) (ha : a < n) (hJ : J (nI (cn (HF n (HY n X Y)) (n * a + n))) (nI (a + 1))) :
    ∀ d b, b + d = n → wY_hull_14 post J (nI a) (nI n) p (fun i => iN (X i)) (fun i => iN (Y i)) k l q c (d + 1) (nI (cn (HF n (HY n X Y)) (n * a + b))) (nI b) := by
  intro d
  induction d with
  | zero =>
    intro b e
    have e' : b = n := by omega
    subst e'
    exact br_t (nI_le (by omega) (by omega)) (nm_r (nI_1 a) hJ)
  | succ d ih =>
    intro b e
    have hs : wY_hull_14 post J (nI a) (nI n) p (fun i => iN (X i)) (fun i => iN (Y i)) k l q c (d + 1) (nI (cn (HF n (HY n X Y)) (n * a + b) + ind (HF n (HY n X Y) (n * a + b)))) (nI (b + 1)) := ih (b + 1) (by omega)
    rw [ind_c (hf_e (by omega))] at hs
    refine br_f (nI_ge (by omega) (by omega)) (yb_isHullSide g hn ha (by omega) (fun z => bo_1 ?_) (fun z => bo_0 ?_))
    · rw [ind_t z] at hs; exact nm_r (nI_1 _) (nm_r (nI_1 b) hs)
    · rw [ind_f z] at hs; exact nm_r (nI_1 b) hs
theorem yl_hu4 (g : gr X Y) (hn : n ≤ 10) (h1 : cn (HF n (HY n X Y)) (n * n) ≠ 0 → post (nI (cn (HF n (HY n X Y)) (n * n)))) (h0 : cn (HF n (HY n X Y)) (n * n) = 0 → post (-1000)) :
    ∀ d a, a + d = n → wY_hull_4 post (nI n) p (fun i => iN (X i)) (fun i => iN (Y i)) k l q c (d + 1) (nI (cn (HF n (HY n X Y)) (n * a))) (nI a) := by
  intro d
  have hb := cn_le (HF n (HY n X Y)) (n * n)
  have hb2 := Nat.mul_le_mul hn hn
  induction d with
  | zero =>
    intro a e
    have e' : a = n := by omega
    subst e'
    exact br_t (nI_le (by omega) (by omega)) (pk_eq _ 0 h0 h1 (hb := by decide))
  | succ d ih =>
    intro a e
    exact br_f (nI_ge (by omega) (by omega)) ⟨n + 1, yl_hu14 g hn (by omega) (by have := ih (a + 1) (by omega); rwa [Nat.mul_succ] at this) n 0 (by omega)⟩
theorem yb_hull (g : gr X Y) (hn : n ≤ 10) (h1 : cn (HF n (HY n X Y)) (n * n) ≠ 0 → post (nI (cn (HF n (HY n X Y)) (n * n)))) (h0 : cn (HF n (HY n X Y)) (n * n) = 0 → post (-1000)) : wpY_hull post (sY n p X Y k l q c) :=
  ⟨n + 1, yl_hu4 g hn h1 h0 n 0 (by omega)⟩
theorem xl_ha14 {J : Int32 → Int32 → Prop} {a : Nat} (g : gr X Y) (hn : n ≤ 10) (ha : a < n) (hJ : J (iN (sF (HF n (HX n X Y)) (GA n X Y) (n * a + n))) (nI (a + 1))) :
    ∀ d b, b + d = n → wX_hullArea_14 post J (nI a) (nI n) (fun i => iN (X i)) (fun i => iN (Y i)) s t w (d + 1) (iN (sF (HF n (HX n X Y)) (GA n X Y) (n * a + b))) (nI b) := by
  intro d
  induction d with
  | zero =>
    intro b e
    have e' : b = n := by omega
    subst e'
    exact br_t (nI_le (by omega) (by omega)) (nm_r (nI_1 a) hJ)
  | succ d ih =>
    intro b e
    have ia := vp_in_nI (n := a) (N := 10) (by omega) (by decide)
    have ib := vp_in_nI (n := b) (N := 10) (by omega) (by decide)
    have ca : (nI a).toNatClampNeg = a := nI_clamp (by omega)
    have cb : (nI b).toNatClampNeg = b := nI_clamp (by omega)
    have hs : wX_hullArea_14 post J (nI a) (nI n) (fun i => iN (X i)) (fun i => iN (Y i)) s t w (d + 1) (iN (sF (HF n (HX n X Y)) (GA n X Y) (n * a + b) + sel (HF n (HX n X Y) (n * a + b)) (GA n X Y (n * a + b)) 0)) (nI (b + 1)) := ih (b + 1) (by omega)
    rw [ga_e (by omega), show HF n (HX n X Y) (n * a + b) = HX n X Y a b from propext (hf_e (by omega))] at hs
    refine br_f (nI_ge (by omega) (by omega)) (xb_isHullSide g hn ha (by omega) (fun z => bo_1 ⟨ia, ib, ib, ia, ?_⟩) (fun z => bo_0 ?_))
    · rw [sel_t z] at hs
      refine nm_r ?_ (nm_r (nI_1 b) hs)
      rw [ca, cb]
      simp only [ie_mul, ie_sub, ie_add]
    · rw [sel_f z, Int.add_zero] at hs; exact nm_r (nI_1 b) hs
theorem xl_ha4 (g : gr X Y) (hn : n ≤ 10) (h1 : sF (HF n (HX n X Y)) (GA n X Y) (n * n) ≠ 0 → post (iN (sF (HF n (HX n X Y)) (GA n X Y) (n * n)))) (h0 : sF (HF n (HX n X Y)) (GA n X Y) (n * n) = 0 → post (-1000)) :
    ∀ d a, a + d = n → wX_hullArea_4 post (nI n) (fun i => iN (X i)) (fun i => iN (Y i)) s t w (d + 1) (iN (sF (HF n (HX n X Y)) (GA n X Y) (n * a))) (nI a) := by
  intro d
  have hb := sF_r (n := n) g (HF n (HX n X Y)) (n * n)
  have hb2 := Nat.mul_le_mul hn hn
  induction d with
  | zero =>
    intro a e
    have e' : a = n := by omega
    subst e'
    exact br_t (nI_le (by omega) (by omega)) (ib_eq _ 0 rfl ie_0 ⟨by omega, by omega⟩ (sm_k 0) h0 h1)
  | succ d ih =>
    intro a e
    exact br_f (nI_ge (by omega) (by omega)) ⟨n + 1, xl_ha14 g hn (by omega) (by have := ih (a + 1) (by omega); rwa [Nat.mul_succ] at this) n 0 (by omega)⟩
theorem xb_hullArea (g : gr X Y) (hn : n ≤ 10) (h1 : sF (HF n (HX n X Y)) (GA n X Y) (n * n) ≠ 0 → post (iN (sF (HF n (HX n X Y)) (GA n X Y) (n * n)))) (h0 : sF (HF n (HX n X Y)) (GA n X Y) (n * n) = 0 → post (-1000)) : wpX_hullArea post (sX n X Y s t w) :=
  ⟨n + 1, xl_ha4 g hn h1 h0 n 0 (by omega)⟩
theorem yl_ha14 {J : Int32 → Int32 → Prop} {a : Nat} (g : gr X Y) (hn : n ≤ 10) (ha : a < n) (hJ : J (iN (sF (HF n (HY n X Y)) (GA n X Y) (n * a + n))) (nI (a + 1))) :
    ∀ d b, b + d = n → wY_hullArea_14 post J (nI a) (nI n) p (fun i => iN (X i)) (fun i => iN (Y i)) k l q c (d + 1) (iN (sF (HF n (HY n X Y)) (GA n X Y) (n * a + b))) (nI b) := by
  intro d
  induction d with
  | zero =>
    intro b e
    have e' : b = n := by omega
    subst e'
    exact br_t (nI_le (by omega) (by omega)) (nm_r (nI_1 a) hJ)
  | succ d ih =>
    intro b e
    have ia := vp_in_nI (n := a) (N := 10) (by omega) (by decide)
    have ib := vp_in_nI (n := b) (N := 10) (by omega) (by decide)
    have ca : (nI a).toNatClampNeg = a := nI_clamp (by omega)
    have cb : (nI b).toNatClampNeg = b := nI_clamp (by omega)
    have hs : wY_hullArea_14 post J (nI a) (nI n) p (fun i => iN (X i)) (fun i => iN (Y i)) k l q c (d + 1) (iN (sF (HF n (HY n X Y)) (GA n X Y) (n * a + b) + sel (HF n (HY n X Y) (n * a + b)) (GA n X Y (n * a + b)) 0)) (nI (b + 1)) := ih (b + 1) (by omega)
    rw [ga_e (by omega), show HF n (HY n X Y) (n * a + b) = HY n X Y a b from propext (hf_e (by omega))] at hs
    refine br_f (nI_ge (by omega) (by omega)) (yb_isHullSide g hn ha (by omega) (fun z => bo_1 ⟨ia, ib, ib, ia, ?_⟩) (fun z => bo_0 ?_))
    · rw [sel_t z] at hs
      refine nm_r ?_ (nm_r (nI_1 b) hs)
      rw [ca, cb]
      simp only [ie_mul, ie_sub, ie_add]
      rw [Int.add_sub_assoc]
    · rw [sel_f z, Int.add_zero] at hs; exact nm_r (nI_1 b) hs
theorem yl_ha4 (g : gr X Y) (hn : n ≤ 10) (h1 : sF (HF n (HY n X Y)) (GA n X Y) (n * n) ≠ 0 → post (iN (sF (HF n (HY n X Y)) (GA n X Y) (n * n)))) (h0 : sF (HF n (HY n X Y)) (GA n X Y) (n * n) = 0 → post (-1000)) :
    ∀ d a, a + d = n → wY_hullArea_4 post (nI n) p (fun i => iN (X i)) (fun i => iN (Y i)) k l q c (d + 1) (iN (sF (HF n (HY n X Y)) (GA n X Y) (n * a))) (nI a) := by
  intro d
  have hb := sF_r (n := n) g (HF n (HY n X Y)) (n * n)
  have hb2 := Nat.mul_le_mul hn hn
  induction d with
  | zero =>
    intro a e
    have e' : a = n := by omega
    subst e'
    exact br_t (nI_le (by omega) (by omega)) (ib_eq _ 0 rfl ie_0 ⟨by omega, by omega⟩ (sm_k 0) h0 h1)
  | succ d ih =>
    intro a e
    exact br_f (nI_ge (by omega) (by omega)) ⟨n + 1, yl_ha14 g hn (by omega) (by have := ih (a + 1) (by omega); rwa [Nat.mul_succ] at this) n 0 (by omega)⟩
theorem yb_hullArea (g : gr X Y) (hn : n ≤ 10) (h1 : sF (HF n (HY n X Y)) (GA n X Y) (n * n) ≠ 0 → post (iN (sF (HF n (HY n X Y)) (GA n X Y) (n * n)))) (h0 : sF (HF n (HY n X Y)) (GA n X Y) (n * n) = 0 → post (-1000)) : wpY_hullArea post (sY n p X Y k l q c) :=
  ⟨n + 1, yl_ha4 g hn h1 h0 n 0 (by omega)⟩
/-- the squared distance -/
def dd (X Y : Nat → Int) (i j : Nat) : Int := (X i - X j) * (X i - X j) + (Y i - Y j) * (Y i - Y j)
theorem dd_sm (g : gr X Y) (i j : Nat) : sm (dd X Y i j) := sm_s (gr_x g _ _) (gr_x g _ _) (gr_y g _ _) (gr_y g _ _)
def WX (n : Nat) (X Y : Nat → Int) (i j : Nat) (r : Int) : Prop := (∀ i' j', i' < j' → j' < n → (i' < i ∨ (i' = i ∧ j' < j)) → dd X Y i' j' ≤ r) ∧ (r = 0 ∨ ∃ i' j', i' < j' ∧ j' < n ∧ r = dd X Y i' j')
theorem wx_sm (g : gr X Y) {i j : Nat} {r : Int} (h : WX n X Y i j r) : sm r := by
  rcases h.2 with h | ⟨i', j', _, _, h⟩
  · rw [h]; exact sm_k 0
  · rw [h]; exact dd_sm g _ _
theorem xl_wi28 {J : Int32 → Int32 → Prop} {i : Nat} (g : gr X Y) (hn : n ≤ 10) (hi : i < n) (hJ : ∀ r, WX n X Y i n r → J (iN r) (nI (i + 1))) :
    ∀ d j, i < j → j + d = n → ∀ r, WX n X Y i j r → wX_widest_28 post J (nI i) (nI n) (fun i => iN (X i)) (fun i => iN (Y i)) s t w (d + 1) (iN r) (nI j) := by
  intro d
  induction d with
  | zero =>
    intro j hj e r z
    have e' : j = n := by omega
    subst e'
    exact br_t (nI_le (by omega) (by omega)) (nm_r (nI_1 i) (hJ r z))
  | succ d ih =>
    intro j hj e r z
    have ii := vp_in_nI (n := i) (N := 10) (by omega) (by decide)
    have ij := vp_in_nI (n := j) (N := 10) (by omega) (by decide)
    have ci : (nI i).toNatClampNeg = i := nI_clamp (by omega)
    have cj : (nI j).toNatClampNeg = j := nI_clamp (by omega)
    refine br_f (nI_ge (by omega) (by omega)) ⟨ii, ij, nm_r (e' := iN (X i - X j)) (by rw [ci, cj]; exact ie_sub _ _) ⟨ii, ij, nm_r (e' := iN (Y i - Y j)) (by rw [ci, cj]; exact ie_sub _ _) (nm_r (e' := iN (dd X Y i j)) (by rw [ie_mul, ie_mul, ie_add]; rfl) ?_)⟩⟩
    refine ib_le _ _ rfl rfl (dd_sm g _ _) (wx_sm g z) (fun y => nm_r (nI_1 j) (ih (j + 1) (by omega) (by omega) _ ⟨fun i' j' a b u => ?_, z.2⟩)) (fun y => nm_r (nI_1 j) (ih (j + 1) (by omega) (by omega) _ ⟨fun i' j' a b u => ?_, Or.inr ⟨i, j, hj, by omega, rfl⟩⟩))
    · by_cases v : i' = i ∧ j' = j
      · rw [v.1, v.2]; exact y
      · exact z.1 i' j' a b (by omega)
    · by_cases v : i' = i ∧ j' = j
      · rw [v.1, v.2]; omega
      · have := z.1 i' j' a b (by omega); omega
theorem xl_wi16 (g : gr X Y) (hn : n ≤ 10) (h : ∀ r, WX n X Y n 0 r → post (iN r)) :
    ∀ d i, i + d = n → ∀ r, WX n X Y i 0 r → wX_widest_16 post (nI n) (fun i => iN (X i)) (fun i => iN (Y i)) s t w (d + 1) (iN r) (nI i) := by
  intro d
  induction d with
  | zero =>
    intro i e r z
    have e' : i = n := by omega
    subst e'
    exact br_t (nI_le (by omega) (by omega)) (h r z)
  | succ d ih =>
    intro i e r z
    refine br_f (nI_ge (by omega) (by omega)) (nm_r (nI_1 i) ⟨n - (i + 1) + 1, xl_wi28 g hn (by omega) (fun r' z' => ih (i + 1) (by omega) r' ⟨fun i' j' a b u => z'.1 i' j' a b (by omega), z'.2⟩) (n - (i + 1)) (i + 1) (by omega) (by omega) r ⟨fun i' j' a b u => z.1 i' j' a b (by omega), z.2⟩⟩)
def WY (X Y : Nat → Int) (i j : Nat) (r : Int) : Prop := (∀ i' j', j' < i' → (i' < i ∨ (i' = i ∧ j' < j)) → dd X Y i' j' ≤ r) ∧ (r = -1000 ∨ ∃ i' j', j' < i' ∧ i' < n ∧ r = dd X Y i' j')
theorem wy_sm (g : gr X Y) {i j : Nat} {r : Int} (h : WY (n := n) X Y i j r) : sm r := by
  rcases h.2 with h | ⟨i', j', _, _, h⟩
  · rw [h]; exact sm_k _
  · rw [h]; exact dd_sm g _ _
theorem yl_wi16 {J : Int32 → Int32 → Prop} {i : Nat} (g : gr X Y) (hn : n ≤ 10) (hi : i < n) (hJ : ∀ r, WY (n := n) X Y i i r → J (iN r) (nI (i + 1))) :
    ∀ d j, j + d = i → ∀ r, WY (n := n) X Y i j r → wY_widest_16 post J (nI i) (nI n) p (fun i => iN (X i)) (fun i => iN (Y i)) k l q c (d + 1) (iN r) (nI j) := by
  intro d
  induction d with
  | zero =>
    intro j e r z
    have e' : j = i := by omega
    subst e'
    exact br_t (nI_le (by omega) (by omega)) (nm_r (nI_1 j) (hJ r z))
  | succ d ih =>
    intro j e r z
    have ii := vp_in_nI (n := i) (N := 10) (by omega) (by decide)
    have ij := vp_in_nI (n := j) (N := 10) (by omega) (by decide)
    have ci : (nI i).toNatClampNeg = i := nI_clamp (by omega)
    have cj : (nI j).toNatClampNeg = j := nI_clamp (by omega)
    refine br_f (nI_ge (by omega) (by omega)) ⟨ii, ij, nm_r (e' := iN (X i - X j)) (by rw [ci, cj]; exact ie_sub _ _) ⟨ii, ij, nm_r (e' := iN (Y i - Y j)) (by rw [ci, cj]; exact ie_sub _ _) (nm_r (e' := iN (dd X Y i j)) (by rw [ie_mul, ie_mul, ie_add]; rfl) ?_)⟩⟩
    refine ib_le _ _ rfl rfl (dd_sm g _ _) (wy_sm g z) (fun y => nm_r (nI_1 j) (ih (j + 1) (by omega) _ ⟨fun i' j' a u => ?_, z.2⟩)) (fun y => nm_r (nI_1 j) (ih (j + 1) (by omega) _ ⟨fun i' j' a u => ?_, Or.inr ⟨i, j, by omega, by omega, rfl⟩⟩))
    · by_cases v : i' = i ∧ j' = j
      · rw [v.1, v.2]; exact y
      · exact z.1 i' j' a (by omega)
    · by_cases v : i' = i ∧ j' = j
      · rw [v.1, v.2]; omega
      · have := z.1 i' j' a (by omega); omega
theorem yl_wi6 (g : gr X Y) (hn : n ≤ 10) (h : ∀ r, WY (n := n) X Y n 0 r → post (iN r)) :
    ∀ d i, i + d = n → ∀ r, WY (n := n) X Y i 0 r → wY_widest_6 post (nI n) p (fun i => iN (X i)) (fun i => iN (Y i)) k l q c (d + 1) (iN r) (nI i) := by
  intro d
  induction d with
  | zero =>
    intro i e r z
    have e' : i = n := by omega
    subst e'
    exact br_t (nI_le (by omega) (by omega)) (h r z)
  | succ d ih =>
    intro i e r z
    exact br_f (nI_ge (by omega) (by omega)) ⟨i + 1, yl_wi16 g hn (by omega) (fun r' z' => ih (i + 1) (by omega) r' ⟨fun i' j' a u => z'.1 i' j' a (by omega), z'.2⟩) i 0 (by omega) r z⟩
theorem dd_sw (i j : Nat) : dd X Y i j = dd X Y j i := by unfold dd; grind
theorem dd_0 (i j : Nat) : 0 ≤ dd X Y i j := by
  have := al_sq (X i - X j); have := al_sq (Y i - Y j); unfold dd; omega
theorem wi_eq {r r' : Int} (hn : 2 ≤ n) (h : WX n X Y n 0 r) (h' : WY (n := n) X Y n 0 r') : r' = r := by
  have a : ∀ i j, i < j → j < n → dd X Y i j ≤ r := fun i j x y => h.1 i j x y (by omega)
  have b : ∀ i j, i < j → j < n → dd X Y i j ≤ r' := fun i j x y => by rw [dd_sw]; exact h'.1 j i x (by omega)
  have z := dd_0 (X := X) (Y := Y) 0 1
  have a0 := a 0 1 (by omega) (by omega)
  have b0 := b 0 1 (by omega) (by omega)
  have c1 : r' ≤ r := by
    rcases h'.2 with e | ⟨i, j, x, y, e⟩
    · omega
    · rw [e, dd_sw]; exact a j i x y
  have c2 : r ≤ r' := by
    rcases h.2 with e | ⟨i, j, x, y, e⟩
    · omega
    · rw [e]; exact b i j x y
  omega
end
end
section
def us (X : Nat → Int) (j : Nat) (v : Int) : Nat → Int := fun i => if i = j then v else X i
theorem up_e (X : Nat → Int) (j : Nat) (v : Int) : upd (fun i => iN (X i)) j (iN v) = fun i => iN (us X j v i) := by
  funext i
  unfold upd us
  split <;> rfl
def ok (X : Nat → Int) : Prop := ∀ i, 0 ≤ X i ∧ X i ≤ 15
theorem ok_us {X : Nat → Int} (h : ok X) {j : Nat} {v : Int} (hv : 0 ≤ v ∧ v ≤ 15) : ok (us X j v) := by
  intro i
  unfold us
  split
  · exact hv
  · exact h i
theorem gr_ok {X Y : Nat → Int} : gr X Y ↔ ok X ∧ ok Y := ⟨fun h => ⟨fun i => (h i).1, fun i => (h i).2⟩, fun h i => ⟨h.1 i, h.2 i⟩⟩
theorem pt_of {z : Int32} (h : 0 ≤ z.toInt ∧ z.toInt < 256) : ∃ m : Nat, m < 256 ∧ z = nI m := by
  have h0 : ¬ z < 0 := by rw [Int32.lt_iff_toInt_lt, show (0 : Int32).toInt = 0 from by decide]; omega
  obtain ⟨j, hj, rfl⟩ := nI_of h0
  rw [nI_toInt hj] at h
  exact ⟨j, by omega, rfl⟩
theorem pt_r {m : Nat} (h : m < 256) : nI m - nI m / 16 * 16 = iN ((m % 16 : Nat) : Int) := by
  rw [show nI m - nI m / 16 * 16 = nI (m % 16) from pk_rem (d := 16) (by omega) (by omega) (by omega), ie_nI]
theorem pt_q {m : Nat} (h : m < 256) : nI m / 16 = iN ((m / 16 : Nat) : Int) := by
  rw [show nI m / 16 = nI (m / 16) from pk_div (d := 16) (by omega) (by omega) (by omega), ie_nI]
theorem nz16 : ¬ (16 : Int32) = 0 := by decide
/-- upwards by one from k on -/
def shU (X : Nat → Int) (n k : Nat) : Nat → Int := fun j => if k < j ∧ j ≤ n then X (j - 1) else X j
def shD (X : Nat → Int) (i k : Nat) : Nat → Int := fun j => if i ≤ j ∧ j < k then X (j + 1) else X j
theorem shU_s (X : Nat → Int) {n k : Nat} (h : k + 1 ≤ n) : us (shU X n (k + 1)) (k + 1) (shU X n (k + 1) k) = shU X n k := by
  funext j
  unfold us shU
  by_cases c : j = k + 1
  · subst c; rw [if_pos rfl, if_neg (by omega), if_pos (by omega)]; congr 1
  · rw [if_neg c]
    by_cases d : k + 1 < j ∧ j ≤ n
    · rw [if_pos d, if_pos (by omega)]
    · rw [if_neg d, if_neg (by omega)]
theorem shU_0 (X : Nat → Int) (n : Nat) : shU X n n = X := by
  funext j; unfold shU; rw [if_neg (by omega)]
theorem shD_s (X : Nat → Int) {i k : Nat} (h : i ≤ k) : us (shD X i k) k (shD X i k (k + 1)) = shD X i (k + 1) := by
  funext j
  unfold us shD
  by_cases c : j = k
  · subst c; rw [if_pos rfl, if_neg (by omega), if_pos (by omega)]
  · rw [if_neg c]
    by_cases d : i ≤ j ∧ j < k
    · rw [if_pos d, if_pos (by omega)]
    · rw [if_neg d, if_neg (by omega)]
theorem shD_0 (X : Nat → Int) (i : Nat) : shD X i i = X := by
  funext j; unfold shD; rw [if_neg (by omega)]
theorem ok_shU {X : Nat → Int} (h : ok X) (n k : Nat) : ok (shU X n k) := by
  intro j; unfold shU; split <;> exact h _
theorem ok_shD {X : Nat → Int} (h : ok X) (n k : Nat) : ok (shD X n k) := by
  intro j; unfold shD; split <;> exact h _
section
variable {n : Nat} {p : Int32} {X Y : Nat → Int} {k l q c : Nat → Int32} {s t w : Nat → Int32}
theorem xb_setCorner {post : SX → Prop} {i m : Nat} (hi : i < 10) (hm : m < 256) (h : post (sX n (us X i ((m % 16 : Nat) : Int)) (us Y i ((m / 16 : Nat) : Int)) s t w)) : wpX_setCorner post (sX n X Y s t w) (nI i) (nI m) := by
  have ii := vp_in_nI (n := i) (N := 10) (by omega) (by decide)
  refine ⟨nz16, ii, nm_r ?_ ⟨nz16, ii, nm_r ?_ h⟩⟩
  · rw [pt_r hm, nI_clamp (n := i) (by omega), up_e]
  · rw [pt_q hm, nI_clamp (n := i) (by omega), up_e]
theorem xb_corner {post : Int32 → SX → Prop} {z : Int32} (hn : n ≤ 10) (h0 : ¬ (0 ≤ z.toInt ∧ z.toInt < 256) → post (-1) (sX n X Y s t w)) (h1 : (0 ≤ z.toInt ∧ z.toInt < 256) → n = 10 → post (-2) (sX n X Y s t w))
    (h2 : ∀ m, m < 256 → z = nI m → n < 10 → post (nI n) (sX (n + 1) (us X n ((m % 16 : Nat) : Int)) (us Y n ((m / 16 : Nat) : Int)) s t w)) : wpX_corner post (sX n X Y s t w) z := by
  unfold wpX_corner
  refine xb_isPoint (fun y => bo_1 ?_) (fun y => bo_0 (h0 y))
  obtain ⟨m, hm, rfl⟩ := pt_of y
  refine pk_lt n 10 (fun e => xb_setCorner (by omega) hm ?_) (fun e => h1 y (by omega)) (hb := by decide)
  refine nm_r (nI_1 n) ?_
  rw [nI_pred]
  exact h2 m hm rfl e
theorem yb_corner {post : Int32 → SY → Prop} {z : Int32} (hn : n ≤ 10) (h0 : ¬ (0 ≤ z.toInt ∧ z.toInt < 256) → post (-1) (sY n p X Y k l q c)) (h1 : (0 ≤ z.toInt ∧ z.toInt < 256) → n = 10 → post (-2) (sY n p X Y k l q c))
    (h2 : ∀ m, m < 256 → z = nI m → n < 10 → post (nI n) (sY (n + 1) p (us X n ((m % 16 : Nat) : Int)) (us Y n ((m / 16 : Nat) : Int)) k l q c)) : wpY_corner post (sY n p X Y k l q c) z := by
  unfold wpY_corner
  refine yb_isPoint (fun y => bo_1 ?_) (fun y => bo_0 (h0 y))
  obtain ⟨m, hm, rfl⟩ := pt_of y
  refine pk_eq n 10 (fun e => h1 y e) (fun e => ?_) (hb := by decide)
  have ii := vp_in_nI (n := n) (N := 10) (by omega) (by decide)
  refine ⟨nz16, ii, nm_r (e' := fun i => iN (us X n ((m % 16 : Nat) : Int) i)) ?_ ⟨nz16, ii, nm_r (e' := fun i => iN (us Y n ((m / 16 : Nat) : Int) i)) ?_ (nm_r (nI_1 n) ?_)⟩⟩
  · rw [pt_r hm, nI_clamp (n := n) (by omega), up_e]
  · rw [pt_q hm, nI_clamp (n := n) (by omega), up_e]
  · rw [nI_pred]
    exact h2 m hm rfl (by omega)
theorem xl_in38 {post : Int32 → SX → Prop} {i m : Nat} (hn : n < 10) (hi : i ≤ n) (hm : m < 256) (h : post (nI (n + 1)) (sX (n + 1) (us (shU X n i) i ((m % 16 : Nat) : Int)) (us (shU Y n i) i ((m / 16 : Nat) : Int)) s t w)) :
    ∀ d, i + d ≤ n → wX_insert_38 post (nI i) (nI m) (nI n) (d + 1) (nI (i + d)) (fun j => iN (shU X n (i + d) j)) (fun j => iN (shU Y n (i + d) j)) s t w := by
  intro d
  induction d with
  | zero =>
    intro _
    exact br_t (nI_le (by omega) (by omega)) (xb_setCorner (n := n) (X := shU X n i) (Y := shU Y n i) (by omega) hm (nm_r (nI_1 n) h))
  | succ d ih =>
    intro hd
    have i1 := vp_in_nI (n := i + d) (N := 10) (by omega) (by decide)
    have i2 := vp_in_nI (n := i + d + 1) (N := 10) (by omega) (by decide)
    rw [show i + (d + 1) = i + d + 1 from rfl]
    refine br_f (nI_ge (by omega) (by omega)) ?_
    rw [nI_pred]
    refine ⟨i1, i2, nm_r (e' := fun j => iN (shU X n (i + d) j)) ?_ ⟨i1, i2, nm_r (e' := fun j => iN (shU Y n (i + d) j)) ?_ (nm_r (pk_m1 (i + d)) (ih (by omega)))⟩⟩
    · rw [nI_clamp (n := i + d + 1) (by omega), nI_clamp (n := i + d) (by omega)]
      show upd _ _ (iN (shU X n (i + d + 1) (i + d))) = _
      refine (up_e _ _ _).trans ?_
      rw [shU_s X (by omega)]
    · rw [nI_clamp (n := i + d + 1) (by omega), nI_clamp (n := i + d) (by omega)]
      show upd _ _ (iN (shU Y n (i + d + 1) (i + d))) = _
      refine (up_e _ _ _).trans ?_
      rw [shU_s Y (by omega)]
theorem xb_insert {post : Int32 → SX → Prop} {z1 z : Int32} (hn : n ≤ 10) (h0 : ¬ ((0 ≤ z.toInt ∧ z.toInt < 256) ∧ ∃ i, i ≤ n ∧ z1 = nI i) → post (-1) (sX n X Y s t w)) (h1 : ((0 ≤ z.toInt ∧ z.toInt < 256) ∧ ∃ i, i ≤ n ∧ z1 = nI i) → n = 10 → post (-2) (sX n X Y s t w))
    (h2 : ∀ i m, i ≤ n → m < 256 → z1 = nI i → z = nI m → n < 10 → post (nI (n + 1)) (sX (n + 1) (us (shU X n i) i ((m % 16 : Nat) : Int)) (us (shU Y n i) i ((m / 16 : Nat) : Int)) s t w)) : wpX_insert post (sX n X Y s t w) z1 z := by
  unfold wpX_insert
  refine xb_isPoint (fun y => bo_1 ?_) (fun y => bo_0 (h0 fun x => y x.1))
  refine br_c (fun y1 => h0 ?_) (fun y1 => ?_)
  · rintro ⟨_, i, hi, rfl⟩
    exact nI_pos (by omega) y1
  · obtain ⟨i, hi, rfl⟩ := nI_of y1
    refine pk_le i n (fun e => pk_lt n 10 (fun e2 => ?_) (fun e2 => h1 ⟨y, i, e, rfl⟩ (by omega)) (hb := by decide)) (fun e => h0 ?_)
    · obtain ⟨m, hm, rfl⟩ := pt_of y
      have := xl_in38 (X := X) (Y := Y) (s := s) (t := t) (w := w) e2 e hm (h2 i m e hm rfl rfl e2) (n - i) (by omega)
      rw [show i + (n - i) = n by omega, shU_0, shU_0] at this
      exact ⟨_, this⟩
    · rintro ⟨_, j, hj, ej⟩
      rw [nI_eq (by omega) (by omega)] at ej
      omega
theorem yl_in39 {post : Int32 → SY → Prop} {i m : Nat} (hn : n < 10) (hi : i ≤ n) (hm : m < 256) (h : post (nI (n + 1)) (sY (n + 1) p (us (shU X n i) i ((m % 16 : Nat) : Int)) (us (shU Y n i) i ((m / 16 : Nat) : Int)) k l q c)) :
    ∀ d, i + d ≤ n → wY_insert_39 post (nI i) (nI m) (nI n) p (d + 1) (nI (i + d)) (fun j => iN (shU X n (i + d) j)) (fun j => iN (shU Y n (i + d) j)) k l q c := by
  intro d
  induction d with
  | zero =>
    intro _
    have ii := vp_in_nI (n := i) (N := 10) (by omega) (by decide)
    refine br_t (nI_le (by omega) (by omega)) ⟨nz16, ii, nm_r (e' := fun j => iN (us (shU X n i) i ((m % 16 : Nat) : Int) j)) ?_ ⟨nz16, ii, nm_r (e' := fun j => iN (us (shU Y n i) i ((m / 16 : Nat) : Int) j)) ?_ (nm_r (nI_1 n) h)⟩⟩
    · rw [pt_r hm, nI_clamp (n := i) (by omega)]; exact up_e _ _ _
    · rw [pt_q hm, nI_clamp (n := i) (by omega)]; exact up_e _ _ _
  | succ d ih =>
    intro hd
    have i1 := vp_in_nI (n := i + d) (N := 10) (by omega) (by decide)
    have i2 := vp_in_nI (n := i + d + 1) (N := 10) (by omega) (by decide)
    rw [show i + (d + 1) = i + d + 1 from rfl]
    refine br_f (nI_ge (by omega) (by omega)) ?_
    rw [nI_pred]
    refine ⟨i1, i2, nm_r (e' := fun j => iN (shU X n (i + d) j)) ?_ ⟨i1, i2, nm_r (e' := fun j => iN (shU Y n (i + d) j)) ?_ (nm_r (pk_m1 (i + d)) (ih (by omega)))⟩⟩
    · rw [nI_clamp (n := i + d + 1) (by omega), nI_clamp (n := i + d) (by omega)]
      show upd _ _ (iN (shU X n (i + d + 1) (i + d))) = _
      refine (up_e _ _ _).trans ?_
      rw [shU_s X (by omega)]
    · rw [nI_clamp (n := i + d + 1) (by omega), nI_clamp (n := i + d) (by omega)]
      show upd _ _ (iN (shU Y n (i + d + 1) (i + d))) = _
      refine (up_e _ _ _).trans ?_
      rw [shU_s Y (by omega)]
theorem yb_insert {post : Int32 → SY → Prop} {z1 z : Int32} (hn : n ≤ 10) (h0 : ¬ ((0 ≤ z.toInt ∧ z.toInt < 256) ∧ ∃ i, i ≤ n ∧ z1 = nI i) → post (-1) (sY n p X Y k l q c)) (h1 : ((0 ≤ z.toInt ∧ z.toInt < 256) ∧ ∃ i, i ≤ n ∧ z1 = nI i) → n = 10 → post (-2) (sY n p X Y k l q c))
    (h2 : ∀ i m, i ≤ n → m < 256 → z1 = nI i → z = nI m → n < 10 → post (nI (n + 1)) (sY (n + 1) p (us (shU X n i) i ((m % 16 : Nat) : Int)) (us (shU Y n i) i ((m / 16 : Nat) : Int)) k l q c)) : wpY_insert post (sY n p X Y k l q c) z1 z := by
  unfold wpY_insert
  refine yb_isPoint (fun y => bo_1 ?_) (fun y => bo_0 (h0 fun x => y x.1))
  refine br_c (fun y1 => h0 ?_) (fun y1 => ?_)
  · rintro ⟨_, i, hi, rfl⟩
    exact nI_pos (by omega) y1
  · obtain ⟨i, hi, rfl⟩ := nI_of y1
    refine pk_le i n (fun e => pk_eq n 10 (fun e2 => h1 ⟨y, i, e, rfl⟩ e2) (fun e2 => ?_) (hb := by decide)) (fun e => h0 ?_)
    · obtain ⟨m, hm, rfl⟩ := pt_of y
      have e3 : n < 10 := Nat.lt_of_le_of_ne hn e2
      have := yl_in39 (X := X) (Y := Y) (p := p) (k := k) (l := l) (q := q) (c := c) e3 e hm (h2 i m e hm rfl rfl e3) (n - i) (by omega)
      rw [show i + (n - i) = n by omega, shU_0, shU_0] at this
      exact ⟨_, this⟩
    · rintro ⟨_, j, hj, ej⟩
      rw [nI_eq (by omega) (by omega)] at ej
      omega
theorem xl_re31 {post : Int32 → SX → Prop} {z : Int32} {i m : Nat} (hn : m + 1 ≤ 10) (hi : i ≤ m) (h : post z (sX m (shD X i m) (shD Y i m) s t w)) :
    ∀ d j, i ≤ j → j + d = m → wX_remove_31 post z (nI (m + 1)) (d + 1) (nI (j + 1)) (fun x => iN (shD X i j x)) (fun x => iN (shD Y i j x)) s t w := by
  intro d
  induction d with
  | zero =>
    intro j hj e
    have e' : j = m := by omega
    subst e'
    exact br_t (nI_le (by omega) (by omega)) (nm_r (nI_pred j) h)
  | succ d ih =>
    intro j hj e
    have i1 := vp_in_nI (n := j) (N := 10) (by omega) (by decide)
    have i2 := vp_in_nI (n := j + 1) (N := 10) (by omega) (by decide)
    refine br_f (nI_ge (by omega) (by omega)) ?_
    rw [nI_pred]
    refine ⟨i2, i1, nm_r (e' := fun x => iN (shD X i (j + 1) x)) ?_ ⟨i2, i1, nm_r (e' := fun x => iN (shD Y i (j + 1) x)) ?_ (nm_r (nI_1 (j + 1)) (ih (j + 1) (by omega) (by omega)))⟩⟩
    · rw [nI_clamp (n := j) (by omega), nI_clamp (n := j + 1) (by omega)]
      show upd _ _ (iN (shD X i j (j + 1))) = _
      refine (up_e _ _ _).trans ?_
      rw [shD_s X hj]
    · rw [nI_clamp (n := j) (by omega), nI_clamp (n := j + 1) (by omega)]
      show upd _ _ (iN (shD Y i j (j + 1))) = _
      refine (up_e _ _ _).trans ?_
      rw [shD_s Y hj]
theorem xb_remove {post : Int32 → SX → Prop} {z : Int32} (hn : n ≤ 10) (h0 : (∀ a, a < n → z ≠ nI a) → post (-1) (sX n X Y s t w))
    (h1 : ∀ a m, a < n → n = m + 1 → z = nI a → post (iN (16 * Y a + X a)) (sX m (shD X a m) (shD Y a m) s t w)) : wpX_remove post (sX n X Y s t w) z := by
  unfold wpX_remove
  refine xb_isCorner hn (fun a ha e => bo_1 ?_) (fun y => bo_0 (h0 y))
  subst e
  obtain ⟨m, rfl⟩ : ∃ m, n = m + 1 := ⟨n - 1, by omega⟩
  have ia := vp_in_nI (n := a) (N := 10) (by omega) (by decide)
  refine ⟨ia, ia, nm_r (e' := iN (16 * Y a + X a)) ?_ (nm_r (nI_1 a) ?_)⟩
  · rw [nI_clamp (n := a) (by omega)]
    show 16 * iN (Y a) + iN (X a) = _
    rw [ie_16, ie_mul, ie_add]
  · have := xl_re31 (X := X) (Y := Y) (s := s) (t := t) (w := w) (i := a) (by omega) (by omega) (h1 a m ha rfl rfl) (m - a) a (by omega) (by omega)
    rw [shD_0, shD_0] at this
    exact ⟨_, this⟩
theorem yl_re43 {post : Int32 → SY → Prop} {z : Int32} {i m : Nat} (hn : m + 1 ≤ 10) (hi : i ≤ m) (h : post z (sY m p (shD X i m) (shD Y i m) k l q c)) :
    ∀ d j, i ≤ j → j + d = m → wY_remove_43 post z (nI m) p (d + 1) (nI j) (fun x => iN (shD X i j x)) (fun x => iN (shD Y i j x)) k l q c := by
  intro d
  induction d with
  | zero =>
    intro j hj e
    have e' : j = m := by omega
    subst e'
    exact br_t (nI_le (by omega) (by omega)) h
  | succ d ih =>
    intro j hj e
    have i1 := vp_in_nI (n := j) (N := 10) (by omega) (by decide)
    have i2 := vp_in_nI (n := j + 1) (N := 10) (by omega) (by decide)
    refine br_f (nI_ge (by omega) (by omega)) ?_
    rw [nI_1 j]
    refine ⟨i2, i1, nm_r (e' := fun x => iN (shD X i (j + 1) x)) ?_ ⟨i2, i1, nm_r (e' := fun x => iN (shD Y i (j + 1) x)) ?_ (nm_e (ih (j + 1) (by omega) (by omega)))⟩⟩
    · rw [nI_clamp (n := j) (by omega), nI_clamp (n := j + 1) (by omega)]
      show upd _ _ (iN (shD X i j (j + 1))) = _
      refine (up_e _ _ _).trans ?_
      rw [shD_s X hj]
    · rw [nI_clamp (n := j) (by omega), nI_clamp (n := j + 1) (by omega)]
      show upd _ _ (iN (shD Y i j (j + 1))) = _
      refine (up_e _ _ _).trans ?_
      rw [shD_s Y hj]
theorem yb_remove {post : Int32 → SY → Prop} {z : Int32} (hn : n ≤ 10) (h0 : (∀ a, a < n → z ≠ nI a) → post (-1) (sY n p X Y k l q c))
    (h1 : ∀ a m, a < n → n = m + 1 → z = nI a → post (iN (16 * Y a + X a)) (sY m p (shD X a m) (shD Y a m) k l q c)) : wpY_remove post (sY n p X Y k l q c) z := by
  refine br_c (fun y => h0 fun a ha e => by subst e; exact nI_pos (by omega) y) (fun y => ?_)
  obtain ⟨a, ha, rfl⟩ := nI_of y
  refine pk_lt a n (fun e => ?_) (fun e => h0 fun b hb eb => by rw [nI_eq (by omega) (by omega)] at eb; omega)
  obtain ⟨m, rfl⟩ : ∃ m, n = m + 1 := ⟨n - 1, by omega⟩
  have ia := vp_in_nI (n := a) (N := 10) (by omega) (by decide)
  refine ⟨ia, ia, nm_r (e' := iN (16 * Y a + X a)) ?_ (nm_r (nI_pred m) ?_)⟩
  · rw [nI_clamp (n := a) (by omega)]
    show 16 * iN (Y a) + iN (X a) = _
    rw [ie_16, ie_mul, ie_add]
  · have := yl_re43 (X := X) (Y := Y) (p := p) (k := k) (l := l) (q := q) (c := c) (i := a) (by omega) (by omega) (h1 a m e rfl rfl) (m - a) a (by omega) (by omega)
    rw [shD_0, shD_0] at this
    exact ⟨_, this⟩
end
end
section
theorem mv_t {z : Int} (h : -2147483648 ≤ z ∧ z < 2147483664) : (0 ≤ (iN z).toInt ∧ (iN z).toInt < 16) ↔ (0 ≤ z ∧ z ≤ 15) := by
  by_cases c : z < 2147483648
  · have : (iN z).toInt = z := Int32.toInt_ofInt_of_le (by omega) (by omega)
    rw [this]; omega
  · have e : iN z = iN (z - 4294967296) := by
      have h1 : z = (z - 4294967296) + 4294967296 := by omega
      have h2 : iN 4294967296 = 0 := by decide +kernel
      conv => lhs; rw [h1]
      rw [← ie_add, h2, Int32.add_zero]
    have : (iN (z - 4294967296)).toInt = z - 4294967296 := Int32.toInt_ofInt_of_le (by omega) (by omega)
    rw [e, this]; omega
theorem in_dx (z : Int32) : ∃ d : Int, z = iN d ∧ -2147483648 ≤ d ∧ d < 2147483648 := by
  refine ⟨z.toInt, (Int32.ofInt_toInt z).symm, ?_, ?_⟩
  · have := Int32.le_toInt z; omega
  · have := Int32.toInt_lt z; omega
def mvF (X : Nat → Int) (d : Int) (k : Nat) : Nat → Int := fun j => if j < k then X j + d else X j
theorem mvF_s (X : Nat → Int) (d : Int) (k : Nat) : us (mvF X d k) k (mvF X d k k + d) = mvF X d (k + 1) := by
  funext j
  unfold us mvF
  by_cases c : j = k
  · subst c; rw [if_pos rfl, if_neg (by omega), if_pos (by omega)]
  · rw [if_neg c]
    by_cases e : j < k
    · rw [if_pos e, if_pos (by omega)]
    · rw [if_neg e, if_neg (by omega)]
theorem mvF_0 (X : Nat → Int) (d : Int) : mvF X d 0 = X := by
  funext j; unfold mvF; rw [if_neg (by omega)]
theorem ok_mvF {X : Nat → Int} {d : Int} {n : Nat} (h : ok X) (h2 : ∀ i, i < n → 0 ≤ X i + d ∧ X i + d ≤ 15) : ok (mvF X d n) := by
  intro j; unfold mvF
  split
  · exact h2 j ‹_›
  · exact h j
def MV (n : Nat) (X Y : Nat → Int) (d e : Int) (i : Nat) : Prop := (0 ≤ X i + d ∧ X i + d ≤ 15) ∧ (0 ≤ Y i + e ∧ Y i + e ≤ 15)
/-- reversed at both ends as far as k -/
def rvF (X : Nat → Int) (n k : Nat) : Nat → Int := fun j => if (0 < j ∧ j < k ∧ j < n) ∨ (n - k < j ∧ j < n) then X (n - j) else X j
def rvE (X : Nat → Int) (n : Nat) : Nat → Int := fun j => if 0 < j ∧ j < n then X (n - j) else X j
theorem rvF_1 (X : Nat → Int) (n : Nat) : rvF X n 1 = X := by
  funext j; unfold rvF; rw [if_neg (by omega)]
theorem rvF_s (X : Nat → Int) {n k : Nat} (hk : 0 < k) (h : 2 * k < n) : us (us (rvF X n k) k (rvF X n k (n - k))) (n - k) (rvF X n k k) = rvF X n (k + 1) := by
  funext j
  unfold us rvF
  by_cases c : j = n - k
  · rw [if_pos c, if_neg (by omega), if_pos (by omega), show n - j = k by omega]
  · rw [if_neg c]
    by_cases e : j = k
    · rw [if_pos e, if_neg (by omega), if_pos (by omega), e]
    · rw [if_neg e]
      by_cases f : (0 < j ∧ j < k ∧ j < n) ∨ (n - k < j ∧ j < n)
      · rw [if_pos f, if_pos (by omega)]
      · rw [if_neg f, if_neg (by omega)]
theorem rvF_e (X : Nat → Int) {n k : Nat} (hk : 0 < k) (h : n ≤ 2 * k) : rvF X n k = rvE X n := by
  funext j
  unfold rvF rvE
  by_cases c : 0 < j ∧ j < n
  · rw [if_pos c]
    by_cases f : (0 < j ∧ j < k ∧ j < n) ∨ (n - k < j ∧ j < n)
    · rw [if_pos f]
    · rw [if_neg f]; congr 1; omega
  · rw [if_neg c, if_neg (by omega)]
theorem ok_rvE {X : Nat → Int} (h : ok X) (n : Nat) : ok (rvE X n) := by
  intro j; unfold rvE; split <;> exact h _
/-- m corners from a on -/
def kpE (X : Nat → Int) (n a m : Nat) : Nat → Int := fun j => if j < m then X ((a + j) % n) else X j
theorem ok_kpE {X : Nat → Int} (h : ok X) (n a m : Nat) : ok (kpE X n a m) := by
  intro j; unfold kpE; split <;> exact h _
def tkF (K X : Nat → Int) (i : Nat) : Nat → Int := fun j => if j < i then K j else X j
theorem tkF_0 (K X : Nat → Int) : tkF K X 0 = X := by
  funext j; unfold tkF; rw [if_neg (by omega)]
theorem tkF_s (K X : Nat → Int) (i : Nat) : us (tkF K X i) i (K i) = tkF K X (i + 1) := by
  funext j
  unfold us tkF
  by_cases c : j = i
  · subst c; rw [if_pos rfl, if_pos (by omega)]
  · rw [if_neg c]
    by_cases e : j < i
    · rw [if_pos e, if_pos (by omega)]
    · rw [if_neg e, if_neg (by omega)]
section
variable {n : Nat} {p : Int32} {X Y : Nat → Int} {k l q c : Nat → Int32} {s t w : Nat → Int32}
theorem xb_isOnAxis {post : Int32 → Prop} {z : Int} (h : -2147483648 ≤ z ∧ z < 2147483664) (h1 : (0 ≤ z ∧ z ≤ 15) → post 1) (h0 : ¬ (0 ≤ z ∧ z ≤ 15) → post 0) : wpX_isOnAxis post (iN z) := by
  rw [← mv_t h] at h1 h0
  have e0 : (0 : Int32).toInt = 0 := by decide
  have e1 : (16 : Int32).toInt = 16 := by decide
  refine br_c (fun a => h0 ?_) (fun a => br_c (fun b => h0 ?_) (fun b => h1 ?_))
  · rw [Int32.lt_iff_toInt_lt, e0] at a; omega
  · rw [Int32.le_iff_toInt_le, e1] at b; omega
  · rw [Int32.lt_iff_toInt_lt, e0] at a; rw [Int32.le_iff_toInt_le, e1] at b; omega
theorem yb_isOnGrid {post : Int32 → Prop} {z : Int64} (h1 : (0 ≤ z.toInt ∧ z.toInt ≤ 15) → post 1) (h0 : ¬ (0 ≤ z.toInt ∧ z.toInt ≤ 15) → post 0) : wpY_isOnGrid post (sY n p X Y k l q c) z := by
  have e0 : (0 : Int64).toInt = 0 := by decide
  have e1 : (15 : Int64).toInt = 15 := by decide
  refine br_c (fun a => h0 ?_) (fun a => br_c (fun b => h0 ?_) (fun b => h1 ?_))
  · rw [Int64.lt_iff_toInt_lt, e0] at a; omega
  · rw [Int64.lt_iff_toInt_lt, e1] at b; omega
  · rw [Int64.lt_iff_toInt_lt, e0] at a; rw [Int64.lt_iff_toInt_lt, e1] at b; omega
theorem yr_64 {x d : Int} (hx : 0 ≤ x ∧ x ≤ 15) (hd : -2147483648 ≤ d ∧ d < 2147483648) : ((iN x).toInt64 + (iN d).toInt64).toInt = x + d := by
  have e1 : (iN x).toInt = x := ie_toInt ⟨by omega, by omega⟩
  have e2 : (iN d).toInt = d := Int32.toInt_ofInt_of_le (by omega) (by omega)
  rw [Int64.toInt_add, Int32.toInt_toInt64, Int32.toInt_toInt64, e1, e2]
  exact Int.bmod_eq_of_le (by omega) (by omega)
theorem xl_mv48 {post : Int32 → SX → Prop} {d e : Int} (hn : n ≤ 10) (h : post (nI n) (sX n (mvF X d n) (mvF Y e n) s t w)) :
    ∀ f i, i + f = n → wX_move_48 post (iN d) (iN e) (nI n) (f + 1) (nI i) (fun j => iN (mvF X d i j)) (fun j => iN (mvF Y e i j)) s t w := by
  intro f
  induction f with
  | zero =>
    intro i ei
    have e' : i = n := by omega
    subst e'
    exact br_t (nI_le (by omega) (by omega)) h
  | succ f ih =>
    intro i ei
    have ii := vp_in_nI (n := i) (N := 10) (by omega) (by decide)
    refine br_f (nI_ge (by omega) (by omega)) ⟨ii, ii, nm_r (e' := fun j => iN (mvF X d (i + 1) j)) ?_ ⟨ii, ii, nm_r (e' := fun j => iN (mvF Y e (i + 1) j)) ?_ (nm_r (nI_1 i) (ih (i + 1) (by omega)))⟩⟩
    · rw [nI_clamp (n := i) (by omega)]
      show upd _ _ (iN (mvF X d i i) + iN d) = _
      rw [ie_add]
      refine (up_e _ _ _).trans ?_
      rw [mvF_s]
    · rw [nI_clamp (n := i) (by omega)]
      show upd _ _ (iN (mvF Y e i i) + iN e) = _
      rw [ie_add]
      refine (up_e _ _ _).trans ?_
      rw [mvF_s]
theorem xl_mv2 {post : Int32 → SX → Prop} {d e : Int} (g : gr X Y) (hn : n ≤ 10) (hd : -2147483648 ≤ d ∧ d < 2147483648) (he : -2147483648 ≤ e ∧ e < 2147483648) (h0 : (∃ i, i < n ∧ ¬ MV n X Y d e i) → post (-1) (sX n X Y s t w)) (h1 : (∀ i, i < n → MV n X Y d e i) → post (nI n) (sX n (mvF X d n) (mvF Y e n) s t w)) :
    ∀ f i, i + f = n → (∀ m, m < i → MV n X Y d e m) → wX_move_2 post (iN d) (iN e) (nI n) (fun j => iN (X j)) (fun j => iN (Y j)) s t w (f + 1) (nI i) := by
  intro f
  induction f with
  | zero =>
    intro i ei z
    have := xl_mv48 (X := X) (Y := Y) hn (h1 fun m hm => z m (by omega)) n 0 (by omega)
    rw [mvF_0, mvF_0] at this
    exact br_t (nI_le (by omega) (by omega)) ⟨_, this⟩
  | succ f ih =>
    intro i ei z
    have hi : i < n := by omega
    have ii := vp_in_nI (n := i) (N := 10) (by omega) (by decide)
    have gi := g i
    refine br_f (nI_ge (by omega) (by omega)) ⟨ii, ?_⟩
    rw [nI_clamp (n := i) (by omega)]
    show wpX_isOnAxis _ (iN (X i) + iN d)
    rw [ie_add (X i) d]
    refine xb_isOnAxis (by omega) (fun y1 => bo_1 ⟨ii, ?_⟩) (fun y => bo_0 (h0 ⟨i, hi, fun x => y x.1⟩))
    show wpX_isOnAxis _ (iN (Y i) + iN e)
    rw [ie_add (Y i) e]
    refine xb_isOnAxis (by omega) (fun y2 => bo_1 (nm_r (nI_1 i) (ih (i + 1) (by omega) fun m hm => ?_))) (fun y => bo_0 (h0 ⟨i, hi, fun x => y x.2⟩))
    by_cases cc : m = i
    · subst cc; exact ⟨y1, y2⟩
    · exact z m (by omega)
theorem xb_move {post : Int32 → SX → Prop} {d e : Int} (g : gr X Y) (hn : n ≤ 10) (hd : -2147483648 ≤ d ∧ d < 2147483648) (he : -2147483648 ≤ e ∧ e < 2147483648) (h0 : (∃ i, i < n ∧ ¬ MV n X Y d e i) → post (-1) (sX n X Y s t w)) (h1 : (∀ i, i < n → MV n X Y d e i) → post (nI n) (sX n (mvF X d n) (mvF Y e n) s t w)) : wpX_move post (sX n X Y s t w) (iN d) (iN e) :=
  ⟨n + 1, xl_mv2 g hn hd he h0 h1 n 0 (by omega) (fun m hm => absurd hm (by omega))⟩
theorem yl_mv54 {post : Int32 → SY → Prop} {d e : Int} (hn : n ≤ 10) (h : post (nI n) (sY n p (mvF X d n) (mvF Y e n) k l q c)) :
    ∀ f i, i + f = n → wY_move_54 post (iN d) (iN e) (nI n) p (f + 1) (nI i) (fun j => iN (mvF X d i j)) (fun j => iN (mvF Y e i j)) k l q c := by
  intro f
  induction f with
  | zero =>
    intro i ei
    have e' : i = n := by omega
    subst e'
    exact br_t (nI_le (by omega) (by omega)) h
  | succ f ih =>
    intro i ei
    have ii := vp_in_nI (n := i) (N := 10) (by omega) (by decide)
    refine br_f (nI_ge (by omega) (by omega)) ⟨ii, ii, nm_r (e' := fun j => iN (mvF X d (i + 1) j)) ?_ ⟨ii, ii, nm_r (e' := fun j => iN (mvF Y e (i + 1) j)) ?_ (nm_r (nI_1 i) (ih (i + 1) (by omega)))⟩⟩
    · rw [nI_clamp (n := i) (by omega)]
      show upd _ _ (iN (mvF X d i i) + iN d) = _
      rw [ie_add]
      refine (up_e _ _ _).trans ?_
      rw [mvF_s]
    · rw [nI_clamp (n := i) (by omega)]
      show upd _ _ (iN (mvF Y e i i) + iN e) = _
      rw [ie_add]
      refine (up_e _ _ _).trans ?_
      rw [mvF_s]
theorem yl_mv2 {post : Int32 → SY → Prop} {d e : Int} (g : gr X Y) (hn : n ≤ 10) (hd : -2147483648 ≤ d ∧ d < 2147483648) (he : -2147483648 ≤ e ∧ e < 2147483648) (h0 : (∃ i, i < n ∧ ¬ MV n X Y d e i) → post (-1) (sY n p X Y k l q c)) (h1 : (∀ i, i < n → MV n X Y d e i) → post (nI n) (sY n p (mvF X d n) (mvF Y e n) k l q c)) :
    ∀ f i, i + f = n → (∀ m, m < i → MV n X Y d e m) → wY_move_2 post (iN d) (iN e) (nI n) p (fun j => iN (X j)) (fun j => iN (Y j)) k l q c (f + 1) (nI i) := by
  intro f
  induction f with
  | zero =>
    intro i ei z
    have := yl_mv54 (X := X) (Y := Y) hn (h1 fun m hm => z m (by omega)) n 0 (by omega)
    rw [mvF_0, mvF_0] at this
    exact br_t (nI_le (by omega) (by omega)) ⟨_, this⟩
  | succ f ih =>
    intro i ei z
    have hi : i < n := by omega
    have ii := vp_in_nI (n := i) (N := 10) (by omega) (by decide)
    have gi := g i
    refine br_f (nI_ge (by omega) (by omega)) ⟨ii, ?_⟩
    rw [nI_clamp (n := i) (by omega)]
    refine yb_isOnGrid (fun y1 => bo_1 ⟨ii, ?_⟩) (fun y => bo_0 (h0 ⟨i, hi, fun x => y ?_⟩))
    · refine yb_isOnGrid (fun y2 => bo_1 (nm_r (nI_1 i) (ih (i + 1) (by omega) fun m hm => ?_))) (fun y => bo_0 (h0 ⟨i, hi, fun x => y ?_⟩))
      · by_cases cc : m = i
        · subst cc
          rw [yr_64 (by omega) hd] at y1
          rw [yr_64 (by omega) he] at y2
          exact ⟨y1, y2⟩
        · exact z m (by omega)
      · rw [yr_64 (by omega) he]; exact x.2
    · rw [yr_64 (by omega) hd]; exact x.1
theorem yb_move {post : Int32 → SY → Prop} {d e : Int} (g : gr X Y) (hn : n ≤ 10) (hd : -2147483648 ≤ d ∧ d < 2147483648) (he : -2147483648 ≤ e ∧ e < 2147483648) (h0 : (∃ i, i < n ∧ ¬ MV n X Y d e i) → post (-1) (sY n p X Y k l q c)) (h1 : (∀ i, i < n → MV n X Y d e i) → post (nI n) (sY n p (mvF X d n) (mvF Y e n) k l q c)) : wpY_move post (sY n p X Y k l q c) (iN d) (iN e) :=
  ⟨n + 1, yl_mv2 g hn hd he h0 h1 n 0 (by omega) (fun m hm => absurd hm (by omega))⟩
theorem xb_swap {post : SX → Prop} {i j : Nat} (hi : i < 10) (hj : j < 10) (h : post (sX n (us (us X i (X j)) j (X i)) (us (us Y i (Y j)) j (Y i)) s t w)) : wpX_swapCorners post (sX n X Y s t w) (nI i) (nI j) := by
  have ii := vp_in_nI (n := i) (N := 10) (by omega) (by decide)
  have ij := vp_in_nI (n := j) (N := 10) (by omega) (by decide)
  have ci : (nI i).toNatClampNeg = i := nI_clamp (by omega)
  have cj : (nI j).toNatClampNeg = j := nI_clamp (by omega)
  refine ⟨ii, nm_r (e' := iN (X i)) (by rw [ci]) ⟨ii, nm_r (e' := iN (Y i)) (by rw [ci]) ⟨ij, ii, nm_r (e' := fun m => iN (us X i (X j) m)) ?_ ⟨ij, ii, nm_r (e' := fun m => iN (us Y i (Y j) m)) ?_ ⟨ij, nm_r (e' := fun m => iN (us (us X i (X j)) j (X i) m)) ?_ ⟨ij, nm_r (e' := fun m => iN (us (us Y i (Y j)) j (Y i) m)) ?_ h⟩⟩⟩⟩⟩⟩
  · rw [ci, cj]; exact up_e _ _ _
  · rw [ci, cj]; exact up_e _ _ _
  · rw [cj]; exact up_e _ _ _
  · rw [cj]; exact up_e _ _ _
theorem xl_rv2 {post : Int32 → SX → Prop} (hn : n ≤ 10) (h : post (nI n) (sX n (rvE X n) (rvE Y n) s t w)) :
    ∀ f i, 0 < i → n ≤ i + f → i ≤ 10 → wX_reverse_2 post (f + 1) (nI i) (nI n) (fun j => iN (rvF X n i j)) (fun j => iN (rvF Y n i j)) s t w := by
  intro f
  induction f with
  | zero =>
    intro i h0 e hi
    rw [rvF_e X h0 (by omega), rvF_e Y h0 (by omega)]
    refine br_t ?_ h
    rw [show 2 * nI i = nI (2 * i) from pk_mul 2 i]
    exact nI_le (by omega) (by omega)
  | succ f ih =>
    intro i h0 e hi
    refine pk_le n (2 * i) (fun y => ?_) (fun y => ?_) (hy := pk_mul 2 i)
    · rw [rvF_e X h0 (by omega), rvF_e Y h0 (by omega)]
      exact h
    · rw [pk_sub (by omega)]
      refine xb_swap (n := n) (X := rvF X n i) (Y := rvF Y n i) (by omega) (by omega) ?_
      rw [rvF_s X h0 y, rvF_s Y h0 y]
      exact nm_r (nI_1 i) (ih (i + 1) (by omega) (by omega) (by omega))
theorem xb_reverse {post : Int32 → SX → Prop} (hn : n ≤ 10) (h : post (nI n) (sX n (rvE X n) (rvE Y n) s t w)) : wpX_reverse post (sX n X Y s t w) := by
  have := xl_rv2 (X := X) (Y := Y) hn h n 1 (by omega) (by omega) (by omega)
  rw [rvF_1, rvF_1] at this
  exact ⟨_, this⟩
theorem yl_tk2 {post : SY → Prop} {KX KY : Nat → Int} {m : Nat} (hm : m ≤ 10) (hk : ∀ j, j < m → k j = iN (KX j)) (hl : ∀ j, j < m → l j = iN (KY j)) (h : post (sY m p (tkF KX X m) (tkF KY Y m) k l q c)) :
    ∀ f i, i + f = m → wY_takeKept_2 post (nI m) (nI n) p (f + 1) (nI i) (fun j => iN (tkF KX X i j)) (fun j => iN (tkF KY Y i j)) k l q c := by
  intro f
  induction f with
  | zero =>
    intro i ei
    have e' : i = m := by omega
    subst e'
    exact br_t (nI_le (by omega) (by omega)) h
  | succ f ih =>
    intro i ei
    have ii := vp_in_nI (n := i) (N := 10) (by omega) (by decide)
    refine br_f (nI_ge (by omega) (by omega)) ⟨ii, ii, nm_r (e' := fun j => iN (tkF KX X (i + 1) j)) ?_ ⟨ii, ii, nm_r (e' := fun j => iN (tkF KY Y (i + 1) j)) ?_ (nm_r (nI_1 i) (ih (i + 1) (by omega)))⟩⟩
    · rw [nI_clamp (n := i) (by omega), hk i (by omega)]
      refine (up_e _ _ _).trans ?_
      rw [tkF_s]
    · rw [nI_clamp (n := i) (by omega), hl i (by omega)]
      refine (up_e _ _ _).trans ?_
      rw [tkF_s]
theorem yb_takeKept {post : SY → Prop} {KX KY : Nat → Int} {m : Nat} (hm : m ≤ 10) (hk : ∀ j, j < m → k j = iN (KX j)) (hl : ∀ j, j < m → l j = iN (KY j)) (h : post (sY m p (tkF KX X m) (tkF KY Y m) k l q c)) : wpY_takeKept post (sY n p X Y k l q c) (nI m) := by
  have := yl_tk2 (X := X) (Y := Y) (n := n) hm hk hl h m 0 (by omega)
  rw [tkF_0, tkF_0] at this
  exact ⟨_, this⟩
theorem yr_rv {i : Nat} (hn : n ≤ 10) (hi : i < n) : nI n - nI i - (nI n - nI i) / nI n * nI n = nI ((n - i) % n) := by
  rw [pk_sub (by omega), pk_rem (by omega) (by omega) (by omega)]
theorem rv_tk (X : Nat → Int) (n : Nat) : tkF (fun j => X ((n - j) % n)) X n = rvE X n := by
  funext j
  unfold tkF rvE
  by_cases h : j < n
  · rw [if_pos h]
    by_cases h2 : 0 < j
    · rw [if_pos ⟨h2, h⟩]
      show X ((n - j) % n) = X (n - j)
      rw [Nat.mod_eq_of_lt (by omega)]
    · rw [if_neg (by omega)]
      show X ((n - j) % n) = X j
      rw [show n - j = n by omega, Nat.mod_self]; congr 1; omega
  · rw [if_neg h, if_neg (by omega)]
theorem yl_rv2 {post : Int32 → SY → Prop} (hn : n ≤ 10) (h : ∀ k' l', post (nI n) (sY n p (rvE X n) (rvE Y n) k' l' q c)) :
    ∀ f i k l, i + f = n → (∀ j, j < i → k j = iN (X ((n - j) % n)) ∧ l j = iN (Y ((n - j) % n))) → wY_reverse_2 post (nI n) p (f + 1) (nI i) (fun j => iN (X j)) (fun j => iN (Y j)) k l q c := by
  intro f
  induction f with
  | zero =>
    intro i k l ei z
    have e' : i = n := by omega
    subst e'
    refine br_t (nI_le (by omega) (by omega)) (yb_takeKept (n := i) (X := X) (Y := Y) (KX := fun j => X ((i - j) % i)) (KY := fun j => Y ((i - j) % i)) hn (fun j hj => (z j hj).1) (fun j hj => (z j hj).2) ?_)
    rw [rv_tk, rv_tk]
    exact h k l
  | succ f ih =>
    intro i k l ei z
    have hi : i < n := by omega
    have z0 : ¬ nI n = 0 := nI_ne0 (by omega) (by omega)
    have hr : (n - i) % n < n := Nat.mod_lt _ (by omega)
    have ii := vp_in_nI (n := i) (N := 10) (by omega) (by decide)
    have ir := vp_in_nI (n := (n - i) % n) (N := 10) (by omega) (by decide)
    refine br_f (nI_ge (by omega) (by omega)) ?_
    rw [yr_rv hn hi]
    refine ⟨z0, ir, ii, nm_e ⟨z0, ir, ii, nm_e (nm_r (nI_1 i) (ih (i + 1) _ _ (by omega) fun j hj => ?_))⟩⟩
    rw [nI_clamp (n := i) (by omega), nI_clamp (n := (n - i) % n) (by omega)]
    by_cases cc : j = i
    · subst cc; exact ⟨pk_us, pk_us⟩
    · rw [pk_un cc, pk_un cc]; exact z j (by omega)
theorem yb_reverse {post : Int32 → SY → Prop} (hn : n ≤ 10) (h : ∀ k' l', post (nI n) (sY n p (rvE X n) (rvE Y n) k' l' q c)) : wpY_reverse post (sY n p X Y k l q c) :=
  ⟨n + 1, yl_rv2 hn h n 0 k l (by omega) (fun j hj => absurd hj (by omega))⟩
theorem kp_tk (X : Nat → Int) (n a m : Nat) : tkF (fun j => X ((a + j) % n)) X m = kpE X n a m := rfl
theorem yl_kp32 {post : Int32 → SY → Prop} {a m : Nat} (hn : n ≤ 10) (ha : a < n) (hm : m ≤ n) (h : ∀ k' l', post (nI m) (sY m p (kpE X n a m) (kpE Y n a m) k' l' q c)) :
    ∀ f i k l, i + f = m → (∀ j, j < i → k j = iN (X ((a + j) % n)) ∧ l j = iN (Y ((a + j) % n))) → wY_keep_32 post (nI a) (nI m) (nI n) p (f + 1) (nI i) (fun j => iN (X j)) (fun j => iN (Y j)) k l q c := by
  intro f
  induction f with
  | zero =>
    intro i k l ei z
    have e' : i = m := by omega
    subst e'
    refine br_t (nI_le (by omega) (by omega)) (yb_takeKept (n := n) (X := X) (Y := Y) (KX := fun j => X ((a + j) % n)) (KY := fun j => Y ((a + j) % n)) (by omega) (fun j hj => (z j hj).1) (fun j hj => (z j hj).2) ?_)
    rw [kp_tk, kp_tk]
    exact h k l
  | succ f ih =>
    intro i k l ei z
    have hi : i < n := by omega
    have z0 : ¬ nI n = 0 := nI_ne0 (by omega) (by omega)
    have hr : (a + i) % n < n := Nat.mod_lt _ (by omega)
    have ii := vp_in_nI (n := i) (N := 10) (by omega) (by decide)
    have ir := vp_in_nI (n := (a + i) % n) (N := 10) (by omega) (by decide)
    refine br_f (nI_ge (by omega) (by omega)) ?_
    rw [nI_add, pk_rem (by omega) (by omega) (by omega)]
    refine ⟨z0, ir, ii, nm_e ⟨z0, ir, ii, nm_e (nm_r (nI_1 i) (ih (i + 1) _ _ (by omega) fun j hj => ?_))⟩⟩
    rw [nI_clamp (n := i) (by omega), nI_clamp (n := (a + i) % n) (by omega)]
    by_cases cc : j = i
    · subst cc; exact ⟨pk_us, pk_us⟩
    · rw [pk_un cc, pk_un cc]; exact z j (by omega)
def kpM (n a b : Nat) : Nat := (b + n - a) % n + 1
theorem yb_keep {post : Int32 → SY → Prop} {z1 z2 : Int32} (g : gr X Y) (hn : n ≤ 10) (h0 : ¬ CT n X Y z1 z2 → post (-1000) (sY n p X Y k l q c))
    (h1 : ∀ a b k' l', a < n → b < n → z1 = nI a → z2 = nI b → CT n X Y z1 z2 → post (nI (kpM n a b)) (sY (kpM n a b) p (kpE X n a (kpM n a b)) (kpE Y n a (kpM n a b)) k' l' q c)) : wpY_keep post (sY n p X Y k l q c) z1 z2 := by
  unfold wpY_keep
  refine yb_cut g hn (fun y => bo_1 ?_) (fun y => bo_0 (h0 y))
  obtain ⟨_, a, b, ha, hb, rfl, rfl, _⟩ := id y
  have z0 : ¬ nI n = 0 := nI_ne0 (by omega) (by omega)
  have hl : (b + n - a) % n < n := Nat.mod_lt _ (by omega)
  refine ⟨z0, nm_r (e' := nI (kpM n a b)) ?_ ⟨_, yl_kp32 hn ha (by unfold kpM; omega) (fun k' l' => h1 a b k' l' ha hb rfl rfl y) (kpM n a b) 0 k l (by omega) (fun j hj => absurd hj (by omega))⟩⟩
  have e : nI b - nI a + nI n = nI (b + n - a) := by
    rw [ie_nI, ie_nI, ie_nI, ie_nI, ie_sub, ie_add]; congr 1; omega
  rw [e, pk_rem (by omega) (by omega) (by omega), nI_1]
  rfl
theorem xl_kf52 {post : SX → Prop} {KX KY : Nat → Int} {m : Nat} (hm : m ≤ 10) (hk : ∀ j, j < m → s j = iN (KX j)) (hl : ∀ j, j < m → t j = iN (KY j)) (h : post (sX m (tkF KX X m) (tkF KY Y m) s t w)) :
    ∀ f i, i + f = m → wX_keepFrom_52 post (nI m) (nI n) (f + 1) (nI i) (fun j => iN (tkF KX X i j)) (fun j => iN (tkF KY Y i j)) s t w := by
  intro f
  induction f with
  | zero =>
    intro i ei
    have e' : i = m := by omega
    subst e'
    exact br_t (nI_le (by omega) (by omega)) h
  | succ f ih =>
    intro i ei
    have ii := vp_in_nI (n := i) (N := 10) (by omega) (by decide)
    refine br_f (nI_ge (by omega) (by omega)) ⟨ii, ii, nm_r (e' := fun j => iN (tkF KX X (i + 1) j)) ?_ ⟨ii, ii, nm_r (e' := fun j => iN (tkF KY Y (i + 1) j)) ?_ (nm_r (nI_1 i) (ih (i + 1) (by omega)))⟩⟩
    · rw [nI_clamp (n := i) (by omega), hk i (by omega)]
      refine (up_e _ _ _).trans ?_
      rw [tkF_s]
    · rw [nI_clamp (n := i) (by omega), hl i (by omega)]
      refine (up_e _ _ _).trans ?_
      rw [tkF_s]
theorem xl_kf5 {post : SX → Prop} {a m : Nat} (hn : n ≤ 10) (ha : a < n) (hm : m ≤ n) (h : ∀ s' t', post (sX m (kpE X n a m) (kpE Y n a m) s' t' w)) :
    ∀ f i s t, i + f = m → (∀ j, j < i → s j = iN (X ((a + j) % n)) ∧ t j = iN (Y ((a + j) % n))) → wX_keepFrom_5 post (nI m) (nI n) (f + 1) (nI ((a + i) % n)) (nI i) (fun j => iN (X j)) (fun j => iN (Y j)) s t w := by
  intro f
  induction f with
  | zero =>
    intro i s t ei z
    have e' : i = m := by omega
    subst e'
    have := xl_kf52 (n := n) (X := X) (Y := Y) (w := w) (post := post) (KX := fun j => X ((a + j) % n)) (KY := fun j => Y ((a + j) % n)) (m := i) (by omega) (fun j hj => (z j hj).1) (fun j hj => (z j hj).2) (by rw [kp_tk, kp_tk]; exact h s t) i 0 (by omega)
    rw [tkF_0, tkF_0] at this
    exact br_t (nI_le (by omega) (by omega)) ⟨_, this⟩
  | succ f ih =>
    intro i s t ei z
    have hr : (a + i) % n < n := Nat.mod_lt _ (by omega)
    have ii := vp_in_nI (n := i) (N := 10) (by omega) (by decide)
    have ir := vp_in_nI (n := (a + i) % n) (N := 10) (by omega) (by decide)
    have e1 : nx n ((a + i) % n) = (a + (i + 1)) % n := by
      rw [← nx_mod hr, Nat.mod_add_mod, Nat.add_assoc]
    refine br_f (nI_ge (by omega) (by omega)) ⟨ir, ii, nm_e ⟨ir, ii, nm_e (xb_next (n := n) (X := X) (Y := Y) hn hr (nm_r (nI_1 i) ?_))⟩⟩
    rw [e1]
    refine ih (i + 1) _ _ (by omega) fun j hj => ?_
    rw [nI_clamp (n := i) (by omega), nI_clamp (n := (a + i) % n) (by omega)]
    by_cases cc : j = i
    · subst cc; exact ⟨pk_us, pk_us⟩
    · rw [pk_un cc, pk_un cc]; exact z j (by omega)
theorem xb_keepFrom {post : SX → Prop} {a m : Nat} (hn : n ≤ 10) (ha : a < n) (hm : m ≤ n) (h : ∀ s' t', post (sX m (kpE X n a m) (kpE Y n a m) s' t' w)) : wpX_keepFrom post (sX n X Y s t w) (nI a) (nI m) := by
  have := xl_kf5 (X := X) (Y := Y) hn ha hm h m 0 s t (by omega) (fun j hj => absurd hj (by omega))
  rw [show (a + 0) % n = a from Nat.mod_eq_of_lt ha] at this
  exact ⟨_, this⟩
theorem xb_keep {post : Int32 → SX → Prop} {z1 z2 : Int32} (g : gr X Y) (hn : n ≤ 10) (h0 : ¬ CT n X Y z1 z2 → post (-1000) (sX n X Y s t w))
    (h1 : ∀ a b s' t', a < n → b < n → z1 = nI a → z2 = nI b → CT n X Y z1 z2 → post (nI (kpM n a b)) (sX (kpM n a b) (kpE X n a (kpM n a b)) (kpE Y n a (kpM n a b)) s' t' w)) : wpX_keep post (sX n X Y s t w) z1 z2 := by
  unfold wpX_keep
  refine xb_proper g hn (fun y => bo_1 ?_) (fun y => bo_0 (h0 fun x => y x.1))
  refine xb_isCut g hn (fun a b ha hb e1 e2 z => bo_1 ?_) (fun z => bo_0 (h0 fun ⟨_, a, b, ha, hb, e1, e2, x⟩ => z a b ha hb e1 e2 x))
  have ct : CT n X Y z1 z2 := ⟨y, a, b, ha, hb, e1, e2, z⟩
  subst e1 e2
  have hl : (b + n - a) % n < n := Nat.mod_lt _ (by omega)
  have hk : ∀ z0 : Int32, z0 + 1 = nI (kpM n a b) → wX_keep_39 post (nI a) z0 (nI n) (fun j => iN (X j)) (fun j => iN (Y j)) s t w := by
    intro z0 e
    unfold wX_keep_39
    refine nm_r e (xb_keepFrom hn ha (by unfold kpM; omega) fun s' t' => h1 a b s' t' ha hb rfl rfl ct)
  refine pk_lt b a (fun e => hk _ ?_) (fun e => hk _ ?_)
  · have e1 : nI b - nI a + nI n = nI (b + n - a) := by
      rw [ie_nI, ie_nI, ie_nI, ie_nI, ie_sub, ie_add]; congr 1; omega
    rw [e1, nI_1]; unfold kpM; rw [Nat.mod_eq_of_lt (by omega)]
  · rw [pk_sub e, nI_1]; unfold kpM
    rw [show b + n - a = n + (b - a) by omega, Nat.add_mod_left, Nat.mod_eq_of_lt (by omega)]
end
end
section
noncomputable def lr (A : Nat → Nat → Prop) (p : Nat) : Nat → List Nat
  | 0 => []
  | q + 1 => lr A p q ++ sel (p < q ∧ A p q) [10 * p + q] []
noncomputable def la (A : Nat → Nat → Prop) (n : Nat) : Nat → List Nat
  | 0 => []
  | p + 1 => la A n p ++ lr A p n
theorem lr_len (A : Nat → Nat → Prop) (p q : Nat) : (lr A p q).length ≤ q - (p + 1) := by
  induction q with
  | zero => exact Nat.zero_le _
  | succ q ih =>
    show (lr A p q ++ sel (p < q ∧ A p q) [10 * p + q] []).length ≤ _
    rw [List.length_append]
    by_cases h : p < q ∧ A p q
    · rw [sel_t h]; have := h.1; simp only [List.length_singleton]; omega
    · rw [sel_f h]; simp only [List.length_nil]; omega
theorem lr_0 (A : Nat → Nat → Prop) {p q : Nat} (h : q ≤ p + 1) : lr A p q = [] := by
  have := lr_len A p q
  exact List.eq_nil_of_length_eq_zero (by omega)
theorem la_len (A : Nat → Nat → Prop) {n : Nat} (hn : n ≤ 10) (p : Nat) (hp : p ≤ 10) : (la A n p).length ≤ p * (19 - p) / 2 := by
  induction p with
  | zero => exact Nat.zero_le _
  | succ p ih =>
    have h1 := ih (by omega)
    have h2 := lr_len A p n
    have h3 : ∀ p, p < 10 → p * (19 - p) / 2 + (10 - (p + 1)) ≤ (p + 1) * (19 - (p + 1)) / 2 := by decide
    have h4 := h3 p (by omega)
    show (la A n p ++ lr A p n).length ≤ _
    rw [List.length_append]
    omega
theorem lc_len (A : Nat → Nat → Prop) {n p q : Nat} (hn : n ≤ 10) (hq : q < n) (hp : p < q) : (la A n p ++ lr A p q).length < 45 := by
  have h1 := la_len A hn p (by omega)
  have h2 := lr_len A p q
  have h3 : ∀ p, p < 10 → ∀ q, q < 10 → p < q → p * (19 - p) / 2 + (q - (p + 1)) < 45 := by decide
  have h4 := h3 p (by omega) q (by omega) hp
  rw [List.length_append]
  omega
theorem ld_len (A : Nat → Nat → Prop) {n : Nat} (hn : n ≤ 10) : (la A n n).length ≤ 45 := by
  have h1 := la_len A hn n hn
  have h3 : ∀ p, p ≤ 10 → p * (19 - p) / 2 ≤ 45 := by decide
  have h4 := h3 n hn
  omega
def HP (q : Nat → Int32) (L : List Nat) : Prop := ∀ t v, L[t]? = some v → q t = nI v
theorem hp_app {q : Nat → Int32} {L : List Nat} {v : Nat} (h : HP q L) : HP (upd q L.length (nI v)) (L ++ [v]) := by
  intro t u e
  by_cases c : t < L.length
  · rw [List.getElem?_append_left c] at e
    rw [pk_un (by omega)]
    exact h t u e
  · rw [List.getElem?_append_right (by omega)] at e
    by_cases d : t = L.length
    · subst d
      rw [Nat.sub_self] at e
      cases e
      exact pk_us
    · rw [List.getElem?_eq_none (by simp only [List.length_singleton]; omega)] at e
      cases e
section
variable {n : Nat} {p : Int32} {X Y : Nat → Int} {k l q c : Nat → Int32} {s t w : Nat → Int32}
theorem xb_isCutN {post : Int32 → Prop} {a b : Nat} (g : gr X Y) (hn : n ≤ 10) (ha : a < n) (hb : b < n) (h1 : CUX n X Y a b → post 1) (h0 : ¬ CUX n X Y a b → post 0) : wpX_isCut post (sX n X Y s t w) (nI a) (nI b) := by
  refine xb_isCut g hn (fun a' b' ha' hb' e1 e2 z => ?_) (fun z => h0 (z a b ha hb rfl rfl))
  rw [nI_eq (by omega) (by omega)] at e1 e2
  subst e1 e2
  exact h1 z
theorem xl_cu27 {post : Int32 → Prop} {J : Int32 → Int32 → Prop} {a : Nat} (g : gr X Y) (hn : n ≤ 10) (ha : a < n) (hJ : J (nI (la (CUX n X Y) n (a + 1)).length) (nI (a + 1))) :
    ∀ d b, a < b → b + d = n → wX_cuts_27 post J (nI a) (nI n) (fun i => iN (X i)) (fun i => iN (Y i)) s t w (d + 1) (nI (la (CUX n X Y) n a ++ lr (CUX n X Y) a b).length) (nI b) := by
  intro d
  induction d with
  | zero =>
    intro b hb e
    have e' : b = n := by omega
    subst e'
    exact br_t (nI_le (by omega) (by omega)) (nm_r (nI_1 a) hJ)
  | succ d ih =>
    intro b hb e
    have hs : wX_cuts_27 post J (nI a) (nI n) (fun i => iN (X i)) (fun i => iN (Y i)) s t w (d + 1) (nI (la (CUX n X Y) n a ++ (lr (CUX n X Y) a b ++ sel (a < b ∧ CUX n X Y a b) [10 * a + b] [])).length) (nI (b + 1)) := ih (b + 1) (by omega) (by omega)
    rw [← List.append_assoc] at hs
    refine br_f (nI_ge (by omega) (by omega)) (xb_isCutN g hn ha (by omega) (fun z => bo_1 ?_) (fun z => bo_0 ?_))
    · rw [sel_t ⟨hb, z⟩, List.length_append (bs := [10 * a + b])] at hs
      exact nm_r (nI_1 _) (nm_r (nI_1 b) hs)
    · rw [sel_f (fun x => z x.2), List.append_nil] at hs
      exact nm_r (nI_1 b) hs
theorem xl_cu15 {post : Int32 → Prop} (g : gr X Y) (hn : n ≤ 10) (h : post (nI (la (CUX n X Y) n n).length)) :
    ∀ d a, a + d = n → wX_cuts_15 post (nI n) (fun i => iN (X i)) (fun i => iN (Y i)) s t w (d + 1) (nI (la (CUX n X Y) n a).length) (nI a) := by
  intro d
  induction d with
  | zero =>
    intro a e
    have e' : a = n := by omega
    subst e'
    exact br_t (nI_le (by omega) (by omega)) h
  | succ d ih =>
    intro a e
    have := xl_cu27 (s := s) (t := t) (w := w) (post := post) g hn (by omega) (ih (a + 1) (by omega)) (n - (a + 1)) (a + 1) (by omega) (by omega)
    rw [lr_0 _ (by omega), List.append_nil] at this
    exact br_f (nI_ge (by omega) (by omega)) (nm_r (nI_1 a) ⟨_, this⟩)
theorem xb_cuts {post : Int32 → Prop} (g : gr X Y) (hn : n ≤ 10) (h0 : ¬ PR n X Y → post (-1000)) (h1 : PR n X Y → post (nI (la (CUX n X Y) n n).length)) : wpX_cuts post (sX n X Y s t w) := by
  unfold wpX_cuts
  refine xb_proper g hn (fun y => bo_1 ⟨n + 1, ?_⟩) (fun y => bo_0 (h0 y))
  exact xl_cu15 g hn (h1 y) n 0 (by omega)
theorem yl_lc19 {post : SY → Prop} {J : Int32 → Int32 → (Nat → Int32) → (Nat → Int32) → (Nat → Int32) → (Nat → Int32) → (Nat → Int32) → (Nat → Int32) → Prop} {a : Nat} (g : gr X Y) (hn : n ≤ 10) (ha : a < n)
    (hJ : ∀ q', HP q' (la (CUX n X Y) n (a + 1)) → J (nI (a + 1)) (nI (la (CUX n X Y) n (a + 1)).length) (fun i => iN (X i)) (fun i => iN (Y i)) k l q' c) :
    ∀ d b q, a < b → b + d = n → HP q (la (CUX n X Y) n a ++ lr (CUX n X Y) a b) → wY_listCuts_19 post J (nI a) (nI n) (d + 1) (nI b) (nI (la (CUX n X Y) n a ++ lr (CUX n X Y) a b).length) (fun i => iN (X i)) (fun i => iN (Y i)) k l q c := by
  intro d
  induction d with
  | zero =>
    intro b q hb e z
    have e' : b = n := by omega
    subst e'
    exact br_t (nI_le (by omega) (by omega)) (nm_r (nI_1 a) (hJ q z))
  | succ d ih =>
    intro b q hb e z
    have hl := lc_len (CUX n X Y) hn (show b < n by omega) hb
    have es : la (CUX n X Y) n a ++ lr (CUX n X Y) a (b + 1) = (la (CUX n X Y) n a ++ lr (CUX n X Y) a b) ++ sel (a < b ∧ CUX n X Y a b) [10 * a + b] [] := (List.append_assoc _ _ _).symm
    refine br_f (nI_ge (by omega) (by omega)) (yb_isCut (n := n) (X := X) (Y := Y) g hn ha (by omega) (fun y => bo_1 ?_) (fun y => bo_0 ?_))
    · rw [sel_t ⟨hb, y⟩] at es
      have hs := ih (b + 1) (upd q (la (CUX n X Y) n a ++ lr (CUX n X Y) a b).length (nI (10 * a + b))) (by omega) (by omega) (by rw [es]; exact hp_app z)
      rw [es, List.length_append (bs := [10 * a + b])] at hs
      refine ⟨vp_in_nI hl (by decide), nm_r ?_ (nm_r (nI_1 _) (nm_r (nI_1 b) hs))⟩
      rw [nI_clamp (by omega), show (10 : Int32) * nI a + nI b = nI (10 * a + b) from by rw [show (10 : Int32) * nI a = nI (10 * a) from pk_mul 10 a, nI_add]]
    · rw [sel_f (fun x => y x.2), List.append_nil] at es
      have hs := ih (b + 1) q (by omega) (by omega) (by rw [es]; exact z)
      rw [es] at hs
      exact nm_r (nI_1 b) hs
theorem yl_lc7 {post : SY → Prop} (g : gr X Y) (hn : n ≤ 10) (h : ∀ q', HP q' (la (CUX n X Y) n n) → post (sY n (nI (la (CUX n X Y) n n).length) X Y k l q' c)) :
    ∀ d a q, a + d = n → HP q (la (CUX n X Y) n a) → wY_listCuts_7 post (nI n) (d + 1) (nI a) (nI (la (CUX n X Y) n a).length) (fun i => iN (X i)) (fun i => iN (Y i)) k l q c := by
  intro d
  induction d with
  | zero =>
    intro a q e z
    have e' : a = n := by omega
    subst e'
    exact br_t (nI_le (by omega) (by omega)) (h q z)
  | succ d ih =>
    intro a q e z
    have := yl_lc19 (k := k) (l := l) (c := c) (post := post) g hn (show a < n by omega) (fun q' z' => ih (a + 1) q' (by omega) z') (n - (a + 1)) (a + 1) q (by omega) (by omega) (by rw [lr_0 _ (by omega), List.append_nil]; exact z)
    rw [lr_0 _ (by omega), List.append_nil] at this
    exact br_f (nI_ge (by omega) (by omega)) (nm_r (nI_1 a) ⟨_, this⟩)
theorem yb_listCuts {post : SY → Prop} (g : gr X Y) (hn : n ≤ 10) (h : ∀ q', HP q' (la (CUX n X Y) n n) → post (sY n (nI (la (CUX n X Y) n n).length) X Y k l q' c)) : wpY_listCuts post (sY n p X Y k l q c) :=
  ⟨n + 1, yl_lc7 g hn h n 0 q (by omega) (fun t v e => by cases e)⟩
theorem yb_cuts {post : Int32 → SY → Prop} (g : gr X Y) (hn : n ≤ 10) (h0 : ¬ PR n X Y → post (-1000) (sY n p X Y k l q c)) (h1 : PR n X Y → ∀ q', post (nI (la (CUX n X Y) n n).length) (sY n (nI (la (CUX n X Y) n n).length) X Y k l q' c)) : wpY_cuts post (sY n p X Y k l q c) := by
  unfold wpY_cuts
  refine yb_isProper g hn (fun y => bo_1 ?_) (fun y => bo_0 (h0 y))
  exact yb_listCuts g hn fun q' _ => h1 y q'
/-- a is not above, and not right of, b -/
def lx (X Y : Nat → Int) (a b : Nat) : Prop := Y a < Y b ∨ (Y a = Y b ∧ X a ≤ X b)
theorem yl_lf13 {post : Int32 → Prop} (g : gr X Y) (hn : n ≤ 10) (h : ∀ a, a < n → (∀ m, m < n → lx X Y a m) → (0 < tn X Y (pv n a) a (nx n a) → post 1) ∧ (¬ 0 < tn X Y (pv n a) a (nx n a) → post 0)) :
    ∀ d i a, i + d = n → a < i → (∀ m, m < i → lx X Y a m) → wY_left_13 post (nI n) p (fun i => iN (X i)) (fun i => iN (Y i)) k l q c (d + 1) (nI a) (nI i) := by
  intro d
  induction d with
  | zero =>
    intro i a e ha z
    have e' : i = n := by omega
    subst e'
    have z0 : ¬ nI i = 0 := nI_ne0 (by omega) (by omega)
    have l1 := nx_lt ha
    have l2 := pv_lt ha
    refine br_t (nI_le (by omega) (by omega)) ⟨z0, z0, ?_⟩
    rw [yr_1 hn ha, yr_m hn ha]
    refine yb_turnOf g (by omega) (by omega) (by omega) (xb_pos (sg_sm _) (fun y => ?_) (fun y => ?_))
    · exact (h a ha z).1 ((sg_pos _).mp y)
    · exact (h a ha z).2 fun x => y ((sg_pos _).mpr x)
  | succ d ih =>
    intro i a e ha z
    have ii := vp_in_nI (n := i) (N := 10) (by omega) (by decide)
    have ia := vp_in_nI (n := a) (N := 10) (by omega) (by decide)
    have ci : (nI i).toNatClampNeg = i := nI_clamp (by omega)
    have ca : (nI a).toNatClampNeg = a := nI_clamp (by omega)
    have g1 := g i
    have g2 := g a
    have m1 : sm (Y i) := ⟨by omega, by omega⟩
    have m2 : sm (Y a) := ⟨by omega, by omega⟩
    have m3 : sm (X i) := ⟨by omega, by omega⟩
    have m4 : sm (X a) := ⟨by omega, by omega⟩
    have s1 : ¬ lx X Y a i → wY_left_66 post (wY_left_13 post (nI n) p (fun i => iN (X i)) (fun i => iN (Y i)) k l q c (d + 1)) (nI a) (nI i) (nI n) p (fun i => iN (X i)) (fun i => iN (Y i)) k l q c := fun y =>
      br_f (by decide) (nm_r (nI_1 i) (ih (i + 1) i (by omega) (by omega) fun m hm => by
        unfold lx at y
        by_cases cc : m = i
        · subst cc; exact Or.inr ⟨rfl, Int.le_refl _⟩
        · have := z m (by omega)
          unfold lx at this ⊢
          omega))
    have s0 : lx X Y a i → wY_left_70 post (wY_left_13 post (nI n) p (fun i => iN (X i)) (fun i => iN (Y i)) k l q c (d + 1)) (nI a) (nI i) (nI n) p (fun i => iN (X i)) (fun i => iN (Y i)) k l q c := fun y =>
      br_t rfl (nm_r (nI_1 i) (ih (i + 1) a (by omega) (by omega) fun m hm => by
        by_cases cc : m = i
        · subst cc; exact y
        · exact z m (by omega)))
    refine br_f (nI_ge (by omega) (by omega)) ⟨ii, ia, ib_lt (Y i) (Y a) (by rw [ci]) (by rw [ca]) m1 m2 (fun y => s1 (by unfold lx; omega)) (fun y => ⟨ii, ia, ib_eq (Y i) (Y a) (by rw [ci]) (by rw [ca]) m1 m2 (fun y2 => ⟨ii, ia, ib_le (X a) (X i) (by rw [ca]) (by rw [ci]) m4 m3 (fun y3 => s0 (by unfold lx; omega)) (fun y3 => s1 (by unfold lx; omega))⟩) (fun y2 => s0 (by unfold lx; omega))⟩)⟩
theorem yb_left {post : Int32 → Prop} (g : gr X Y) (hn : n ≤ 10) (h0 : ¬ PR n X Y → post 0) (h : PR n X Y → ∀ a, a < n → (∀ m, m < n → lx X Y a m) → (0 < tn X Y (pv n a) a (nx n a) → post 1) ∧ (¬ 0 < tn X Y (pv n a) a (nx n a) → post 0)) : wpY_left post (sY n p X Y k l q c) := by
  unfold wpY_left
  refine yb_isProper g hn (fun y => bo_1 ⟨n - 1 + 1, ?_⟩) (fun y => bo_0 (h0 y))
  have h3 := y.1
  refine yl_lf13 g hn (h y) (n - 1) 1 0 (by omega) (by omega) (fun m hm => ?_)
  have : m = 0 := by omega
  subst this
  exact Or.inr ⟨rfl, Int.le_refl _⟩
end
end
section
section
variable {n : Nat} {X Y : Nat → Int}
theorem bt_v (b c m : Nat) : BT X Y b c m ↔ ((X m - X b) * (Y c - Y b) = (Y m - Y b) * (X c - X b) ∧ (X m - X b) * (X m - X b) + (Y m - Y b) * (Y m - Y b) ≤ (X m - X b) * (X c - X b) + (Y m - Y b) * (Y c - Y b)) := by
  unfold BT
  have e1 : (X b - X m) * (Y c - Y m) - (Y b - Y m) * (X c - X m) = (Y m - Y b) * (X c - X b) - (X m - X b) * (Y c - Y b) := by grind
  have e2 : (X b - X m) * (X c - X m) + (Y b - Y m) * (Y c - Y m) = (X m - X b) * (X m - X b) + (Y m - Y b) * (Y m - Y b) - ((X m - X b) * (X c - X b) + (Y m - Y b) * (Y c - Y b)) := by grind
  rw [e2]
  constructor
  · rintro ⟨h1, h2⟩; exact ⟨by omega, by omega⟩
  · rintro ⟨h1, h2⟩; exact ⟨by omega, by omega⟩
theorem al_pq {a b : Int} (h : 0 < a * b) (hb : 0 ≤ b) : 0 < a := by
  by_cases c : 0 < a
  · exact c
  · have := Int.mul_nonneg (show 0 ≤ -a by omega) hb
    rw [Int.neg_mul] at this
    omega
/-- the new corner k lies right of the ray to c -/
theorem gw_1 {a1 a2 c1 c2 k1 k2 m1 m2 : Int} (cA : 0 ≤ c1 * a2 - c2 * a1) (kA : 0 ≤ k1 * a2 - k2 * a1) (mA : 0 ≤ m1 * a2 - m2 * a1)
    (kz : k1 * a2 - k2 * a1 = 0 → k1 * k1 + k2 * k2 ≤ a1 * k1 + a2 * k2) (kn : k1 * k1 + k2 * k2 ≠ 0) (kC : 0 < k1 * c2 - k2 * c1) (cm : 0 < c1 * m2 - c2 * m1) : 0 < k1 * m2 - k2 * m1 := by
  have q1 := al_sq k1
  have q2 := al_sq k2
  have hk : 0 < k1 * a2 - k2 * a1 := by
    by_cases z : k1 * a2 - k2 * a1 = 0
    · have h := kz z
      have e : (k1 * c2 - k2 * c1) * (a1 * k1 + a2 * k2) = -((k1 * k1 + k2 * k2) * (c1 * a2 - c2 * a1)) := by grind
      have h1 := Int.mul_pos kC (show 0 < a1 * k1 + a2 * k2 by omega)
      have h2 := Int.mul_nonneg (show 0 ≤ k1 * k1 + k2 * k2 by omega) cA
      omega
    · omega
  have e : (k1 * m2 - k2 * m1) * (c1 * a2 - c2 * a1) = (k1 * c2 - k2 * c1) * (m1 * a2 - m2 * a1) + (c1 * m2 - c2 * m1) * (k1 * a2 - k2 * a1) := by grind
  have h1 := Int.mul_nonneg (Int.le_of_lt kC) mA
  have h2 := Int.mul_pos cm hk
  exact al_pq (by rw [e]; omega) cA
theorem gw_2 {c1 c2 k1 k2 m1 m2 : Int} (kC : 0 < k1 * c2 - k2 * c1) (h1 : m1 * c2 = m2 * c1) (h2 : m1 * m1 + m2 * m2 ≤ m1 * c1 + m2 * c2) (mn : m1 * m1 + m2 * m2 ≠ 0) : 0 < k1 * m2 - k2 * m1 := by
  have q1 := al_sq m1
  have q2 := al_sq m2
  have q3 := al_sq c1
  have q4 := al_sq c2
  have e : (k1 * m2 - k2 * m1) * (c1 * c1 + c2 * c2) = (k1 * c2 - k2 * c1) * (m1 * c1 + m2 * c2) := by grind
  have := Int.mul_pos kC (show 0 < m1 * c1 + m2 * c2 by omega)
  exact al_pq (by rw [e]; omega) (show 0 ≤ c1 * c1 + c2 * c2 by omega)
/-- k on the line through b and c, farther than c -/
theorem gw_3 {a1 a2 c1 c2 k1 k2 : Int} (cA : 0 ≤ c1 * a2 - c2 * a1) (kA : 0 ≤ k1 * a2 - k2 * a1)
    (kz : k1 * a2 - k2 * a1 = 0 → k1 * k1 + k2 * k2 ≤ a1 * k1 + a2 * k2) (cz : c1 * a2 - c2 * a1 = 0 → c1 * c1 + c2 * c2 ≤ a1 * c1 + a2 * c2)
    (kn : k1 * k1 + k2 * k2 ≠ 0) (cnz : c1 * c1 + c2 * c2 ≠ 0) (t : k1 * c2 = k2 * c1) (far : k1 * c1 + k2 * c2 < k1 * k1 + k2 * k2) : c1 * c1 + c2 * c2 < k1 * c1 + k2 * c2 := by
  have q1 := al_sq k1
  have q2 := al_sq k2
  have q3 := al_sq c1
  have q4 := al_sq c2
  have lag : (k1 * c1 + k2 * c2) * (k1 * c1 + k2 * c2) = (k1 * k1 + k2 * k2) * (c1 * c1 + c2 * c2) := by grind
  have kk : 0 < (k1 * k1 + k2 * k2) * (c1 * c1 + c2 * c2) := Int.mul_pos (by omega) (by omega)
  have pos : 0 < k1 * c1 + k2 * c2 := by
    have e1 : (k1 * a2 - k2 * a1) * (c1 * c1 + c2 * c2) = (c1 * a2 - c2 * a1) * (k1 * c1 + k2 * c2) := by grind
    by_cases z : c1 * a2 - c2 * a1 = 0
    · have h1 := cz z
      rw [z, Int.zero_mul] at e1
      have z2 : k1 * a2 - k2 * a1 = 0 := by
        rcases Int.mul_eq_zero.mp e1 with h | h
        · exact h
        · omega
      have h2 := kz z2
      have e2 : (k1 * c1 + k2 * c2) * (a1 * a1 + a2 * a2) = (a1 * k1 + a2 * k2) * (a1 * c1 + a2 * c2) := by grind
      have q5 := al_sq a1
      have q6 := al_sq a2
      have := Int.mul_pos (show 0 < a1 * k1 + a2 * k2 by omega) (show 0 < a1 * c1 + a2 * c2 by omega)
      exact al_pq (by rw [e2]; omega) (show 0 ≤ a1 * a1 + a2 * a2 by omega)
    · have h1 := Int.mul_nonneg kA (show 0 ≤ c1 * c1 + c2 * c2 by omega)
      rw [e1] at h1
      have h2 := al_pn (by omega) h1
      by_cases z2 : k1 * c1 + k2 * c2 = 0
      · rw [z2] at lag; omega
      · omega
  have h3 := Int.mul_pos (show 0 < k1 * k1 + k2 * k2 - (k1 * c1 + k2 * c2) by omega) (show 0 < c1 * c1 + c2 * c2 by omega)
  have e3 : (k1 * k1 + k2 * k2 - (k1 * c1 + k2 * c2)) * (c1 * c1 + c2 * c2) = (k1 * c1 + k2 * c2) * (k1 * c1 + k2 * c2) - (k1 * c1 + k2 * c2) * (c1 * c1 + c2 * c2) := by rw [Int.sub_mul, lag]
  have e4 : (k1 * c1 + k2 * c2 - (c1 * c1 + c2 * c2)) * (k1 * c1 + k2 * c2) = (k1 * c1 + k2 * c2) * (k1 * c1 + k2 * c2) - (k1 * c1 + k2 * c2) * (c1 * c1 + c2 * c2) := by rw [Int.sub_mul, Int.mul_comm (c1 * c1 + c2 * c2)]
  have := al_pq (a := k1 * c1 + k2 * c2 - (c1 * c1 + c2 * c2)) (b := k1 * c1 + k2 * c2) (by rw [e4, ← e3]; exact h3) (by omega)
  omega
theorem gw_4 {c1 c2 k1 k2 m1 m2 : Int} (t : k1 * c2 = k2 * c1) (far : c1 * c1 + c2 * c2 < k1 * c1 + k2 * c2) (cnz : c1 * c1 + c2 * c2 ≠ 0)
    (h : 0 < c1 * m2 - c2 * m1 ∨ (m1 * c2 = m2 * c1 ∧ m1 * m1 + m2 * m2 ≤ m1 * c1 + m2 * c2)) : 0 < k1 * m2 - k2 * m1 ∨ (m1 * k2 = m2 * k1 ∧ m1 * m1 + m2 * m2 ≤ m1 * k1 + m2 * k2) := by
  have q1 := al_sq c1
  have q2 := al_sq c2
  have q3 := al_sq m1
  have q4 := al_sq m2
  rcases h with h | ⟨h1, h2⟩
  · left
    have e : (k1 * m2 - k2 * m1) * (c1 * c1 + c2 * c2) = (c1 * m2 - c2 * m1) * (k1 * c1 + k2 * c2) := by grind
    have := Int.mul_pos h (show 0 < k1 * c1 + k2 * c2 by omega)
    exact al_pq (by rw [e]; omega) (show 0 ≤ c1 * c1 + c2 * c2 by omega)
  · right
    have e1 : (m1 * k2 - m2 * k1) * (c1 * c1 + c2 * c2) = 0 := by grind
    have z : m1 * k2 - m2 * k1 = 0 := by
      rcases Int.mul_eq_zero.mp e1 with h | h
      · exact h
      · omega
    refine ⟨by omega, ?_⟩
    have e2 : (c1 * c1 + c2 * c2) * (m1 * k1 + m2 * k2 - (m1 * c1 + m2 * c2)) = (m1 * c1 + m2 * c2) * (k1 * c1 + k2 * c2 - (c1 * c1 + c2 * c2)) := by grind
    have h3 := Int.mul_nonneg (show 0 ≤ m1 * c1 + m2 * c2 by omega) (show 0 ≤ k1 * c1 + k2 * c2 - (c1 * c1 + c2 * c2) by omega)
    rw [← e2] at h3
    have := al_pn (by omega) h3
    omega
theorem sp_n {b c : Nat} (h : ¬ SP X Y b c) : (X c - X b) * (X c - X b) + (Y c - Y b) * (Y c - Y b) ≠ 0 := al_n0 fun z => h ⟨by omega, by omega⟩
theorem bt_b {b k m : Nat} (h : SP X Y b m) : BT X Y b k m := by
  obtain ⟨h1, h2⟩ := h
  rw [bt_v, ← h1, ← h2]
  simp
theorem bt_k {b k : Nat} : BT X Y b k k := by
  rw [bt_v]
  exact ⟨Int.mul_comm _ _, Int.le_refl _⟩
theorem tn_v (a b m : Nat) : tn X Y a b m = (X m - X b) * (Y a - Y b) - (Y m - Y b) * (X a - X b) := by unfold tn; grind
theorem gw {a b : Nat} (h : ∀ m, m < n → (0 < tn X Y a b m ∨ BT X Y a b m)) : ∀ k, k ≤ n → (∃ m, m < k ∧ ¬ SP X Y b m) → ∃ c, c < k ∧ ¬ SP X Y b c ∧ ∀ m, m < k → (0 < tn X Y b c m ∨ BT X Y b c m) := by
  have hA : ∀ m, m < n → 0 ≤ (X m - X b) * (Y a - Y b) - (Y m - Y b) * (X a - X b) ∧ ((X m - X b) * (Y a - Y b) - (Y m - Y b) * (X a - X b) = 0 → (X m - X b) * (X m - X b) + (Y m - Y b) * (Y m - Y b) ≤ (X a - X b) * (X m - X b) + (Y a - Y b) * (Y m - Y b)) := by
    intro m hm
    rcases h m hm with h1 | h1
    · rw [tn_v] at h1; exact ⟨by omega, fun z => by omega⟩
    · have h2 := (bt_v b a m).mp (bt_sw.mpr h1)
      refine ⟨by omega, fun _ => ?_⟩
      rw [Int.mul_comm (X a - X b), Int.mul_comm (Y a - Y b)]
      exact h2.2
  intro k
  induction k with
  | zero => rintro _ ⟨m, hm, _⟩; omega
  | succ k ih =>
    intro hk hx
    by_cases sk : SP X Y b k
    · have : ∃ m, m < k ∧ ¬ SP X Y b m := by
        obtain ⟨m, hm, z⟩ := hx
        by_cases e : m = k
        · subst e; exact absurd sk z
        · exact ⟨m, by omega, z⟩
      obtain ⟨c, hc, z, all⟩ := ih (by omega) this
      refine ⟨c, by omega, z, fun m hm => ?_⟩
      by_cases e : m = k
      · subst e; exact Or.inr (bt_b sk)
      · exact all m (by omega)
    · by_cases hx2 : ∃ m, m < k ∧ ¬ SP X Y b m
      · obtain ⟨c, hc, z, all⟩ := ih (by omega) hx2
        by_cases good : 0 < tn X Y b c k ∨ BT X Y b c k
        · refine ⟨c, by omega, z, fun m hm => ?_⟩
          by_cases e : m = k
          · subst e; exact good
          · exact all m (by omega)
        · refine ⟨k, by omega, sk, fun m hm => ?_⟩
          by_cases e : m = k
          · subst e; exact Or.inr bt_k
          by_cases em : SP X Y b m
          · exact Or.inr (bt_b em)
          have am := all m (by omega)
          have g1 : ¬ 0 < tn X Y b c k := fun x => good (Or.inl x)
          have g2 : ¬ BT X Y b c k := fun x => good (Or.inr x)
          obtain ⟨mA, _⟩ := hA m (by omega)
          obtain ⟨cA, cz⟩ := hA c (by omega)
          obtain ⟨kA, kz⟩ := hA k (by omega)
          rw [bt_v] at am g2 ⊢
          unfold tn at am g1 ⊢
          have kn := sp_n sk
          have cnz := sp_n z
          have mn := sp_n em
          by_cases t : (X k - X b) * (Y c - Y b) = (Y k - Y b) * (X c - X b)
          · have far : (X k - X b) * (X c - X b) + (Y k - Y b) * (Y c - Y b) < (X k - X b) * (X k - X b) + (Y k - Y b) * (Y k - Y b) := by
              have : ¬ ((X k - X b) * (X k - X b) + (Y k - Y b) * (Y k - Y b) ≤ (X k - X b) * (X c - X b) + (Y k - Y b) * (Y c - Y b)) := fun x => g2 ⟨t, x⟩
              omega
            exact gw_4 t (gw_3 cA kA kz cz kn cnz t far) cnz am
          · left
            have kC : 0 < (X k - X b) * (Y c - Y b) - (Y k - Y b) * (X c - X b) := by
              have e1 := Int.mul_comm (X c - X b) (Y k - Y b)
              have e2 := Int.mul_comm (Y c - Y b) (X k - X b)
              omega
            rcases am with am | am
            · exact gw_1 cA kA mA kz kn kC am
            · exact gw_2 kC am.1 am.2 mn
      · refine ⟨k, by omega, sk, fun m hm => ?_⟩
        by_cases e : m = k
        · subst e; exact Or.inr bt_k
        · refine Or.inr (bt_b ?_)
          by_cases em : SP X Y b m
          · exact em
          · exact absurd ⟨m, by omega, em⟩ hx2
theorem fi_ex (c : Nat) : ∃ d, d ≤ c ∧ FI X Y d ∧ SP X Y d c := by
  induction c using Nat.strongRecOn with
  | ind c ih =>
    by_cases h : FI X Y c
    · exact ⟨c, Nat.le_refl c, h, rfl, rfl⟩
    · have : ∃ m, m < c ∧ SP X Y m c := by
        refine Classical.byContradiction fun z => h fun m hm x => z ⟨m, hm, x⟩
      obtain ⟨m, hm, sp⟩ := this
      obtain ⟨d, hd, fd, sd⟩ := ih m hm
      exact ⟨d, by omega, fd, sd.1.trans sp.1, sd.2.trans sp.2⟩
theorem fi_eq {a b : Nat} (ha : FI X Y a) (hb : FI X Y b) (h : SP X Y a b) : a = b := by
  rcases Nat.lt_trichotomy a b with z | z | z
  · exact absurd h (hb a z)
  · exact z
  · exact absurd (sp_sw.mp h) (ha b z)
theorem hx_next {a b : Nat} (ha : a < n) (h : HX n X Y a b) : ∃ c, c < n ∧ HX n X Y b c := by
  obtain ⟨h1, h2, h3, h4⟩ := h
  obtain ⟨c, hc, z, all⟩ := gw h4 n (Nat.le_refl n) ⟨a, ha, fun x => h1 (sp_sw.mp x)⟩
  obtain ⟨d, hd, fd, sd⟩ := fi_ex (X := X) (Y := Y) c
  refine ⟨d, by omega, fun x => z ⟨x.1.trans sd.1, x.2.trans sd.2⟩, h3, fd, fun m hm => ?_⟩
  have := all m hm
  unfold tn BT at this ⊢
  rw [sd.1, sd.2]
  exact this
end
end
section
theorem cn_0 {f : Nat → Prop} {m : Nat} (h : ∀ i, i < m → ¬ f i) : cn f m = 0 := by
  induction m with
  | zero => rfl
  | succ m ih =>
    show cn f m + ind (f m) = 0
    rw [ih fun i hi => h i (by omega), ind_f (h m (by omega))]
theorem cn_2 {f : Nat → Prop} {a b : Nat} (m : Nat) (h : ∀ i, i < m → f i → i = a ∨ i = b) : cn f m ≤ (if a < m then 1 else 0) + (if b < m then 1 else 0) := by
  induction m with
  | zero => exact Nat.zero_le _
  | succ m ih =>
    have h1 := ih fun i hi => h i (by omega)
    show cn f m + ind (f m) ≤ _
    by_cases z : f m
    · have := h m (by omega) z
      rw [ind_t z]
      split at h1 <;> split at h1 <;> split <;> split <;> omega
    · rw [ind_f z]
      split at h1 <;> split at h1 <;> split <;> split <;> omega
theorem cn_1 {f : Nat → Prop} {a : Nat} (m : Nat) (ha : a < m) (h : f a) : cn f m = cn (fun i => f i ∧ i ≠ a) m + 1 := by
  induction m with
  | zero => omega
  | succ m ih =>
    show cn f m + ind (f m) = cn (fun i => f i ∧ i ≠ a) m + ind (f m ∧ m ≠ a) + 1
    by_cases e : a = m
    · subst e
      have : cn f a = cn (fun i => f i ∧ i ≠ a) a := cn_c fun i hi => ⟨fun x => ⟨x, by omega⟩, fun x => x.1⟩
      rw [this, ind_t h, ind_f (fun x => x.2 rfl)]
    · rw [ih (by omega), ind_c (show (f m ∧ m ≠ a) ↔ f m from ⟨fun x => x.1, fun x => ⟨x, fun y => e y.symm⟩⟩)]
      omega
theorem cn_3 {f : Nat → Prop} {a b c m : Nat} (ha : a < m) (hb : b < m) (hc : c < m) (fa : f a) (fb : f b) (fc : f c) (e1 : b ≠ a) (e2 : c ≠ a) (e3 : c ≠ b) : 3 ≤ cn f m := by
  have h1 := cn_1 m ha fa
  have h2 := cn_1 (f := fun i => f i ∧ i ≠ a) m hb ⟨fb, e1⟩
  have h3 := cn_1 (f := fun i => (f i ∧ i ≠ a) ∧ i ≠ b) m hc ⟨⟨fc, e2⟩, e3⟩
  omega
theorem sF_c {f f' : Nat → Prop} {v : Nat → Int} {m : Nat} (h : ∀ i, i < m → (f i ↔ f' i)) : sF f v m = sF f' v m := by
  induction m with
  | zero => rfl
  | succ m ih =>
    show sF f v m + sel (f m) (v m) 0 = sF f' v m + sel (f' m) (v m) 0
    rw [ih fun i hi => h i (by omega), propext (h m (by omega))]
theorem sF_0 {f : Nat → Prop} {v : Nat → Int} {m : Nat} (h : ∀ i, i < m → ¬ f i) : sF f v m = 0 := by
  induction m with
  | zero => rfl
  | succ m ih =>
    show sF f v m + sel (f m) (v m) 0 = 0
    rw [ih fun i hi => h i (by omega), sel_f (h m (by omega))]; rfl
theorem sF_2 {f : Nat → Prop} {v : Nat → Int} {a b : Nat} (ne : a ≠ b) (m : Nat) (h : ∀ i, i < m → (f i ↔ (i = a ∨ i = b))) : sF f v m = (if a < m then v a else 0) + (if b < m then v b else 0) := by
  induction m with
  | zero => rfl
  | succ m ih =>
    show sF f v m + sel (f m) (v m) 0 = _
    rw [ih fun i hi => h i (by omega)]
    have hm := h m (by omega)
    by_cases ea : m = a
    · subst ea
      rw [sel_t (hm.mpr (Or.inl rfl)), if_neg (Nat.lt_irrefl m), if_pos (Nat.lt_succ_self m)]
      by_cases c : b < m
      · rw [if_pos c, if_pos (by omega)]; omega
      · rw [if_neg c, if_neg (by omega)]; omega
    · by_cases eb : m = b
      · subst eb
        rw [sel_t (hm.mpr (Or.inr rfl))]
        by_cases c : a < m
        · rw [if_pos c, if_neg (by omega), if_pos (by omega), if_pos (by omega)]; omega
        · rw [if_neg c, if_neg (by omega), if_neg (by omega), if_pos (by omega)]; omega
      · rw [sel_f (fun x => (hm.mp x).elim ea eb)]
        have c1 : (if a < m + 1 then v a else 0) = (if a < m then v a else 0) := by
          by_cases c : a < m
          · rw [if_pos c, if_pos (by omega)]
          · rw [if_neg c, if_neg (by omega)]
        have c2 : (if b < m + 1 then v b else 0) = (if b < m then v b else 0) := by
          by_cases c : b < m
          · rw [if_pos c, if_pos (by omega)]
          · rw [if_neg c, if_neg (by omega)]
        rw [c1, c2]; omega
section
variable {n : Nat} {X Y : Nat → Int}
theorem hf_t {H : Nat → Nat → Prop} {i : Nat} (hi : i < n * n) : i / n < n ∧ i % n < n ∧ i = n * (i / n) + i % n := by
  have h0 : 0 < n := by
    rcases Nat.eq_zero_or_pos n with h | h
    · subst h; omega
    · exact h
  exact ⟨Nat.div_lt_of_lt_mul hi, Nat.mod_lt _ h0, (Nat.div_add_mod i n).symm⟩
theorem hf_lt {a b : Nat} (ha : a < n) (hb : b < n) : n * a + b < n * n := by
  have : n * (a + 1) ≤ n * n := Nat.mul_le_mul_left n ha
  rw [Nat.mul_succ] at this
  omega
theorem hf_inj {a b a' b' : Nat} (hb : b < n) (hb' : b' < n) (h : n * a + b = n * a' + b') : a = a' ∧ b = b' := by
  have h1 : (n * a + b) / n = a := by rw [Nat.mul_add_div (by omega), Nat.div_eq_of_lt hb, Nat.add_zero]
  have h2 : (n * a' + b') / n = a' := by rw [Nat.mul_add_div (by omega), Nat.div_eq_of_lt hb', Nat.add_zero]
  have h3 : (n * a + b) % n = b := by rw [Nat.mul_add_mod, Nat.mod_eq_of_lt hb]
  have h4 : (n * a' + b') % n = b' := by rw [Nat.mul_add_mod, Nat.mod_eq_of_lt hb']
  rw [h] at h1 h3
  exact ⟨h1.symm.trans h2, h3.symm.trans h4⟩
theorem cl_0 {a b i j m : Nat} (h : ¬ SP X Y a b) (h1 : tn X Y a b i = 0) (h2 : tn X Y a b j = 0) (h3 : tn X Y a b m = 0) : tn X Y i j m = 0 := by
  have u := sp_n h
  unfold tn at *
  have e : ((X j - X i) * (Y m - Y i) - (Y j - Y i) * (X m - X i)) * ((X b - X a) * (X b - X a) + (Y b - Y a) * (Y b - Y a)) = 0 := by grind
  rcases Int.mul_eq_zero.mp e with z | z
  · exact z
  · exact absurd z u
theorem bt_t {a b m : Nat} (h : BT X Y a b m) : tn X Y a b m = 0 := ((bt_y _ _ _).mp h).2.2
theorem hy_hx {a b : Nat} (h : HY n X Y a b) : HX n X Y a b := by
  obtain ⟨h1, h2, h3, h4, h5⟩ := h
  exact ⟨fun z => h1 (fi_eq h2 h3 z), h2, h3, h4⟩
theorem hx_hy {a b a' b' m' : Nat} (ha' : a' < n) (hb' : b' < n) (hm' : m' < n) (pos : 0 < tn X Y a' b' m') (h : HX n X Y a b) : HY n X Y a b := by
  obtain ⟨h1, h2, h3, h4⟩ := h
  refine ⟨fun e => h1 (e ▸ ⟨rfl, rfl⟩), h2, h3, h4, ?_⟩
  refine Classical.byContradiction fun z => ?_
  have z' : ∀ m, m < n → tn X Y a b m = 0 := fun m hm => by
    rcases h4 m hm with y | y
    · exact absurd ⟨m, hm, y⟩ z
    · exact bt_t y
  have := cl_0 h1 (z' a' ha') (z' b' hb') (z' m' hm')
  omega
/-- all on one line: the two ends, whichever way -/
theorem hx_two {a b a' b' : Nat} (ha : a < n) (hb : b < n) (ha' : a' < n) (hb' : b' < n) (h : HX n X Y a b) (h' : HX n X Y a' b') (al : ∀ m, m < n → BT X Y a b m) (al' : ∀ m, m < n → BT X Y a' b' m) : (a' = a ∧ b' = b) ∨ (a' = b ∧ b' = a) := by
  have k1 := (bt_y _ _ _).mp (al a' ha')
  have k2 := (bt_y _ _ _).mp (al b' hb')
  have k3 := (bt_y _ _ _).mp (al' a ha)
  have k4 := (bt_y _ _ _).mp (al' b hb)
  have bx : ∀ x u v : Int, (x - u) * (x - v) ≤ 0 → ((u ≤ x ∧ x ≤ v) ∨ (v ≤ x ∧ x ≤ u)) := by
    intro x u v z
    rw [al_box, show (u - x) * (v - x) = (x - u) * (x - v) by grind]
    exact z
  have x1 := bx _ _ _ k1.1
  have y1 := bx _ _ _ k1.2.1
  have x2 := bx _ _ _ k2.1
  have y2 := bx _ _ _ k2.2.1
  have x3 := bx _ _ _ k3.1
  have y3 := bx _ _ _ k3.2.1
  have x4 := bx _ _ _ k4.1
  have y4 := bx _ _ _ k4.2.1
  have t1 := k1.2.2
  have key : (SP X Y a' a ∧ SP X Y b' b) ∨ (SP X Y a' b ∧ SP X Y b' a) := by
    unfold SP
    have hx : (X a' = X a ∧ X b' = X b) ∨ (X a' = X b ∧ X b' = X a) := by omega
    have hy : (Y a' = Y a ∧ Y b' = Y b) ∨ (Y a' = Y b ∧ Y b' = Y a) := by omega
    rcases hx with hx | hx <;> rcases hy with hy | hy
    · exact Or.inl ⟨⟨hx.1, hy.1⟩, hx.2, hy.2⟩
    · have e : (X b - X a) * (Y b - Y a) = 0 := by
        unfold tn at t1
        rw [hx.1, hy.1] at t1
        rw [Int.sub_self, Int.mul_zero, Int.sub_zero] at t1
        exact t1
      rcases Int.mul_eq_zero.mp e with z | z
      · exact Or.inr ⟨⟨by omega, by omega⟩, by omega, by omega⟩
      · exact Or.inl ⟨⟨by omega, by omega⟩, by omega, by omega⟩
    · have e : (Y b - Y a) * (X b - X a) = 0 := by
        unfold tn at t1
        rw [hx.1, hy.1] at t1
        rw [Int.sub_self, Int.mul_zero] at t1
        omega
      rcases Int.mul_eq_zero.mp e with z | z
      · exact Or.inr ⟨⟨by omega, by omega⟩, by omega, by omega⟩
      · exact Or.inl ⟨⟨by omega, by omega⟩, by omega, by omega⟩
    · exact Or.inr ⟨⟨hx.1, hy.1⟩, hx.2, hy.2⟩
  rcases key with ⟨z1, z2⟩ | ⟨z1, z2⟩
  · exact Or.inl ⟨fi_eq h'.2.1 h.2.1 z1, fi_eq h'.2.2.1 h.2.2.1 z2⟩
  · exact Or.inr ⟨fi_eq h'.2.1 h.2.2.1 z1, fi_eq h'.2.2.1 h.2.1 z2⟩
theorem hu_eq : (3 ≤ cn (HF n (HX n X Y)) (n * n) ∧ cn (HF n (HX n X Y)) (n * n) = cn (HF n (HY n X Y)) (n * n)) ∨ (cn (HF n (HX n X Y)) (n * n) < 3 ∧ cn (HF n (HY n X Y)) (n * n) = 0) := by
  by_cases hh : ∃ a b m, a < n ∧ b < n ∧ m < n ∧ HX n X Y a b ∧ 0 < tn X Y a b m
  · obtain ⟨a, b, m, ha, hb, hm, h, pos⟩ := hh
    left
    obtain ⟨c, hc, h2⟩ := hx_next ha h
    obtain ⟨d, hd, h3⟩ := hx_next hb h2
    have ab : a ≠ b := fun e => h.1 (e ▸ ⟨rfl, rfl⟩)
    have bc : b ≠ c := fun e => h2.1 (e ▸ ⟨rfl, rfl⟩)
    have ac : c ≠ a := by
      intro e
      subst e
      rcases h2.2.2.2 m hm with z | z
      · rw [tn_sw] at z; omega
      · have := bt_t z; rw [tn_sw] at this; omega
    refine ⟨cn_3 (a := n * a + b) (b := n * b + c) (c := n * c + d) (hf_lt ha hb) (hf_lt hb hc) (hf_lt hc hd) ((hf_e hb).mpr h) ((hf_e hc).mpr h2) ((hf_e hd).mpr h3) ?_ ?_ ?_, ?_⟩
    · exact fun e => ab (hf_inj hc hb e).1.symm
    · exact fun e => ac (hf_inj hd hb e).1
    · exact fun e => bc (hf_inj hd hc e).1.symm
    · exact cn_c fun i hi => ⟨fun z => hx_hy ha hb hm pos z, fun z => hy_hx z⟩
  · right
    have noY : ∀ i, i < n * n → ¬ HF n (HY n X Y) i := by
      intro i hi z
      obtain ⟨h1, h2, _⟩ := hf_t (H := HY n X Y) hi
      obtain ⟨m, hm, pos⟩ := z.2.2.2.2
      exact hh ⟨_, _, m, h1, h2, hm, hy_hx z, pos⟩
    refine ⟨?_, cn_0 noY⟩
    have al : ∀ a b, a < n → b < n → HX n X Y a b → ∀ m, m < n → BT X Y a b m := by
      intro a b ha hb h m hm
      rcases h.2.2.2 m hm with z | z
      · exact absurd ⟨a, b, m, ha, hb, hm, h, z⟩ hh
      · exact z
    by_cases ex : ∃ a b, a < n ∧ b < n ∧ HX n X Y a b
    · obtain ⟨a, b, ha, hb, h⟩ := ex
      have := cn_2 (f := HF n (HX n X Y)) (a := n * a + b) (b := n * b + a) (n * n) (fun i hi z => by
        obtain ⟨h1, h2, e⟩ := hf_t (H := HX n X Y) hi
        rcases hx_two ha hb h1 h2 h z (al a b ha hb h) (al _ _ h1 h2 z) with ⟨e1, e2⟩ | ⟨e1, e2⟩
        · left; rw [e, e1, e2]
        · right; rw [e, e1, e2])
      split at this <;> split at this <;> omega
    · rw [cn_0 (f := HF n (HX n X Y)) fun i hi z => ex ⟨_, _, (hf_t (H := HX n X Y) hi).1, (hf_t (H := HX n X Y) hi).2.1, z⟩]
      omega
theorem ha_eq : sF (HF n (HX n X Y)) (GA n X Y) (n * n) = sF (HF n (HY n X Y)) (GA n X Y) (n * n) := by
  by_cases hh : ∃ a b m, a < n ∧ b < n ∧ m < n ∧ HX n X Y a b ∧ 0 < tn X Y a b m
  · obtain ⟨a, b, m, ha, hb, hm, h, pos⟩ := hh
    exact sF_c fun i hi => ⟨fun z => hx_hy ha hb hm pos z, fun z => hy_hx z⟩
  · have noY : ∀ i, i < n * n → ¬ HF n (HY n X Y) i := by
      intro i hi z
      obtain ⟨h1, h2, _⟩ := hf_t (H := HY n X Y) hi
      obtain ⟨m, hm, pos⟩ := z.2.2.2.2
      exact hh ⟨_, _, m, h1, h2, hm, hy_hx z, pos⟩
    rw [sF_0 noY]
    have al : ∀ a b, a < n → b < n → HX n X Y a b → ∀ m, m < n → BT X Y a b m := by
      intro a b ha hb h m hm
      rcases h.2.2.2 m hm with z | z
      · exact absurd ⟨a, b, m, ha, hb, hm, h, z⟩ hh
      · exact z
    by_cases ex : ∃ a b, a < n ∧ b < n ∧ HX n X Y a b
    · obtain ⟨a, b, ha, hb, h⟩ := ex
      have h' : HX n X Y b a := ⟨fun z => h.1 (sp_sw.mp z), h.2.2.1, h.2.1, fun m hm => Or.inr (bt_sw.mpr (al a b ha hb h m hm))⟩
      have ab : a ≠ b := fun e => h.1 (e ▸ ⟨rfl, rfl⟩)
      rw [sF_2 (a := n * a + b) (b := n * b + a) (fun e => ab (hf_inj hb ha e).1) (n * n) (fun i hi => ⟨fun z => by
        obtain ⟨h1, h2, e⟩ := hf_t (H := HX n X Y) hi
        rcases hx_two ha hb h1 h2 h z (al a b ha hb h) (al _ _ h1 h2 z) with ⟨e1, e2⟩ | ⟨e1, e2⟩
        · left; rw [e, e1, e2]
        · right; rw [e, e1, e2], fun z => by
        rcases z with z | z
        · rw [z]; exact (hf_e hb).mpr h
        · rw [z]; exact (hf_e ha).mpr h'⟩)]
      rw [if_pos (hf_lt ha hb), if_pos (hf_lt hb ha), ga_e hb, ga_e ha]
      have := Int.mul_comm (X a) (Y b)
      omega
    · exact sF_0 fun i hi z => ex ⟨_, _, (hf_t (H := HX n X Y) hi).1, (hf_t (H := HX n X Y) hi).2.1, z⟩
end
end
section
/-- half steps round the origin from a to b -/
def qq (a1 a2 b1 b2 : Int) : Int := ((Int.sign b2 - Int.sign a2).natAbs : Int) * Int.sign (a1 * b2 - a2 * b1)
def L3 : List Int := [-1, 0, 1]
theorem s3_mem (z : Int) : Int.sign z ∈ L3 := by
  rcases Int.lt_trichotomy z 0 with h | h | h
  · rw [Int.sign_eq_neg_one_of_neg h]; decide
  · rw [h]; decide
  · rw [Int.sign_eq_one_of_pos h]; decide
theorem s3_all : ∀ a ∈ L3, ∀ b ∈ L3, ∀ c ∈ L3, ∀ x ∈ L3, ∀ y ∈ L3, ∀ z ∈ L3,
    ¬ (0 ≤ a ∧ 0 ≤ b ∧ 0 ≤ c ∧ 0 < a + b + c) → ¬ (a ≤ 0 ∧ b ≤ 0 ∧ c ≤ 0 ∧ a + b + c < 0) →
    ¬ (0 ≤ a * x ∧ 0 ≤ b * y ∧ 0 ≤ c * z ∧ 0 < a * x + b * y + c * z) → ¬ (a * x ≤ 0 ∧ b * y ≤ 0 ∧ c * z ≤ 0 ∧ a * x + b * y + c * z < 0) →
    ((y - x).natAbs : Int) * c + ((z - y).natAbs : Int) * a = ((z - x).natAbs : Int) * (-b) := by decide +kernel
theorem sg_nn (z : Int) : 0 ≤ Int.sign z ↔ 0 ≤ z := by
  have := sg_neg z; omega
theorem sg_np (z : Int) : Int.sign z ≤ 0 ↔ z ≤ 0 := by
  have := sg_pos z; omega
theorem qq_as (a1 a2 b1 b2 : Int) : qq b1 b2 a1 a2 = - qq a1 a2 b1 b2 := by
  unfold qq
  rw [show b1 * a2 - b2 * a1 = -(a1 * b2 - a2 * b1) by grind, Int.sign_neg, Int.mul_neg, show Int.sign a2 - Int.sign b2 = -(Int.sign b2 - Int.sign a2) by omega, Int.natAbs_neg]
theorem qq_n (a1 a2 b1 b2 : Int) : qq (-a1) (-a2) (-b1) (-b2) = qq a1 a2 b1 b2 := by
  unfold qq
  rw [show -a1 * -b2 - -a2 * -b1 = a1 * b2 - a2 * b1 by grind, Int.sign_neg, Int.sign_neg, show - Int.sign b2 - - Int.sign a2 = -(Int.sign b2 - Int.sign a2) by omega, Int.natAbs_neg]
theorem qq_0l (b1 b2 : Int) : qq 0 0 b1 b2 = 0 := by
  unfold qq; rw [show (0 : Int) * b2 - 0 * b1 = 0 by omega, Int.sign_zero, Int.mul_zero]
theorem qq_0r (a1 a2 : Int) : qq a1 a2 0 0 = 0 := by
  unfold qq; rw [show a1 * 0 - a2 * 0 = 0 by omega, Int.sign_zero, Int.mul_zero]
theorem qq_d {a1 a2 b1 b2 : Int} (h : a1 * b2 - a2 * b1 = 0) : qq a1 a2 b1 b2 = 0 := by
  unfold qq; rw [h, Int.sign_zero, Int.mul_zero]
theorem s0_3 {p q r : Int} (h : p + q + r = 0) : ¬ (0 ≤ Int.sign p ∧ 0 ≤ Int.sign q ∧ 0 ≤ Int.sign r ∧ 0 < Int.sign p + Int.sign q + Int.sign r) := by
  rintro ⟨h1, h2, h3, h4⟩
  rw [sg_nn] at h1 h2 h3
  have e1 : p = 0 := by omega
  have e2 : q = 0 := by omega
  have e3 : r = 0 := by omega
  rw [e1, e2, e3] at h4
  exact absurd h4 (by decide)
theorem s0_4 {p q r : Int} (h : p + q + r = 0) : ¬ (Int.sign p ≤ 0 ∧ Int.sign q ≤ 0 ∧ Int.sign r ≤ 0 ∧ Int.sign p + Int.sign q + Int.sign r < 0) := by
  rintro ⟨h1, h2, h3, h4⟩
  rw [sg_np] at h1 h2 h3
  have e1 : p = 0 := by omega
  have e2 : q = 0 := by omega
  have e3 : r = 0 := by omega
  rw [e1, e2, e3] at h4
  exact absurd h4 (by decide)
theorem q3 {a1 a2 b1 b2 c1 c2 : Int}
    (h1 : ¬ (0 ≤ b1 * c2 - b2 * c1 ∧ 0 ≤ c1 * a2 - c2 * a1 ∧ 0 ≤ a1 * b2 - a2 * b1 ∧ 0 < (b1 * c2 - b2 * c1) + (c1 * a2 - c2 * a1) + (a1 * b2 - a2 * b1)))
    (h2 : ¬ (b1 * c2 - b2 * c1 ≤ 0 ∧ c1 * a2 - c2 * a1 ≤ 0 ∧ a1 * b2 - a2 * b1 ≤ 0 ∧ (b1 * c2 - b2 * c1) + (c1 * a2 - c2 * a1) + (a1 * b2 - a2 * b1) < 0)) :
    qq a1 a2 b1 b2 + qq b1 b2 c1 c2 = qq a1 a2 c1 c2 := by
  have e : (b1 * c2 - b2 * c1) * a2 + (c1 * a2 - c2 * a1) * b2 + (a1 * b2 - a2 * b1) * c2 = 0 := by grind
  have k1 := s0_3 e
  have k2 := s0_4 e
  rw [Int.sign_mul, Int.sign_mul, Int.sign_mul] at k1 k2
  have m1 : ¬ (0 ≤ Int.sign (b1 * c2 - b2 * c1) ∧ 0 ≤ Int.sign (c1 * a2 - c2 * a1) ∧ 0 ≤ Int.sign (a1 * b2 - a2 * b1) ∧ 0 < Int.sign (b1 * c2 - b2 * c1) + Int.sign (c1 * a2 - c2 * a1) + Int.sign (a1 * b2 - a2 * b1)) := by
    rintro ⟨z1, z2, z3, z4⟩
    refine h1 ⟨(sg_nn _).mp z1, (sg_nn _).mp z2, (sg_nn _).mp z3, ?_⟩
    have y1 := sg_pos (b1 * c2 - b2 * c1)
    have y2 := sg_pos (c1 * a2 - c2 * a1)
    have y3 := sg_pos (a1 * b2 - a2 * b1)
    have x1 := (sg_nn _).mp z1
    have x2 := (sg_nn _).mp z2
    have x3 := (sg_nn _).mp z3
    omega
  have m2 : ¬ (Int.sign (b1 * c2 - b2 * c1) ≤ 0 ∧ Int.sign (c1 * a2 - c2 * a1) ≤ 0 ∧ Int.sign (a1 * b2 - a2 * b1) ≤ 0 ∧ Int.sign (b1 * c2 - b2 * c1) + Int.sign (c1 * a2 - c2 * a1) + Int.sign (a1 * b2 - a2 * b1) < 0) := by
    rintro ⟨z1, z2, z3, z4⟩
    refine h2 ⟨(sg_np _).mp z1, (sg_np _).mp z2, (sg_np _).mp z3, ?_⟩
    have y1 := sg_neg (b1 * c2 - b2 * c1)
    have y2 := sg_neg (c1 * a2 - c2 * a1)
    have y3 := sg_neg (a1 * b2 - a2 * b1)
    have x1 := (sg_np _).mp z1
    have x2 := (sg_np _).mp z2
    have x3 := (sg_np _).mp z3
    omega
  have := s3_all _ (s3_mem (b1 * c2 - b2 * c1)) _ (s3_mem (c1 * a2 - c2 * a1)) _ (s3_mem (a1 * b2 - a2 * b1)) _ (s3_mem a2) _ (s3_mem b2) _ (s3_mem c2) m1 m2 k1 k2
  unfold qq
  rw [this, ← Int.sign_neg, show -(c1 * a2 - c2 * a1) = a1 * c2 - a2 * c1 by grind]
theorem q3s (u1 u2 w1 w2 : Int) : qq u1 u2 (u1 + w1) (u2 + w2) + qq (u1 + w1) (u2 + w2) w1 w2 = qq u1 u2 w1 w2 := by
  have e1 : (u1 + w1) * w2 - (u2 + w2) * w1 = u1 * w2 - u2 * w1 := by grind
  have e2 : w1 * u2 - w2 * u1 = -(u1 * w2 - u2 * w1) := by grind
  have e3 : u1 * (u2 + w2) - u2 * (u1 + w1) = u1 * w2 - u2 * w1 := by grind
  refine q3 ?_ ?_ <;> rw [e1, e2, e3] <;> omega
/-- the segments have a point in common -/
def MT (a1 a2 b1 b2 c1 c2 d1 d2 : Int) : Prop := ∃ s t s' t' : Int, 0 ≤ s ∧ 0 ≤ t ∧ 0 ≤ s' ∧ 0 ≤ t' ∧ 0 < s + t ∧ s + t = s' + t' ∧ s * a1 + t * b1 = s' * c1 + t' * d1 ∧ s * a2 + t * b2 = s' * c2 + t' * d2
theorem q4 {a1 a2 b1 b2 c1 c2 d1 d2 : Int} (h : ¬ MT a1 a2 b1 b2 c1 c2 d1 d2) :
    qq (c1 - a1) (c2 - a2) (d1 - a1) (d2 - a2) - qq (c1 - b1) (c2 - b2) (d1 - b1) (d2 - b2) = qq (c1 - a1) (c2 - a2) (c1 - b1) (c2 - b2) - qq (d1 - a1) (d2 - a2) (d1 - b1) (d2 - b2) := by
  have id1 : ((d1 - b1) * (c2 - b2) - (d2 - b2) * (c1 - b1)) * a1 + ((c1 - a1) * (d2 - a2) - (c2 - a2) * (d1 - a1)) * b1 = ((d1 - a1) * (d2 - b2) - (d2 - a2) * (d1 - b1)) * c1 + ((c1 - b1) * (c2 - a2) - (c2 - b2) * (c1 - a1)) * d1 := by grind
  have id2 : ((d1 - b1) * (c2 - b2) - (d2 - b2) * (c1 - b1)) * a2 + ((c1 - a1) * (d2 - a2) - (c2 - a2) * (d1 - a1)) * b2 = ((d1 - a1) * (d2 - b2) - (d2 - a2) * (d1 - b1)) * c2 + ((c1 - b1) * (c2 - a2) - (c2 - b2) * (c1 - a1)) * d2 := by grind
  have g1 : ((d1 - b1) * (c2 - b2) - (d2 - b2) * (c1 - b1)) + ((c1 - a1) * (d2 - a2) - (c2 - a2) * (d1 - a1)) = ((d1 - a1) * (d2 - b2) - (d2 - a2) * (d1 - b1)) + ((c1 - b1) * (c2 - a2) - (c2 - b2) * (c1 - a1)) := by grind
  have g2 : (c1 - a1) * (d2 - b2) - (c2 - a2) * (d1 - b1) = ((c1 - a1) * (d2 - a2) - (c2 - a2) * (d1 - a1)) - ((c1 - b1) * (c2 - a2) - (c2 - b2) * (c1 - a1)) := by grind
  have g3 : (d1 - b1) * (c2 - a2) - (d2 - b2) * (c1 - a1) = -((c1 - a1) * (d2 - b2) - (c2 - a2) * (d1 - b1)) := by grind
  have np : ¬ (0 ≤ ((d1 - b1) * (c2 - b2) - (d2 - b2) * (c1 - b1)) ∧ 0 ≤ ((c1 - a1) * (d2 - a2) - (c2 - a2) * (d1 - a1)) ∧ 0 ≤ ((d1 - a1) * (d2 - b2) - (d2 - a2) * (d1 - b1)) ∧ 0 ≤ ((c1 - b1) * (c2 - a2) - (c2 - b2) * (c1 - a1)) ∧ 0 < ((d1 - b1) * (c2 - b2) - (d2 - b2) * (c1 - b1)) + ((c1 - a1) * (d2 - a2) - (c2 - a2) * (d1 - a1))) := by
    rintro ⟨z1, z2, z3, z4, z5⟩
    exact h ⟨_, _, _, _, z1, z2, z3, z4, z5, g1, id1, id2⟩
  have nn : ¬ (((d1 - b1) * (c2 - b2) - (d2 - b2) * (c1 - b1)) ≤ 0 ∧ ((c1 - a1) * (d2 - a2) - (c2 - a2) * (d1 - a1)) ≤ 0 ∧ ((d1 - a1) * (d2 - b2) - (d2 - a2) * (d1 - b1)) ≤ 0 ∧ ((c1 - b1) * (c2 - a2) - (c2 - b2) * (c1 - a1)) ≤ 0 ∧ ((d1 - b1) * (c2 - b2) - (d2 - b2) * (c1 - b1)) + ((c1 - a1) * (d2 - a2) - (c2 - a2) * (d1 - a1)) < 0) := by
    rintro ⟨z1, z2, z3, z4, z5⟩
    refine h ⟨-((d1 - b1) * (c2 - b2) - (d2 - b2) * (c1 - b1)), -((c1 - a1) * (d2 - a2) - (c2 - a2) * (d1 - a1)), -((d1 - a1) * (d2 - b2) - (d2 - a2) * (d1 - b1)), -((c1 - b1) * (c2 - a2) - (c2 - b2) * (c1 - a1)), by omega, by omega, by omega, by omega, by omega, by omega, ?_, ?_⟩
    · rw [Int.neg_mul, Int.neg_mul, Int.neg_mul, Int.neg_mul]; omega
    · rw [Int.neg_mul, Int.neg_mul, Int.neg_mul, Int.neg_mul]; omega
  clear id1 id2 h
  have r1 : qq (c1 - a1) (c2 - a2) (d1 - a1) (d2 - a2) + qq (d1 - a1) (d2 - a2) (d1 - b1) (d2 - b2) = qq (c1 - a1) (c2 - a2) (d1 - b1) (d2 - b2) := by
    refine q3 ?_ ?_ <;> rw [g3, g2] <;> omega
  have r2 : qq (c1 - a1) (c2 - a2) (d1 - b1) (d2 - b2) + qq (d1 - b1) (d2 - b2) (c1 - b1) (c2 - b2) = qq (c1 - a1) (c2 - a2) (c1 - b1) (c2 - b2) := by
    refine q3 ?_ ?_ <;> rw [g2] <;> omega
  have r3 := qq_as (c1 - b1) (c2 - b2) (d1 - b1) (d2 - b2)
  omega
/-- sums -/
def sg (f : Nat → Int) : Nat → Int
  | 0 => 0
  | m + 1 => sg f m + f m
theorem sgc {f f' : Nat → Int} {m : Nat} (h : ∀ i, i < m → f i = f' i) : sg f m = sg f' m := by
  induction m with
  | zero => rfl
  | succ m ih =>
    show sg f m + f m = sg f' m + f' m
    rw [ih fun i hi => h i (by omega), h m (by omega)]
theorem sg_0' {f : Nat → Int} {m : Nat} (h : ∀ i, i < m → f i = 0) : sg f m = 0 := by
  induction m with
  | zero => rfl
  | succ m ih =>
    show sg f m + f m = 0
    rw [ih fun i hi => h i (by omega), h m (by omega)]; rfl
theorem sg_add (f f' : Nat → Int) (m : Nat) : sg (fun i => f i + f' i) m = sg f m + sg f' m := by
  induction m with
  | zero => rfl
  | succ m ih =>
    show sg (fun i => f i + f' i) m + (f m + f' m) = sg f m + f m + (sg f' m + f' m)
    rw [ih]; omega
theorem sg_sub (f f' : Nat → Int) (m : Nat) : sg (fun i => f i - f' i) m = sg f m - sg f' m := by
  induction m with
  | zero => rfl
  | succ m ih =>
    show sg (fun i => f i - f' i) m + (f m - f' m) = sg f m + f m - (sg f' m + f' m)
    rw [ih]; omega
theorem sg_mul (k : Int) (f : Nat → Int) (m : Nat) : sg (fun i => k * f i) m = k * sg f m := by
  induction m with
  | zero => exact (Int.mul_zero k).symm
  | succ m ih =>
    show sg (fun i => k * f i) m + k * f m = k * (sg f m + f m)
    rw [ih, Int.mul_add]
theorem sg_swap (f : Nat → Nat → Int) (m k : Nat) : sg (fun i => sg (fun j => f i j) k) m = sg (fun j => sg (fun i => f i j) m) k := by
  induction m with
  | zero => exact (sg_0' fun i _ => rfl).symm
  | succ m ih =>
    show sg (fun i => sg (fun j => f i j) k) m + sg (fun j => f m j) k = sg (fun j => sg (fun i => f i j) m + f m j) k
    rw [ih, sg_add]
theorem sg_split (f : Nat → Int) (m k : Nat) : sg f (m + k) = sg f m + sg (fun j => f (m + j)) k := by
  induction k with
  | zero => exact (Int.add_zero _).symm
  | succ k ih =>
    show sg f (m + k) + f (m + k) = sg f m + (sg (fun j => f (m + j)) k + f (m + k))
    rw [ih]; omega
theorem sg_2 {f : Nat → Int} {a b : Nat} (ne : a ≠ b) (m : Nat) (h : ∀ i, i < m → i ≠ a → i ≠ b → f i = 0) : sg f m = (if a < m then f a else 0) + (if b < m then f b else 0) := by
  induction m with
  | zero => rfl
  | succ m ih =>
    show sg f m + f m = _
    rw [ih fun i hi => h i (by omega)]
    by_cases ea : m = a
    · subst ea
      rw [if_neg (Nat.lt_irrefl m), if_pos (Nat.lt_succ_self m)]
      by_cases c : b < m
      · rw [if_pos c, if_pos (by omega)]; omega
      · rw [if_neg c, if_neg (by omega)]; omega
    · by_cases eb : m = b
      · subst eb
        rw [if_neg (Nat.lt_irrefl m), if_pos (Nat.lt_succ_self m)]
        by_cases c : a < m
        · rw [if_pos c, if_pos (by omega)]; omega
        · rw [if_neg c, if_neg (by omega)]; omega
      · rw [h m (by omega) ea eb]
        have c1 : (if a < m + 1 then f a else 0) = (if a < m then f a else 0) := by
          by_cases c : a < m
          · rw [if_pos c, if_pos (by omega)]
          · rw [if_neg c, if_neg (by omega)]
        have c2 : (if b < m + 1 then f b else 0) = (if b < m then f b else 0) := by
          by_cases c : b < m
          · rw [if_pos c, if_pos (by omega)]
          · rw [if_neg c, if_neg (by omega)]
        rw [c1, c2]; omega
theorem sg_1 {f : Nat → Int} {a m : Nat} (ha : a < m) (h : ∀ i, i < m → i ≠ a → f i = 0) : sg f m = f a := by
  have := sg_2 (f := f) (a := a) (b := m) (by omega) m (fun i hi x _ => h i hi x)
  rw [if_pos ha, if_neg (Nat.lt_irrefl m)] at this
  omega
/-- telescope along the sides, up to m -/
theorem tele {n : Nat} (f : Nat → Int) (m : Nat) (hm : m < n) : sg (fun j => f j - f (nx n j)) m = f 0 - f m := by
  induction m with
  | zero => show (0 : Int) = f 0 - f 0; omega
  | succ m ih =>
    show sg (fun j => f j - f (nx n j)) m + (f m - f (nx n m)) = f 0 - f (m + 1)
    rw [ih (by omega), nx_1 hm]; omega
theorem tele_n (n : Nat) (f : Nat → Int) : sg (fun j => f j - f (nx n j)) n = 0 := by
  rcases Nat.eq_zero_or_pos n with h | h
  · subst h; rfl
  · obtain ⟨m, rfl⟩ : ∃ m, n = m + 1 := ⟨n - 1, by omega⟩
    show sg (fun j => f j - f (nx (m + 1) j)) m + (f m - f (nx (m + 1) m)) = 0
    rw [tele f m (by omega), nx_0 (by omega)]; omega
theorem sg_nx (n : Nat) (f : Nat → Int) : sg (fun j => f (nx n j)) n = sg f n := by
  have := tele_n n f
  rw [sg_sub] at this
  omega
end
section
def QP (X Y : Nat → Int) (x y : Int) (j k : Nat) : Int := qq (X j - x) (Y j - y) (X k - x) (Y k - y)
def gP (X Y : Nat → Int) (x y x' y' : Int) (j : Nat) : Int := qq (X j - x) (Y j - y) (X j - x') (Y j - y')
/-- four times the winding number -/
def Hh (n : Nat) (X Y : Nat → Int) (x y : Int) : Int := sg (fun j => QP X Y x y j (nx n j)) n
def RR (n : Nat) (X Y : Nat → Int) (x y x' y' : Int) (j : Nat) : Int := QP X Y x y j (nx n j) - QP X Y x' y' j (nx n j) - (gP X Y x y x' y' j - gP X Y x y x' y' (nx n j))
def tq (n : Nat) (X Y : Nat → Int) (i : Nat) : Int := qq (X i - X (pv n i)) (Y i - Y (pv n i)) (X (nx n i) - X i) (Y (nx n i) - Y i)
/-- proper, in words of common points -/
def PM (n : Nat) (X Y : Nat → Int) : Prop := 3 ≤ n ∧ (∀ i, i < n → ¬ SP X Y i (nx n i)) ∧
  (∀ i j, i < n → j < n → j ≠ i → j ≠ nx n i → j ≠ pv n i → ¬ MT (X i) (Y i) (X (nx n i)) (Y (nx n i)) (X j) (Y j) (X (nx n j)) (Y (nx n j))) ∧
  (∀ i, i < n → ∀ a c : Int, 0 < a → 0 < c → a * (X (nx n i) - X i) = c * (X (pv n i) - X i) → a * (Y (nx n i) - Y i) = c * (Y (pv n i) - Y i) → False)
section
variable {n : Nat} {X Y : Nat → Int}
theorem hr_sum (m : Nat) (x y x' y' : Int) : sg (RR n X Y x y x' y') m = sg (fun j => QP X Y x y j (nx n j)) m - sg (fun j => QP X Y x' y' j (nx n j)) m - sg (fun j => gP X Y x y x' y' j - gP X Y x y x' y' (nx n j)) m := by
  show sg (fun j => QP X Y x y j (nx n j) - QP X Y x' y' j (nx n j) - (gP X Y x y x' y' j - gP X Y x y x' y' (nx n j))) m = _
  rw [sg_sub (fun j => QP X Y x y j (nx n j) - QP X Y x' y' j (nx n j)), sg_sub (fun j => QP X Y x y j (nx n j))]
theorem hr_all (x y x' y' : Int) : Hh n X Y x y - Hh n X Y x' y' = sg (RR n X Y x y x' y') n := by
  rw [hr_sum, tele_n]; unfold Hh; omega
theorem rr_0 {x y x' y' : Int} {j : Nat} (h : ¬ MT x y x' y' (X j) (Y j) (X (nx n j)) (Y (nx n j))) : RR n X Y x y x' y' j = 0 := by
  have := q4 h
  unfold RR QP gP
  omega
theorem qp_l {j k : Nat} : QP X Y (X j) (Y j) j k = 0 := by
  unfold QP; rw [Int.sub_self, Int.sub_self]; exact qq_0l _ _
theorem qp_r {j k : Nat} : QP X Y (X k) (Y k) j k = 0 := by
  unfold QP; rw [Int.sub_self, Int.sub_self]; exact qq_0r _ _
theorem gp_l {x' y' : Int} {j : Nat} : gP X Y (X j) (Y j) x' y' j = 0 := by
  unfold gP; rw [Int.sub_self, Int.sub_self]; exact qq_0l _ _
theorem gp_r {x y : Int} {j : Nat} : gP X Y x y (X j) (Y j) j = 0 := by
  unfold gP; rw [Int.sub_self, Int.sub_self]; exact qq_0r _ _
/-- the corner j = v' at the end of the way from (x, y) -/
theorem rr_n {x y : Int} {j : Nat} : RR n X Y x y (X j) (Y j) j = qq (X j - x) (Y j - y) (X (nx n j) - X j) (Y (nx n j) - Y j) := by
  unfold RR
  rw [qp_l, gp_r]
  unfold QP gP
  have := q3s (X j - x) (Y j - y) (X (nx n j) - X j) (Y (nx n j) - Y j)
  rw [show X j - x + (X (nx n j) - X j) = X (nx n j) - x by omega, show Y j - y + (Y (nx n j) - Y j) = Y (nx n j) - y by omega] at this
  omega
/-- the side before the corner i = v, at the beginning of the way to (x', y') -/
theorem rr_p {x' y' : Int} {i : Nat} (hi : i < n) : RR n X Y (X i) (Y i) x' y' (pv n i) = - qq (X (pv n i) - X i) (Y (pv n i) - Y i) (X i - x') (Y i - y') := by
  unfold RR
  rw [nx_pv hi, qp_r, gp_l]
  unfold QP gP
  have := q3s (X (pv n i) - X i) (Y (pv n i) - Y i) (X i - x') (Y i - y')
  rw [show X (pv n i) - X i + (X i - x') = X (pv n i) - x' by omega, show Y (pv n i) - Y i + (Y i - y') = Y (pv n i) - y' by omega] at this
  omega
theorem rr_s {i : Nat} : RR n X Y (X i) (Y i) (X (nx n i)) (Y (nx n i)) i = 0 := by
  unfold RR
  rw [qp_l, qp_r, gp_l, gp_r]; rfl
theorem nx_pv_ne {i : Nat} (hn : 3 ≤ n) (hi : i < n) : nx n i ≠ pv n i := by
  unfold nx pv; split <;> split <;> omega
theorem rr_sup (pm : PM n X Y) {i : Nat} (hi : i < n) (j : Nat) (hj : j < n) (h1 : j ≠ nx n i) (h2 : j ≠ pv n i) : RR n X Y (X i) (Y i) (X (nx n i)) (Y (nx n i)) j = 0 := by
  by_cases e : j = i
  · subst e; exact rr_s
  · exact rr_0 (pm.2.2.1 i j hi hj e h1 h2)
theorem rr_n' {i : Nat} (hi : i < n) : RR n X Y (X i) (Y i) (X (nx n i)) (Y (nx n i)) (nx n i) = tq n X Y (nx n i) := by
  rw [rr_n]; unfold tq; rw [pv_nx hi]
theorem rr_p' {i : Nat} (hi : i < n) : RR n X Y (X i) (Y i) (X (nx n i)) (Y (nx n i)) (pv n i) = - tq n X Y i := by
  rw [rr_p hi]; unfold tq
  rw [← qq_n]
  congr 2 <;> omega
theorem kc (pm : PM n X Y) {i : Nat} (hi : i < n) : Hh n X Y (X i) (Y i) + tq n X Y i = Hh n X Y (X (nx n i)) (Y (nx n i)) + tq n X Y (nx n i) := by
  have h := hr_all (n := n) (X := X) (Y := Y) (X i) (Y i) (X (nx n i)) (Y (nx n i))
  rw [sg_2 (nx_pv_ne pm.1 hi) n (fun j hj h1 h2 => rr_sup pm hi j hj h1 h2), if_pos (nx_lt hi), if_pos (pv_lt hi), rr_n' hi, rr_p' hi] at h
  omega
def KK (n : Nat) (X Y : Nat → Int) : Int := Hh n X Y (X 0) (Y 0) + tq n X Y 0
theorem kk (pm : PM n X Y) (i : Nat) (hi : i < n) : Hh n X Y (X i) (Y i) + tq n X Y i = KK n X Y := by
  induction i with
  | zero => rfl
  | succ i ih =>
    rw [← ih (by omega), kc pm (show i < n by omega), nx_1 hi]
theorem fk (pm : PM n X Y) {k : Nat} (h1 : 1 ≤ k) (hk : k + 1 < n) :
    (sg (fun j => QP X Y (X k) (Y k) j (nx n j)) n - sg (fun j => QP X Y (X k) (Y k) j (nx n j)) (k + 1)) - (sg (fun j => QP X Y (X (k + 1)) (Y (k + 1)) j (nx n j)) n - sg (fun j => QP X Y (X (k + 1)) (Y (k + 1)) j (nx n j)) (k + 1 + 1)) = tq n X Y (k + 1) - QP X Y (X 0) (Y 0) k (k + 1) := by
  have hk' : k < n := by omega
  have e1 : nx n k = k + 1 := nx_1 hk
  have e2 : pv n k = k - 1 := if_neg (by omega)
  have s1 := sg_2 (f := RR n X Y (X k) (Y k) (X (nx n k)) (Y (nx n k))) (nx_pv_ne pm.1 hk') n (fun j hj z1 z2 => rr_sup pm hk' j hj z1 z2)
  have s2 := sg_2 (f := RR n X Y (X k) (Y k) (X (nx n k)) (Y (nx n k))) (nx_pv_ne pm.1 hk') (k + 1) (fun j hj z1 z2 => rr_sup pm hk' j (by omega) z1 z2)
  rw [if_pos (nx_lt hk'), if_pos (pv_lt hk'), rr_n' hk', rr_p' hk', hr_sum, tele_n] at s1
  rw [if_neg (by omega), if_pos (by omega), rr_p' hk', hr_sum, tele _ (k + 1) hk] at s2
  rw [e1] at s1 s2
  rw [gp_r] at s2
  have s3 : sg (fun j => QP X Y (X (k + 1)) (Y (k + 1)) j (nx n j)) (k + 1 + 1) = sg (fun j => QP X Y (X (k + 1)) (Y (k + 1)) j (nx n j)) (k + 1) + QP X Y (X (k + 1)) (Y (k + 1)) (k + 1) (nx n (k + 1)) := rfl
  rw [qp_l] at s3
  have s4 : gP X Y (X k) (Y k) (X (k + 1)) (Y (k + 1)) 0 = QP X Y (X 0) (Y 0) k (k + 1) := by
    unfold gP QP
    rw [← qq_n]
    congr 1 <;> omega
  omega
theorem fk_sum (pm : PM n X Y) (k : Nat) (hk : k + 1 < n) :
    sg (fun j => QP X Y (X 1) (Y 1) j (nx n j)) n - sg (fun j => QP X Y (X 1) (Y 1) j (nx n j)) 2 = (sg (fun j => QP X Y (X (k + 1)) (Y (k + 1)) j (nx n j)) n - sg (fun j => QP X Y (X (k + 1)) (Y (k + 1)) j (nx n j)) (k + 1 + 1)) + (sg (tq n X Y) (k + 1 + 1) - sg (tq n X Y) 2) - (sg (fun j => QP X Y (X 0) (Y 0) j (nx n j)) (k + 1) - sg (fun j => QP X Y (X 0) (Y 0) j (nx n j)) 1) := by
  induction k with
  | zero =>
    have e1 : (0 : Nat) + 1 = 1 := rfl
    have e2 : (1 : Nat) + 1 = 2 := rfl
    rw [e1, e2]
    omega
  | succ k ih =>
    have h1 := ih (by omega)
    have h2 := fk pm (show 1 ≤ k + 1 by omega) hk
    have h3 : sg (tq n X Y) (k + 1 + 1 + 1) = sg (tq n X Y) (k + 1 + 1) + tq n X Y (k + 1 + 1) := rfl
    have h4 : sg (fun j => QP X Y (X 0) (Y 0) j (nx n j)) (k + 1 + 1) = sg (fun j => QP X Y (X 0) (Y 0) j (nx n j)) (k + 1) + QP X Y (X 0) (Y 0) (k + 1) (nx n (k + 1)) := rfl
    rw [nx_1 hk] at h4
    omega
theorem rot (pm : PM n X Y) : sg (tq n X Y) n = 2 * KK n X Y := by
  have h3 := pm.1
  obtain ⟨m, rfl⟩ : ∃ m, n = m + 2 := ⟨n - 2, by omega⟩
  have h := fk_sum pm m (by omega)
  have k0 := kk pm 0 (by omega)
  have k1 := kk pm 1 (by omega)
  have e1 : sg (fun j => QP X Y (X 1) (Y 1) j (nx (m + 2) j)) 2 = 0 + QP X Y (X 1) (Y 1) 0 (nx (m + 2) 0) + QP X Y (X 1) (Y 1) 1 (nx (m + 2) 1) := rfl
  rw [nx_1 (i := 0) (by omega), qp_l, qp_r] at e1
  have e2 : sg (tq (m + 2) X Y) 2 = 0 + tq (m + 2) X Y 0 + tq (m + 2) X Y 1 := rfl
  have e3 : sg (fun j => QP X Y (X 0) (Y 0) j (nx (m + 2) j)) 1 = 0 + QP X Y (X 0) (Y 0) 0 (nx (m + 2) 0) := rfl
  rw [qp_l] at e3
  have e4 : sg (fun j => QP X Y (X 0) (Y 0) j (nx (m + 2) j)) (m + 2) = sg (fun j => QP X Y (X 0) (Y 0) j (nx (m + 2) j)) (m + 1) + QP X Y (X 0) (Y 0) (m + 1) (nx (m + 2) (m + 1)) := rfl
  rw [nx_0 (by omega), qp_r] at e4
  unfold Hh at k0 k1
  have e5 : m + 1 + 1 = m + 2 := rfl
  rw [e5] at h
  omega
end
end
section
/-- the point lies on the line from i to j -/
def on (X Y : Nat → Int) (x y : Int) (i j : Nat) : Prop := ∃ s t : Int, 0 ≤ s ∧ 0 ≤ t ∧ 0 < s + t ∧ s * X i + t * X j = (s + t) * x ∧ s * Y i + t * Y j = (s + t) * y
theorem sg_mp {a : Int} (b : Int) (h : 0 < a) : Int.sign (a * b) = Int.sign b := by
  rw [Int.sign_mul, Int.sign_eq_one_of_pos h, Int.one_mul]
theorem qq_sc {a1 a2 c1 c2 p q : Int} (b1 b2 : Int) (hp : 0 < p) (hq : 0 < q) (e1 : p * a1 = q * c1) (e2 : p * a2 = q * c2) : qq a1 a2 b1 b2 = qq c1 c2 b1 b2 := by
  unfold qq
  have s1 : Int.sign a2 = Int.sign c2 := by rw [← sg_mp a2 hp, e2, sg_mp c2 hq]
  have e3 : p * (a1 * b2 - a2 * b1) = q * (c1 * b2 - c2 * b1) := by grind
  have s2 : Int.sign (a1 * b2 - a2 * b1) = Int.sign (c1 * b2 - c2 * b1) := by rw [← sg_mp _ hp, e3, sg_mp _ hq]
  rw [s1, s2]
theorem al_c {d a b : Int} (hd : 0 < d) (h : d * a = d * b) : a = b := Int.eq_of_mul_eq_mul_left (by omega) h
section
variable {n : Nat} {X Y : Nat → Int}
theorem on_two (pm : PM n X Y) {x y : Int} {i j : Nat} (hi : i < n) (hj : j < n) (h1 : j ≠ i) (h2 : j ≠ nx n i) (h3 : j ≠ pv n i) (a : on X Y x y i (nx n i)) (b : on X Y x y j (nx n j)) : False := by
  obtain ⟨s, t, hs, ht, hst, ex, ey⟩ := a
  obtain ⟨s', t', hs', ht', hst', ex', ey'⟩ := b
  refine pm.2.2.1 i j hi hj h1 h2 h3 ⟨(s' + t') * s, (s' + t') * t, (s + t) * s', (s + t) * t', Int.mul_nonneg (by omega) hs, Int.mul_nonneg (by omega) ht, Int.mul_nonneg (by omega) hs', Int.mul_nonneg (by omega) ht', ?_, ?_, ?_, ?_⟩
  · rw [← Int.mul_add]; exact Int.mul_pos hst' hst
  · rw [← Int.mul_add, ← Int.mul_add, Int.mul_comm]
  · grind
  · grind
theorem on_nx (pm : PM n X Y) {x y : Int} {i : Nat} (hi : i < n) (a : on X Y x y i (nx n i)) (b : on X Y x y (nx n i) (nx n (nx n i))) (ne : ¬ (x = X (nx n i) ∧ y = Y (nx n i))) : False := by
  obtain ⟨s, t, hs, ht, hst, ex, ey⟩ := a
  obtain ⟨s', t', hs', ht', hst', ex', ey'⟩ := b
  have s0 : 0 < s := by
    by_cases c : s = 0
    · subst c
      refine absurd ⟨?_, ?_⟩ ne
      · exact al_c (d := t) (by omega) (by grind)
      · exact al_c (d := t) (by omega) (by grind)
    · omega
  have t0 : 0 < t' := by
    by_cases c : t' = 0
    · subst c
      refine absurd ⟨?_, ?_⟩ ne
      · exact al_c (d := s') (by omega) (by grind)
      · exact al_c (d := s') (by omega) (by grind)
    · omega
  refine pm.2.2.2 (nx n i) (nx_lt hi) ((s + t) * t') ((s' + t') * s) (Int.mul_pos hst t0) (Int.mul_pos hst' s0) ?_ ?_
  · rw [pv_nx hi]; grind
  · rw [pv_nx hi]; grind
/-- on a side, no corner -/
theorem on_K (pm : PM n X Y) {x y : Int} {i : Nat} (hi : i < n) (a : on X Y x y i (nx n i)) (n1 : ¬ (x = X i ∧ y = Y i)) (n2 : ¬ (x = X (nx n i) ∧ y = Y (nx n i))) : Hh n X Y x y = KK n X Y := by
  have li := nx_lt hi
  obtain ⟨s, t, hs, ht, hst, ex, ey⟩ := a
  have s0 : 0 < s := by
    by_cases c : s = 0
    · subst c
      refine absurd ⟨?_, ?_⟩ n2
      · exact al_c (d := t) (by omega) (by grind)
      · exact al_c (d := t) (by omega) (by grind)
    · omega
  have t0 : 0 < t := by
    by_cases c : t = 0
    · subst c
      refine absurd ⟨?_, ?_⟩ n1
      · exact al_c (d := s) (by omega) (by grind)
      · exact al_c (d := s) (by omega) (by grind)
    · omega
  have h := hr_all (n := n) (X := X) (Y := Y) x y (X (nx n i)) (Y (nx n i))
  have sup : ∀ j, j < n → j ≠ nx n i → RR n X Y x y (X (nx n i)) (Y (nx n i)) j = 0 := by
    intro j hj h1
    by_cases e : j = i
    · subst e
      unfold RR
      rw [qp_r, gp_r]
      have e1 : QP X Y x y j (nx n j) = 0 := by
        unfold QP
        refine qq_d ?_
        have z : (s + t) * ((s + t) * ((X j - x) * (Y (nx n j) - y) - (Y j - y) * (X (nx n j) - x))) = (s + t) * ((s + t) * 0) := by grind
        exact al_c hst (al_c hst z)
      have e2 : gP X Y x y (X (nx n j)) (Y (nx n j)) j = 0 := by
        unfold gP
        refine qq_d ?_
        have z : (s + t) * ((X j - x) * (Y j - Y (nx n j)) - (Y j - y) * (X j - X (nx n j))) = (s + t) * 0 := by grind
        exact al_c hst z
      omega
    · refine rr_0 fun ⟨a, b, c, d, ha, hb, hc, hd, hab, e1, e2, e3⟩ => ?_
      by_cases eh : j = pv n i
      · subst eh
        rw [nx_pv hi] at e2 e3
        have al : 0 < a * t + b * (s + t) := by
          by_cases z : a = 0
          · have := Int.mul_pos (show 0 < b by omega) hst
            rw [z]; omega
          · have h1 := Int.mul_pos (show 0 < a by omega) t0
            have h2 := Int.mul_nonneg hb (show 0 ≤ s + t by omega)
            omega
        have f1 : (a * t + b * (s + t)) * (X (nx n i) - X i) = ((s + t) * c) * (X (pv n i) - X i) := by grind
        have f2 : (a * t + b * (s + t)) * (Y (nx n i) - Y i) = ((s + t) * c) * (Y (pv n i) - Y i) := by grind
        by_cases c0 : c = 0
        · rw [c0, Int.mul_zero, Int.zero_mul] at f1 f2
          refine pm.2.1 i hi ⟨?_, ?_⟩
          · rcases Int.mul_eq_zero.mp f1 with z | z
            · omega
            · omega
          · rcases Int.mul_eq_zero.mp f2 with z | z
            · omega
            · omega
        · exact pm.2.2.2 i hi _ _ al (Int.mul_pos hst (by omega)) f1 f2
      · refine pm.2.2.1 i j hi hj e h1 eh ⟨a * s, a * t + b * (s + t), (s + t) * c, (s + t) * d, Int.mul_nonneg ha hs, ?_, Int.mul_nonneg (by omega) hc, Int.mul_nonneg (by omega) hd, ?_, ?_, ?_, ?_⟩
        · have h1 := Int.mul_nonneg ha ht
          have h2 := Int.mul_nonneg hb (show 0 ≤ s + t by omega)
          omega
        · have : a * s + (a * t + b * (s + t)) = (a + b) * (s + t) := by grind
          rw [this]; exact Int.mul_pos hab hst
        · grind
        · grind
        · grind
  rw [sg_1 li (fun j hj z => sup j hj z), rr_n] at h
  have e : qq (X (nx n i) - x) (Y (nx n i) - y) (X (nx n (nx n i)) - X (nx n i)) (Y (nx n (nx n i)) - Y (nx n i)) = tq n X Y (nx n i) := by
    unfold tq
    rw [pv_nx hi]
    exact qq_sc _ _ hst s0 (by grind) (by grind)
  have k := kk pm (nx n i) li
  omega
theorem qq_L {a1 a2 b1 b2 : Int} (ha : a1 < 0) (hb : b1 < 0) : qq a1 a2 b1 b2 = Int.sign a2 - Int.sign b2 := by
  unfold qq
  rcases Int.lt_trichotomy a2 0 with h | h | h <;> rcases Int.lt_trichotomy b2 0 with h' | h' | h'
  · rw [Int.sign_eq_neg_one_of_neg h, Int.sign_eq_neg_one_of_neg h']; simp
  · subst h'
    have : a1 * 0 - a2 * b1 < 0 := by have := Int.mul_pos_of_neg_of_neg h hb; omega
    rw [Int.sign_eq_neg_one_of_neg h, Int.sign_eq_neg_one_of_neg this]; decide
  · have : a1 * b2 - a2 * b1 < 0 := by have := Int.mul_pos_of_neg_of_neg h hb; have := Int.mul_neg_of_neg_of_pos ha h'; omega
    rw [Int.sign_eq_neg_one_of_neg h, Int.sign_eq_neg_one_of_neg this, Int.sign_eq_one_of_pos h']; decide
  · subst h
    have : 0 < a1 * b2 - 0 * b1 := by have := Int.mul_pos_of_neg_of_neg ha h'; omega
    rw [Int.sign_eq_one_of_pos this, Int.sign_eq_neg_one_of_neg h']; decide
  · subst h h'; simp
  · subst h
    have : a1 * b2 - 0 * b1 < 0 := by have := Int.mul_neg_of_neg_of_pos ha h'; omega
    rw [Int.sign_eq_neg_one_of_neg this, Int.sign_eq_one_of_pos h']; decide
  · have : 0 < a1 * b2 - a2 * b1 := by have := Int.mul_pos_of_neg_of_neg ha h'; have := Int.mul_neg_of_pos_of_neg h hb; omega
    rw [Int.sign_eq_one_of_pos h, Int.sign_eq_one_of_pos this, Int.sign_eq_neg_one_of_neg h']; decide
  · subst h'
    have : 0 < a1 * 0 - a2 * b1 := by have := Int.mul_neg_of_pos_of_neg h hb; omega
    rw [Int.sign_eq_one_of_pos h, Int.sign_eq_one_of_pos this]; decide
  · rw [Int.sign_eq_one_of_pos h, Int.sign_eq_one_of_pos h']; simp
theorem H_far {x y : Int} (h : ∀ j, j < n → X j < x) : Hh n X Y x y = 0 := by
  unfold Hh
  have e : sg (fun j => QP X Y x y j (nx n j)) n = sg (fun j => (fun m => Int.sign (Y m - y)) j - (fun m => Int.sign (Y m - y)) (nx n j)) n := by
    refine sgc fun j hj => ?_
    have h1 := h j hj
    have h2 := h (nx n j) (nx_lt hj)
    exact qq_L (by omega) (by omega)
  rw [e, tele_n]
def rowI (n : Nat) (X Y : Nat → Int) (y : Int) : Prop := ∀ j, j < n → Y j ≠ Y (nx n j) → ((Y j ≤ y ∧ y ≤ Y (nx n j)) ∨ (Y (nx n j) ≤ y ∧ y ≤ Y j)) → ∃ x : Int, on X Y x y j (nx n j)
theorem on_hor {x y : Int} {i j : Nat} (h1 : Y i = y) (h2 : Y j = y) (ne : X i ≠ X j) (h : (X i ≤ x ∧ x ≤ X j) ∨ (X j ≤ x ∧ x ≤ X i)) : on X Y x y i j := by
  rcases h with ⟨a, b⟩ | ⟨a, b⟩
  · refine ⟨X j - x, x - X i, by omega, by omega, by omega, by grind, ?_⟩
    rw [h1, h2]; grind
  · refine ⟨x - X j, X i - x, by omega, by omega, by omega, by grind, ?_⟩
    rw [h1, h2]; grind
theorem al_bd {D z b : Int} (hD : 0 < D) (h : D * z = b) (h0 : 0 ≤ b) (h1 : b ≤ D) : z = 0 ∨ z = 1 := by
  have a : 0 ≤ z := al_pn hD (by omega)
  have b' : 0 ≤ 1 - z := al_pn hD (by rw [Int.mul_sub, Int.mul_one]; omega)
  omega
/-- what a step in a row meets, it meets at its ends -/
theorem mt_row (pm : PM n X Y) {x y : Int} (ri : rowI n X Y y) {j : Nat} (hj : j < n) (h : MT x y (x + 1) y (X j) (Y j) (X (nx n j)) (Y (nx n j))) : on X Y x y j (nx n j) ∨ on X Y (x + 1) y j (nx n j) := by
  obtain ⟨a, b, c, d, ha, hb, hc, hd, hab, e1, e2, e3⟩ := h
  have e3' : (c + d) * y = c * Y j + d * Y (nx n j) := by rw [← e3, ← e1]; grind
  have e2' : (c + d) * x + b = c * X j + d * X (nx n j) := by rw [← e2, ← e1]; grind
  by_cases hz : Y j = Y (nx n j)
  · have hy : Y j = y := by
      refine al_c (d := c + d) (by omega) ?_
      rw [e3', ← hz]; grind
    have ne : X j ≠ X (nx n j) := fun z => pm.2.1 j hj ⟨z, hz⟩
    have hy' : Y (nx n j) = y := by omega
    rcases Int.lt_or_le (X j) (X (nx n j)) with g | g
    · have u1 : 0 ≤ d * (X (nx n j) - X j) := Int.mul_nonneg hd (by omega)
      have u2 : 0 ≤ c * (X (nx n j) - X j) := Int.mul_nonneg hc (by omega)
      have v1 : (c + d) * (X (nx n j) - x) = b + c * (X (nx n j) - X j) := by grind
      have v2 : (c + d) * (x + 1 - X j) = (c + d - b) + d * (X (nx n j) - X j) := by grind
      have w1 := al_pn (a := c + d) (b := X (nx n j) - x) (by omega) (by omega)
      have w2 := al_pn (a := c + d) (b := x + 1 - X j) (by omega) (by omega)
      by_cases k : X j ≤ x
      · exact Or.inl (on_hor hy hy' ne (by omega))
      · exact Or.inr (on_hor hy hy' ne (by omega))
    · have u1 : 0 ≤ d * (X j - X (nx n j)) := Int.mul_nonneg hd (by omega)
      have u2 : 0 ≤ c * (X j - X (nx n j)) := Int.mul_nonneg hc (by omega)
      have v1 : (c + d) * (X j - x) = b + d * (X j - X (nx n j)) := by grind
      have v2 : (c + d) * (x + 1 - X (nx n j)) = (c + d - b) + c * (X j - X (nx n j)) := by grind
      have w1 := al_pn (a := c + d) (b := X j - x) (by omega) (by omega)
      have w2 := al_pn (a := c + d) (b := x + 1 - X (nx n j)) (by omega) (by omega)
      by_cases k : X (nx n j) ≤ x
      · exact Or.inl (on_hor hy hy' ne (by omega))
      · exact Or.inr (on_hor hy hy' ne (by omega))
  · have bet : (Y j ≤ y ∧ y ≤ Y (nx n j)) ∨ (Y (nx n j) ≤ y ∧ y ≤ Y j) := by
      have v1 : (c + d) * (y - Y j) = d * (Y (nx n j) - Y j) := by grind
      have v2 : (c + d) * (Y (nx n j) - y) = c * (Y (nx n j) - Y j) := by grind
      rcases Int.lt_or_le (Y j) (Y (nx n j)) with g | g
      · have u1 : 0 ≤ d * (Y (nx n j) - Y j) := Int.mul_nonneg hd (by omega)
        have u2 : 0 ≤ c * (Y (nx n j) - Y j) := Int.mul_nonneg hc (by omega)
        have w1 := al_pn (a := c + d) (b := y - Y j) (by omega) (by omega)
        have w2 := al_pn (a := c + d) (b := Y (nx n j) - y) (by omega) (by omega)
        omega
      · have u1 : 0 ≤ d * (Y j - Y (nx n j)) := Int.mul_nonneg hd (by omega)
        have u2 : 0 ≤ c * (Y j - Y (nx n j)) := Int.mul_nonneg hc (by omega)
        have v1' : (c + d) * (Y j - y) = d * (Y j - Y (nx n j)) := by grind
        have v2' : (c + d) * (y - Y (nx n j)) = c * (Y j - Y (nx n j)) := by grind
        have w1 := al_pn (a := c + d) (b := Y j - y) (by omega) (by omega)
        have w2 := al_pn (a := c + d) (b := y - Y (nx n j)) (by omega) (by omega)
        omega
    obtain ⟨x0, o⟩ := ri j hj hz bet
    obtain ⟨s, t, hs, ht, hst, ex, ey⟩ := id o
    have z1 : ((s + t) * c - (c + d) * s) * (Y j - Y (nx n j)) = 0 := by grind
    have z2 : (s + t) * c - (c + d) * s = 0 := by
      rcases Int.mul_eq_zero.mp z1 with z | z
      · exact z
      · omega
    have z3 : (s + t) * ((c + d) * x0) = (s + t) * (c * X j + d * X (nx n j)) := by grind
    have z4 := al_c hst z3
    have z5 : (c + d) * (x0 - x) = b := by rw [Int.mul_sub]; omega
    rcases al_bd (by omega) z5 hb (by omega) with z | z
    · left; rw [show x = x0 by omega]; exact o
    · right; rw [show x + 1 = x0 by omega]; exact o
theorem rr_p2 {x y : Int} {i : Nat} (hi : i < n) : RR n X Y x y (X i) (Y i) (pv n i) = qq (X (pv n i) - X i) (Y (pv n i) - Y i) (X i - x) (Y i - y) := by
  unfold RR
  rw [nx_pv hi, qp_r, gp_r]
  unfold QP gP
  have := q3s (X (pv n i) - X i) (Y (pv n i) - Y i) (X i - x) (Y i - y)
  rw [show X (pv n i) - X i + (X i - x) = X (pv n i) - x by omega, show Y (pv n i) - Y i + (Y i - y) = Y (pv n i) - y by omega] at this
  have h2 := qq_as (X (pv n i) - X i) (Y (pv n i) - Y i) (X (pv n i) - x) (Y (pv n i) - y)
  omega
theorem on_s {i j : Nat} : on X Y (X i) (Y i) i j := ⟨1, 0, by omega, by omega, by omega, by omega, by omega⟩
theorem on_e {i j : Nat} : on X Y (X j) (Y j) i j := ⟨0, 1, by omega, by omega, by omega, by omega, by omega⟩
/-- the three numbers at a corner that the row comes to from the left -/
theorem cor3 {p1 p2 r1 r2 : Int} (hp : p2 = 0 → 0 < p1) (hr : r2 = 0 → 0 < r1) (nf : ∀ a c : Int, 0 < a → 0 < c → a * p1 = c * r1 → a * p2 = c * r2 → False) :
    qq 1 0 p1 p2 + qq r1 r2 1 0 - qq (-r1) (-r2) p1 p2 = 2 ∨ qq 1 0 p1 p2 + qq r1 r2 1 0 - qq (-r1) (-r2) p1 p2 = -2 := by
  unfold qq
  rw [show (1 : Int) * p2 - 0 * p1 = p2 by omega, show r1 * 0 - r2 * 1 = -r2 by omega, Int.sign_neg, Int.sign_zero]
  rcases Int.lt_trichotomy p2 0 with h | h | h <;> rcases Int.lt_trichotomy r2 0 with h' | h' | h'
  · rw [Int.sign_eq_neg_one_of_neg h, Int.sign_eq_neg_one_of_neg h']
    rcases Int.lt_trichotomy (-r1 * p2 - -r2 * p1) 0 with d | d | d
    · rw [Int.sign_eq_neg_one_of_neg d]; decide
    · exact (nf (-r2) (-p2) (by omega) (by omega) (by grind) (by grind)).elim
    · rw [Int.sign_eq_one_of_pos d]; decide
  · subst h'
    have d : 0 < -r1 * p2 - -0 * p1 := by
      have := Int.mul_neg_of_pos_of_neg (hr rfl) h
      rw [Int.neg_mul]; omega
    rw [Int.sign_eq_one_of_pos d, Int.sign_eq_neg_one_of_neg h]; decide
  · rw [Int.sign_eq_neg_one_of_neg h, Int.sign_eq_one_of_pos h']
    right
    simp
  · subst h
    have d : -r1 * 0 - -r2 * p1 < 0 := by
      have := Int.mul_neg_of_neg_of_pos h' (hp rfl)
      rw [Int.neg_mul r2]; omega
    rw [Int.sign_eq_neg_one_of_neg d, Int.sign_eq_neg_one_of_neg h']; decide
  · subst h h'
    exact (nf r1 p1 (hr rfl) (hp rfl) (by grind) (by grind)).elim
  · subst h
    have d : 0 < -r1 * 0 - -r2 * p1 := by
      have := Int.mul_pos h' (hp rfl)
      rw [Int.neg_mul r2]; omega
    rw [Int.sign_eq_one_of_pos d, Int.sign_eq_one_of_pos h']; decide
  · rw [Int.sign_eq_one_of_pos h, Int.sign_eq_neg_one_of_neg h']
    left
    simp
  · subst h'
    have d : -r1 * p2 - -0 * p1 < 0 := by
      have := Int.mul_pos (hr rfl) h
      rw [Int.neg_mul]; omega
    rw [Int.sign_eq_neg_one_of_neg d, Int.sign_eq_one_of_pos h]; decide
  · rw [Int.sign_eq_one_of_pos h, Int.sign_eq_one_of_pos h']
    rcases Int.lt_trichotomy (-r1 * p2 - -r2 * p1) 0 with d | d | d
    · rw [Int.sign_eq_neg_one_of_neg d]; decide
    · exact (nf r2 p2 (by omega) (by omega) (by grind) (by grind)).elim
    · rw [Int.sign_eq_one_of_pos d]; decide
theorem on_left {x y : Int} {i j : Nat} (h1 : X i = x + 1) (h2 : Y i = y) (h3 : Y j = y) (h4 : X j ≤ x) : on X Y x y i j := on_hor h2 h3 (by omega) (by omega)
theorem st_cor (pm : PM n X Y) {x y : Int} (ri : rowI n X Y y) (off : ∀ j, j < n → ¬ on X Y x y j (nx n j)) {m : Nat} (hm : m < n) (ex : X m = x + 1) (ey : Y m = y) : Hh n X Y x y = KK n X Y + 2 ∨ Hh n X Y x y = KK n X Y - 2 := by
  have lm := nx_lt hm
  have lh := pv_lt hm
  have h := hr_all (n := n) (X := X) (Y := Y) x y (X m) (Y m)
  have sup : ∀ j, j < n → j ≠ m → j ≠ pv n m → RR n X Y x y (X m) (Y m) j = 0 := by
    intro j hj h1 h2
    refine rr_0 fun z => ?_
    rw [ex, ey] at z
    rcases mt_row pm ri hj z with o | o
    · exact off j hj o
    · rw [← ex, ← ey] at o
      by_cases e : j = nx n m
      · subst e
        exact on_nx pm hm on_s o fun z => pm.2.1 m hm ⟨z.1, z.2⟩
      · exact on_two pm hm hj h1 e h2 on_s o
  rw [sg_2 (a := m) (b := pv n m) (fun e => pv_ne hm (by have := pm.1; omega) e.symm) n (fun j hj z1 z2 => sup j hj z1 z2), if_pos hm, if_pos lh, rr_n, rr_p2 hm, ex, ey, show x + 1 - x = 1 by omega, Int.sub_self] at h
  have k := kk pm m hm
  rw [ex, ey] at k
  have t : tq n X Y m = qq (-(X (pv n m) - (x + 1))) (-(Y (pv n m) - y)) (X (nx n m) - (x + 1)) (Y (nx n m) - y) := by
    unfold tq
    rw [ex, ey]
    congr 1 <;> omega
  have c := cor3 (p1 := X (nx n m) - (x + 1)) (p2 := Y (nx n m) - y) (r1 := X (pv n m) - (x + 1)) (r2 := Y (pv n m) - y) (fun z => by
      by_cases q : X (nx n m) ≤ x
      · exact absurd (on_left ex ey (by omega) q) (off m hm)
      · have := pm.2.1 m hm
        by_cases q2 : X (nx n m) = x + 1
        · exact absurd ⟨by omega, by omega⟩ this
        · omega) (fun z => by
      by_cases q : X (pv n m) ≤ x
      · have o : on X Y x y (pv n m) (nx n (pv n m)) := by
          rw [nx_pv hm]; exact on_hor (by omega) ey (by omega) (by omega)
        exact absurd o (off _ lh)
      · have := pm.2.1 (pv n m) lh
        rw [nx_pv hm] at this
        by_cases q2 : X (pv n m) = x + 1
        · exact absurd ⟨by omega, by omega⟩ this
        · omega) (fun a c ha hc z1 z2 => pm.2.2.2 m hm a c ha hc (by rw [ex]; exact z1) (by rw [ey]; exact z2))
  rw [t] at k
  omega
theorem st_mid (pm : PM n X Y) {x y : Int} (ri : rowI n X Y y) (off : ∀ j, j < n → ¬ on X Y x y j (nx n j)) {i : Nat} (hi : i < n) (o : on X Y (x + 1) y i (nx n i)) (n1 : ¬ (x + 1 = X i ∧ y = Y i)) (n2 : ¬ (x + 1 = X (nx n i) ∧ y = Y (nx n i))) : Hh n X Y x y = KK n X Y + 2 ∨ Hh n X Y x y = KK n X Y - 2 := by
  have li := nx_lt hi
  have lh := pv_lt hi
  have k := on_K pm hi o n1 n2
  have h := hr_all (n := n) (X := X) (Y := Y) x y (x + 1) y
  have sup : ∀ j, j < n → j ≠ i → RR n X Y x y (x + 1) y j = 0 := by
    intro j hj h1
    refine rr_0 fun z => ?_
    rcases mt_row pm ri hj z with o' | o'
    · exact off j hj o'
    · by_cases e : j = nx n i
      · subst e
        exact on_nx pm hi o o' n2
      · by_cases e2 : j = pv n i
        · subst e2
          refine on_nx pm lh o' ?_ ?_
          · rw [nx_pv hi]; exact o
          · rw [nx_pv hi]; exact n1
        · exact on_two pm hi hj h1 e e2 o o'
  rw [sg_1 hi (fun j hj z => sup j hj z), k] at h
  obtain ⟨s, t, hs, ht, hst, ex, ey⟩ := id o
  have s0 : 0 < s := by
    by_cases c : s = 0
    · subst c
      refine absurd ⟨?_, ?_⟩ n2
      · exact al_c (d := t) (by omega) (by grind)
      · exact al_c (d := t) (by omega) (by grind)
    · omega
  have t0 : 0 < t := by
    by_cases c : t = 0
    · subst c
      refine absurd ⟨?_, ?_⟩ n1
      · exact al_c (d := s) (by omega) (by grind)
      · exact al_c (d := s) (by omega) (by grind)
    · omega
  have ey' : s * (Y i - y) = - (t * (Y (nx n i) - y)) := by grind
  have ex' : s * (X i - (x + 1)) = - (t * (X (nx n i) - (x + 1))) := by grind
  have det : (X i - (x + 1)) * (Y (nx n i) - y) - (Y i - y) * (X (nx n i) - (x + 1)) = 0 := by
    refine al_c s0 ?_
    grind
  have e1 : QP X Y (x + 1) y i (nx n i) = 0 := qq_d det
  have det2 : (X i - x) * (Y (nx n i) - y) - (Y i - y) * (X (nx n i) - x) = Y (nx n i) - Y i := by grind
  have hR : RR n X Y x y (x + 1) y i = 2 ∨ RR n X Y x y (x + 1) y i = -2 := by
    unfold RR
    rw [e1]
    unfold QP gP qq
    rw [det2, Int.sub_self, Int.sub_self]
    rcases Int.lt_trichotomy (Y i) y with g | g | g
    · have : 0 < t * (Y (nx n i) - y) := by
        have := Int.mul_pos s0 (show 0 < y - Y i by omega)
        have e : s * (y - Y i) = -(s * (Y i - y)) := by grind
        omega
      have g' : 0 < Y (nx n i) - y := al_pq (b := t) (by rw [Int.mul_comm]; exact this) (by omega)
      rw [Int.sign_eq_neg_one_of_neg (show Y i - y < 0 by omega), Int.sign_eq_one_of_pos g', Int.sign_eq_one_of_pos (show 0 < Y (nx n i) - Y i by omega)]
      left
      simp
    · exfalso
      have z : t * (Y (nx n i) - y) = 0 := by rw [g, Int.sub_self, Int.mul_zero] at ey'; omega
      have g' : Y (nx n i) = y := by
        rcases Int.mul_eq_zero.mp z with w | w
        · omega
        · omega
      have ne : X i ≠ X (nx n i) := fun w => pm.2.1 i hi ⟨w, by omega⟩
      refine off i hi (on_hor g g' ne ?_)
      have w1 : X i ≠ x + 1 := fun w => n1 ⟨w.symm, g.symm⟩
      have w2 : X (nx n i) ≠ x + 1 := fun w => n2 ⟨w.symm, g'.symm⟩
      rcases Int.lt_or_le (X i) (x + 1) with q | q
      · have : 0 < t * (X (nx n i) - (x + 1)) := by
          have := Int.mul_pos s0 (show 0 < x + 1 - X i by omega)
          have e : s * (x + 1 - X i) = -(s * (X i - (x + 1))) := by grind
          omega
        have := al_pq (a := X (nx n i) - (x + 1)) (b := t) (by rw [Int.mul_comm]; exact this) (by omega)
        omega
      · have : 0 < t * (x + 1 - X (nx n i)) := by
          have := Int.mul_pos s0 (show 0 < X i - (x + 1) by omega)
          have e : t * (x + 1 - X (nx n i)) = -(t * (X (nx n i) - (x + 1))) := by grind
          omega
        have := al_pq (a := x + 1 - X (nx n i)) (b := t) (by rw [Int.mul_comm]; exact this) (by omega)
        omega
    · have : 0 < t * (y - Y (nx n i)) := by
        have := Int.mul_pos s0 (show 0 < Y i - y by omega)
        have e : t * (y - Y (nx n i)) = -(t * (Y (nx n i) - y)) := by grind
        omega
      have g' : 0 < y - Y (nx n i) := al_pq (b := t) (by rw [Int.mul_comm]; exact this) (by omega)
      rw [Int.sign_eq_one_of_pos (show 0 < Y i - y by omega), Int.sign_eq_neg_one_of_neg (show Y (nx n i) - y < 0 by omega), Int.sign_eq_neg_one_of_neg (show Y (nx n i) - Y i < 0 by omega)]
      right
      simp
  omega
theorem walk (pm : PM n X Y) {y M : Int} (ri : rowI n X Y y) (hM : ∀ j, j < n → X j < M) (k : Nat) : ∀ x : Int, x = M - k → (∀ j, j < n → ¬ on X Y x y j (nx n j)) → Hh n X Y x y = 0 ∨ Hh n X Y x y = KK n X Y + 2 ∨ Hh n X Y x y = KK n X Y - 2 := by
  induction k with
  | zero =>
    intro x e off
    exact Or.inl (H_far fun j hj => by have := hM j hj; omega)
  | succ k ih =>
    intro x e off
    by_cases c : ∃ i, i < n ∧ on X Y (x + 1) y i (nx n i)
    · obtain ⟨i, hi, o⟩ := c
      by_cases n1 : x + 1 = X i ∧ y = Y i
      · exact Or.inr (st_cor pm ri off hi n1.1.symm n1.2.symm)
      · by_cases n2 : x + 1 = X (nx n i) ∧ y = Y (nx n i)
        · exact Or.inr (st_cor pm ri off (nx_lt hi) n2.1.symm n2.2.symm)
        · exact Or.inr (st_mid pm ri off hi o n1 n2)
    · have h := hr_all (n := n) (X := X) (Y := Y) x y (x + 1) y
      rw [sg_0' fun j hj => rr_0 fun z => by
        rcases mt_row pm ri hj z with o | o
        · exact off j hj o
        · exact c ⟨j, hj, o⟩] at h
      have := ih (x + 1) (by omega) fun j hj o => c ⟨j, hj, o⟩
      omega
end
end
section
theorem qq_U {a1 a2 b1 b2 : Int} (ha : 0 < a2 ∨ (a2 = 0 ∧ 0 < a1)) (hb : 0 < b2 ∨ (b2 = 0 ∧ 0 < b1)) : qq a1 a2 b1 b2 = Int.sign b2 - Int.sign a2 := by
  unfold qq
  rcases ha with h | ⟨h, h1⟩ <;> rcases hb with h' | ⟨h', h1'⟩
  · rw [Int.sign_eq_one_of_pos h, Int.sign_eq_one_of_pos h']; simp
  · subst h'
    have : a1 * 0 - a2 * b1 < 0 := by have := Int.mul_pos h h1'; omega
    rw [Int.sign_eq_one_of_pos h, Int.sign_eq_neg_one_of_neg this]; decide
  · subst h
    have : 0 < a1 * b2 - 0 * b1 := by have := Int.mul_pos h1 h'; omega
    rw [Int.sign_eq_one_of_pos h', Int.sign_eq_one_of_pos this]; decide
  · subst h h'; simp
theorem low3 {p1 p2 r1 r2 : Int} (hp : 0 < p2 ∨ (p2 = 0 ∧ 0 < p1)) (hr : 0 < r2 ∨ (r2 = 0 ∧ 0 < r1)) (nf : ∀ a c : Int, 0 < a → 0 < c → a * p1 = c * r1 → a * p2 = c * r2 → False) :
    (0 < -r1 * p2 - -r2 * p1 ∧ Int.sign r2 - Int.sign p2 + qq (-r1) (-r2) p1 p2 = 2) ∨ (-r1 * p2 - -r2 * p1 < 0 ∧ Int.sign r2 - Int.sign p2 + qq (-r1) (-r2) p1 p2 = -2) := by
  unfold qq
  rw [Int.sign_neg]
  rcases hp with h | ⟨h, h1⟩ <;> rcases hr with h' | ⟨h', h1'⟩
  · rw [Int.sign_eq_one_of_pos h, Int.sign_eq_one_of_pos h']
    rcases Int.lt_trichotomy (-r1 * p2 - -r2 * p1) 0 with d | d | d
    · right; rw [Int.sign_eq_neg_one_of_neg d]; exact ⟨d, by decide⟩
    · exact (nf r2 p2 h' h (by grind) (by grind)).elim
    · left; rw [Int.sign_eq_one_of_pos d]; exact ⟨d, by decide⟩
  · subst h'
    have d : -r1 * p2 - -0 * p1 < 0 := by
      have := Int.mul_pos h1' h
      rw [Int.neg_mul]; omega
    right
    rw [Int.sign_eq_neg_one_of_neg d, Int.sign_eq_one_of_pos h]; exact ⟨d, by decide⟩
  · subst h
    have d : 0 < -r1 * 0 - -r2 * p1 := by
      have := Int.mul_pos h' h1
      rw [Int.neg_mul r2]; omega
    left
    rw [Int.sign_eq_one_of_pos d, Int.sign_eq_one_of_pos h']; exact ⟨d, by decide⟩
  · subst h h'
    exact (nf r1 p1 h1' h1 (by grind) (by grind)).elim
section
variable {n : Nat} {X Y : Nat → Int}
theorem k_low (pm : PM n X Y) {m : Nat} (hm : m < n) (hl : ∀ j, j < n → lx X Y m j) (hd : ∀ j, j < n → j ≠ m → ¬ SP X Y m j) :
    (0 < tn X Y (pv n m) m (nx n m) ∧ KK n X Y = 2) ∨ (tn X Y (pv n m) m (nx n m) < 0 ∧ KK n X Y = -2) := by
  have lm := nx_lt hm
  have lh := pv_lt hm
  have h3 := pm.1
  have half : ∀ j, j < n → j ≠ m → (0 < Y j - Y m ∨ (Y j - Y m = 0 ∧ 0 < X j - X m)) := by
    intro j hj ne
    have h1 := hl j hj
    have h2 := hd j hj ne
    unfold lx at h1
    unfold SP at h2
    omega
  have hH : Hh n X Y (X m) (Y m) = Int.sign (Y (pv n m) - Y m) - Int.sign (Y (nx n m) - Y m) := by
    have t := tele_n n (fun j => Int.sign (Y j - Y m))
    have e : sg (fun j => QP X Y (X m) (Y m) j (nx n j) + (Int.sign (Y j - Y m) - Int.sign (Y (nx n j) - Y m))) n = Int.sign (Y (pv n m) - Y m) - Int.sign (Y (nx n m) - Y m) := by
      rw [sg_2 (a := m) (b := pv n m) (fun e => pv_ne hm (by omega) e.symm) n (fun j hj h1 h2 => ?_), if_pos hm, if_pos lh]
      · show QP X Y (X m) (Y m) m (nx n m) + (Int.sign (Y m - Y m) - Int.sign (Y (nx n m) - Y m)) + (QP X Y (X m) (Y m) (pv n m) (nx n (pv n m)) + (Int.sign (Y (pv n m) - Y m) - Int.sign (Y (nx n (pv n m)) - Y m))) = _
        rw [nx_pv hm, qp_l, qp_r, Int.sub_self, Int.sign_zero]; omega
      · have h4 : nx n j ≠ m := fun z => h2 (by rw [← z, pv_nx hj])
        have := qq_U (half j hj h1) (half (nx n j) (nx_lt hj) h4)
        show QP X Y (X m) (Y m) j (nx n j) + (Int.sign (Y j - Y m) - Int.sign (Y (nx n j) - Y m)) = 0
        unfold QP
        omega
    rw [sg_add] at e
    unfold Hh
    omega
  have k := kk pm m hm
  have c := low3 (half (nx n m) lm (nx_ne hm (by omega))) (half (pv n m) lh (pv_ne hm (by omega))) (fun a c ha hc z1 z2 => pm.2.2.2 m hm a c ha hc z1 z2)
  have t : tq n X Y m = qq (-(X (pv n m) - X m)) (-(Y (pv n m) - Y m)) (X (nx n m) - X m) (Y (nx n m) - Y m) := by
    unfold tq
    congr 1 <;> omega
  have d : tn X Y (pv n m) m (nx n m) = -(X (pv n m) - X m) * (Y (nx n m) - Y m) - -(Y (pv n m) - Y m) * (X (nx n m) - X m) := by unfold tn; grind
  rw [hH, t] at k
  rw [d]
  omega
end
/-- where on the way round a vector points -/
def th (a1 a2 : Int) : Int := if 0 < a2 then 1 else if a2 < 0 then 3 else if a1 < 0 then 2 else 4
/-- the crossing of the ray to the right, with its sign -/
def cI (a1 a2 b1 b2 : Int) : Int := if (0 < a2 ↔ 0 < b2) then 0 else if (0 < a1 * b2 - a2 * b1 ↔ 0 < b2) then (if 0 < b2 then 1 else -1) else 0
theorem th4 {a1 a2 b1 b2 : Int} (h : ¬ (a1 * b2 - a2 * b1 = 0 ∧ a1 * b1 + a2 * b2 ≤ 0)) : qq a1 a2 b1 b2 = th b1 b2 - th a1 a2 + 4 * cI a1 a2 b1 b2 := by
  unfold qq
  rcases Int.lt_trichotomy a2 0 with ha | ha | ha <;> rcases Int.lt_trichotomy b2 0 with hb | hb | hb
  · have t1 : th a1 a2 = 3 := by unfold th; rw [if_neg (by omega), if_pos ha]
    have t2 : th b1 b2 = 3 := by unfold th; rw [if_neg (by omega), if_pos hb]
    have c : cI a1 a2 b1 b2 = 0 := by unfold cI; rw [if_pos (by omega)]
    rw [t1, t2, c, Int.sign_eq_neg_one_of_neg ha, Int.sign_eq_neg_one_of_neg hb]; simp
  · subst hb
    have t1 : th a1 a2 = 3 := by unfold th; rw [if_neg (by omega), if_pos ha]
    have c : cI a1 a2 b1 0 = 0 := by unfold cI; rw [if_pos (by omega)]
    rcases Int.lt_trichotomy b1 0 with q | q | q
    · have t2 : th b1 0 = 2 := by unfold th; rw [if_neg (by omega), if_neg (by omega), if_pos q]
      have d : a1 * 0 - a2 * b1 < 0 := by have := Int.mul_pos_of_neg_of_neg ha q; omega
      rw [t1, t2, c, Int.sign_eq_neg_one_of_neg ha, Int.sign_eq_neg_one_of_neg d]; decide
    · subst q; exact absurd ⟨by omega, by omega⟩ h
    · have t2 : th b1 0 = 4 := by unfold th; rw [if_neg (by omega), if_neg (by omega), if_neg (by omega)]
      have d : 0 < a1 * 0 - a2 * b1 := by have := Int.mul_neg_of_neg_of_pos ha q; omega
      rw [t1, t2, c, Int.sign_eq_neg_one_of_neg ha, Int.sign_eq_one_of_pos d]; decide
  · have t1 : th a1 a2 = 3 := by unfold th; rw [if_neg (by omega), if_pos ha]
    have t2 : th b1 b2 = 1 := by unfold th; rw [if_pos hb]
    rcases Int.lt_trichotomy (a1 * b2 - a2 * b1) 0 with d | d | d
    · have c : cI a1 a2 b1 b2 = 0 := by unfold cI; rw [if_neg (by omega), if_neg (by omega)]
      rw [t1, t2, c, Int.sign_eq_neg_one_of_neg ha, Int.sign_eq_neg_one_of_neg d, Int.sign_eq_one_of_pos hb]; decide
    · exfalso
      refine h ⟨d, ?_⟩
      have e : (-a2) * (a1 * b1 + a2 * b2) = -(b2 * (a1 * a1 + a2 * a2)) := by grind
      have q1 := al_sq a1
      have q2 := al_sq a2
      have := Int.mul_nonneg (show 0 ≤ b2 by omega) (show 0 ≤ a1 * a1 + a2 * a2 by omega)
      exact al_pp (a := -a2) (by omega) (by rw [e]; omega)
    · have c : cI a1 a2 b1 b2 = 1 := by unfold cI; rw [if_neg (by omega), if_pos (by omega), if_pos hb]
      rw [t1, t2, c, Int.sign_eq_neg_one_of_neg ha, Int.sign_eq_one_of_pos d, Int.sign_eq_one_of_pos hb]; decide
  · subst ha
    have t2 : th b1 b2 = 3 := by unfold th; rw [if_neg (by omega), if_pos hb]
    have c : cI a1 0 b1 b2 = 0 := by unfold cI; rw [if_pos (by omega)]
    rcases Int.lt_trichotomy a1 0 with q | q | q
    · have t1 : th a1 0 = 2 := by unfold th; rw [if_neg (by omega), if_neg (by omega), if_pos q]
      have d : 0 < a1 * b2 - 0 * b1 := by have := Int.mul_pos_of_neg_of_neg q hb; omega
      rw [t1, t2, c, Int.sign_eq_neg_one_of_neg hb, Int.sign_eq_one_of_pos d]; decide
    · subst q; exact absurd ⟨by omega, by omega⟩ h
    · have t1 : th a1 0 = 4 := by unfold th; rw [if_neg (by omega), if_neg (by omega), if_neg (by omega)]
      have d : a1 * b2 - 0 * b1 < 0 := by have := Int.mul_neg_of_pos_of_neg q hb; omega
      rw [t1, t2, c, Int.sign_eq_neg_one_of_neg hb, Int.sign_eq_neg_one_of_neg d]; decide
  · subst ha hb
    have c : cI a1 0 b1 0 = 0 := by unfold cI; rw [if_pos (by omega)]
    have t : th b1 0 = th a1 0 := by
      have : ¬ a1 * b1 ≤ 0 := fun z => h ⟨by omega, by omega⟩
      show (if b1 < 0 then (2 : Int) else 4) = (if a1 < 0 then 2 else 4)
      rcases Int.lt_trichotomy a1 0 with q | q | q
      · have : b1 < 0 := by
          by_cases w : b1 < 0
          · exact w
          · have := Int.mul_nonneg (show 0 ≤ -a1 by omega) (show 0 ≤ b1 by omega)
            rw [Int.neg_mul] at this; omega
        rw [if_pos q, if_pos this]
      · subst q; omega
      · have : ¬ b1 < 0 := fun w => by have := Int.mul_neg_of_pos_of_neg q w; omega
        rw [if_neg (show ¬ a1 < 0 by omega), if_neg this]
    rw [t, c]; simp
  · subst ha
    have t2 : th b1 b2 = 1 := by unfold th; rw [if_pos hb]
    rcases Int.lt_trichotomy a1 0 with q | q | q
    · have t1 : th a1 0 = 2 := by unfold th; rw [if_neg (by omega), if_neg (by omega), if_pos q]
      have d : a1 * b2 - 0 * b1 < 0 := by have := Int.mul_neg_of_neg_of_pos q hb; omega
      have c : cI a1 0 b1 b2 = 0 := by unfold cI; rw [if_neg (by omega), if_neg (by omega)]
      rw [t1, t2, c, Int.sign_eq_one_of_pos hb, Int.sign_eq_neg_one_of_neg d]; decide
    · subst q; exact absurd ⟨by omega, by omega⟩ h
    · have t1 : th a1 0 = 4 := by unfold th; rw [if_neg (by omega), if_neg (by omega), if_neg (by omega)]
      have d : 0 < a1 * b2 - 0 * b1 := by have := Int.mul_pos q hb; omega
      have c : cI a1 0 b1 b2 = 1 := by unfold cI; rw [if_neg (by omega), if_pos (by omega), if_pos hb]
      rw [t1, t2, c, Int.sign_eq_one_of_pos hb, Int.sign_eq_one_of_pos d]; decide
  · have t1 : th a1 a2 = 1 := by unfold th; rw [if_pos ha]
    have t2 : th b1 b2 = 3 := by unfold th; rw [if_neg (by omega), if_pos hb]
    rcases Int.lt_trichotomy (a1 * b2 - a2 * b1) 0 with d | d | d
    · have c : cI a1 a2 b1 b2 = -1 := by unfold cI; rw [if_neg (by omega), if_pos (by omega), if_neg (by omega)]
      rw [t1, t2, c, Int.sign_eq_one_of_pos ha, Int.sign_eq_neg_one_of_neg d, Int.sign_eq_neg_one_of_neg hb]; decide
    · exfalso
      refine h ⟨d, ?_⟩
      have e : a2 * (a1 * b1 + a2 * b2) = -((-b2) * (a1 * a1 + a2 * a2)) := by grind
      have q1 := al_sq a1
      have q2 := al_sq a2
      have := Int.mul_nonneg (show 0 ≤ -b2 by omega) (show 0 ≤ a1 * a1 + a2 * a2 by omega)
      exact al_pp (a := a2) (by omega) (by rw [e]; omega)
    · have c : cI a1 a2 b1 b2 = 0 := by unfold cI; rw [if_neg (by omega), if_neg (by omega)]
      rw [t1, t2, c, Int.sign_eq_one_of_pos ha, Int.sign_eq_one_of_pos d, Int.sign_eq_neg_one_of_neg hb]; decide
  · subst hb
    have t1 : th a1 a2 = 1 := by unfold th; rw [if_pos ha]
    rcases Int.lt_trichotomy b1 0 with q | q | q
    · have t2 : th b1 0 = 2 := by unfold th; rw [if_neg (by omega), if_neg (by omega), if_pos q]
      have d : 0 < a1 * 0 - a2 * b1 := by have := Int.mul_neg_of_pos_of_neg ha q; omega
      have c : cI a1 a2 b1 0 = 0 := by unfold cI; rw [if_neg (by omega), if_neg (by omega)]
      rw [t1, t2, c, Int.sign_eq_one_of_pos ha, Int.sign_eq_one_of_pos d]; decide
    · subst q; exact absurd ⟨by omega, by omega⟩ h
    · have t2 : th b1 0 = 4 := by unfold th; rw [if_neg (by omega), if_neg (by omega), if_neg (by omega)]
      have d : a1 * 0 - a2 * b1 < 0 := by have := Int.mul_pos ha q; omega
      have c : cI a1 a2 b1 0 = -1 := by unfold cI; rw [if_neg (by omega), if_pos (by omega), if_neg (by omega)]
      rw [t1, t2, c, Int.sign_eq_one_of_pos ha, Int.sign_eq_neg_one_of_neg d]; decide
  · have t1 : th a1 a2 = 1 := by unfold th; rw [if_pos ha]
    have t2 : th b1 b2 = 1 := by unfold th; rw [if_pos hb]
    have c : cI a1 a2 b1 b2 = 0 := by unfold cI; rw [if_pos (by omega)]
    rw [t1, t2, c, Int.sign_eq_one_of_pos ha, Int.sign_eq_one_of_pos hb]; simp
section
variable {n : Nat} {X Y : Nat → Int}
theorem oe_2 {x y : Int} {i j : Nat} : oE X Y (2 * x) (2 * y) i j ↔ ((X i - x) * (Y j - y) - (Y i - y) * (X j - x) = 0 ∧ (X i - x) * (X j - x) + (Y i - y) * (Y j - y) ≤ 0) := by
  unfold oE
  rw [show (2 * X i - 2 * x) * (2 * Y j - 2 * y) - (2 * Y i - 2 * y) * (2 * X j - 2 * x) = 4 * ((X i - x) * (Y j - y) - (Y i - y) * (X j - x)) by grind, show (2 * X i - 2 * x) * (2 * X j - 2 * x) + (2 * Y i - 2 * y) * (2 * Y j - 2 * y) = 4 * ((X i - x) * (X j - x) + (Y i - y) * (Y j - y)) by grind]
  omega
theorem cr_2 {x y : Int} {i j : Nat} : cR X Y (2 * x) (2 * y) i j ↔ (¬ (0 < Y i - y ↔ 0 < Y j - y) ∧ (0 < (X i - x) * (Y j - y) - (Y i - y) * (X j - x) ↔ 0 < Y j - y)) := by
  unfold cR
  rw [show (2 * X i - 2 * x) * (2 * Y j - 2 * y) - (2 * Y i - 2 * y) * (2 * X j - 2 * x) = 4 * ((X i - x) * (Y j - y) - (Y i - y) * (X j - x)) by grind]
  omega
theorem ci_ind {x y : Int} {i j : Nat} : (cI (X i - x) (Y i - y) (X j - x) (Y j - y) - (ind (cR X Y (2 * x) (2 * y) i j) : Int)) % 2 = 0 := by
  by_cases c : cR X Y (2 * x) (2 * y) i j
  · rw [ind_t c]
    rw [cr_2] at c
    unfold cI
    rw [if_neg c.1, if_pos c.2]
    split <;> decide
  · rw [ind_f c]
    rw [cr_2] at c
    have : cI (X i - x) (Y i - y) (X j - x) (Y j - y) = 0 := by
      unfold cI
      by_cases q : 0 < Y i - y ↔ 0 < Y j - y
      · rw [if_pos q]
      · rw [if_neg q, if_neg (fun w => c ⟨q, w⟩)]
    rw [this]; decide
theorem pc_par {x y : Int} (m : Nat) : (sg (fun j => cI (X j - x) (Y j - y) (X (nx n j) - x) (Y (nx n j) - y)) m - (pc n X Y (2 * x) (2 * y) m : Int)) % 2 = 0 := by
  induction m with
  | zero => rfl
  | succ m ih =>
    have := ci_ind (X := X) (Y := Y) (x := x) (y := y) (i := m) (j := nx n m)
    show (sg (fun j => cI (X j - x) (Y j - y) (X (nx n j) - x) (Y (nx n j) - y)) m + cI (X m - x) (Y m - y) (X (nx n m) - x) (Y (nx n m) - y) - ((pc n X Y (2 * x) (2 * y) m + ind (cR X Y (2 * x) (2 * y) m (nx n m)) : Nat) : Int)) % 2 = 0
    omega
/-- off the polygon: four times the signed crossings, their number odd inside -/
theorem H_par {x y : Int} (off : ∀ j, j < n → ¬ oE X Y (2 * x) (2 * y) j (nx n j)) : ∃ C : Int, Hh n X Y x y = 4 * C ∧ (C - (pc n X Y (2 * x) (2 * y) n : Int)) % 2 = 0 := by
  refine ⟨_, ?_, pc_par n⟩
  unfold Hh
  have e : sg (fun j => QP X Y x y j (nx n j)) n = sg (fun j => 4 * cI (X j - x) (Y j - y) (X (nx n j) - x) (Y (nx n j) - y) - ((fun m => th (X m - x) (Y m - y)) j - (fun m => th (X m - x) (Y m - y)) (nx n j))) n := by
    refine sgc fun j hj => ?_
    have := th4 (a1 := X j - x) (a2 := Y j - y) (b1 := X (nx n j) - x) (b2 := Y (nx n j) - y) (fun z => off j hj (oe_2.mpr z))
    show QP X Y x y j (nx n j) = 4 * cI (X j - x) (Y j - y) (X (nx n j) - x) (Y (nx n j) - y) - (th (X j - x) (Y j - y) - th (X (nx n j) - x) (Y (nx n j) - y))
    unfold QP
    omega
  rw [e, sg_sub, tele_n, sg_mul]; omega
end
end
section
theorem sg_rows (f : Nat → Int) (m : Nat) : sg f (16 * m) = sg (fun y => sg (fun x => f (16 * y + x)) 16) m := by
  induction m with
  | zero => rfl
  | succ m ih =>
    rw [Nat.mul_succ, sg_split, ih]
    rfl
theorem row_cl : ∀ d : Nat, d < 16 → 0 < d → ∀ N : Nat, N < 15 * d + 1 → sg (fun x => Int.sign ((N : Int) - (x : Int) * (d : Int))) 16 = (((N + d - 1) / d + N / d : Nat) : Int) - 15 := by decide +kernel
def wN (j d : Nat) : Int := if j = 0 ∨ j = d then 1 else 2
theorem col_cl : ∀ d : Nat, d < 16 → 0 < d → ∀ a : Nat, a < 16 → ∀ b : Nat, b < 16 → sg (fun j => wN j d * ((((a * (d - j) + b * j + d - 1) / d + (a * (d - j) + b * j) / d : Nat) : Int) - 15)) (d + 1) = 2 * (d : Int) * ((a : Int) + (b : Int) - 15) := by decide +kernel
end
section
def lrow (a1 a2 b1 b2 : Int) (y : Nat) : Int := sg (fun x => qq (a1 - (x : Int)) (a2 - (y : Int)) (b1 - (x : Int)) (b2 - (y : Int))) 16
def lt2 (a1 a2 b1 b2 : Int) : Int := sg (lrow a1 a2 b1 b2) 16
theorem qq_s {a1 a2 b1 b2 : Int} (h : Int.sign a2 = Int.sign b2) : qq a1 a2 b1 b2 = 0 := by
  unfold qq; rw [h, Int.sub_self]; simp
theorem lat_row {a b d j : Nat} (ha : a < 16) (hb : b < 16) (hd : 0 < d) (hd2 : d < 16) (hj : j ≤ d) (y y' : Int) (e1 : y = -(j : Int)) (e2 : y' = (d : Int) - (j : Int)) :
    sg (fun x => qq ((a : Int) - (x : Int)) y ((b : Int) - (x : Int)) y') 16 = wN j d * ((((a * (d - j) + b * j + d - 1) / d + (a * (d - j) + b * j) / d : Nat) : Int) - 15) := by
  have hN : a * (d - j) + b * j < 15 * d + 1 := by
    have h1 : a * (d - j) ≤ 15 * (d - j) := Nat.mul_le_mul_right _ (by omega)
    have h2 : b * j ≤ 15 * j := Nat.mul_le_mul_right _ (by omega)
    omega
  have hw : ((Int.sign y' - Int.sign y).natAbs : Int) = wN j d := by
    unfold wN
    by_cases z0 : j = 0
    · subst z0
      rw [e1, e2, if_pos (Or.inl rfl), Int.sign_eq_one_of_pos (show (0 : Int) < (d : Int) - ((0 : Nat) : Int) by omega)]
      rfl
    · by_cases z1 : j = d
      · subst z1
        rw [e1, e2, if_pos (Or.inr rfl), Int.sub_self, Int.sign_eq_neg_one_of_neg (show -(j : Int) < 0 by omega)]
        rfl
      · rw [e1, e2, if_neg (by omega), Int.sign_eq_neg_one_of_neg (show -(j : Int) < 0 by omega), Int.sign_eq_one_of_pos (show 0 < (d : Int) - (j : Int) by omega)]
        rfl
  rw [← row_cl d hd2 hd (a * (d - j) + b * j) hN, ← sg_mul]
  refine sgc fun x hx => ?_
  unfold qq
  rw [hw]
  congr 2
  have ec : ((a * (d - j) + b * j : Nat) : Int) = (a : Int) * ((d : Int) - (j : Int)) + (b : Int) * (j : Int) := by
    rw [Int.natCast_add, Int.natCast_mul, Int.natCast_mul, Int.natCast_sub hj]
  rw [ec, e1, e2]
  grind
theorem lat_up {a b c d : Nat} (ha : a < 16) (hb : b < 16) (hd : 0 < d) (hc : c + d < 16) : lt2 (a : Int) (c : Int) (b : Int) ((c : Int) + (d : Int)) = 2 * (d : Int) * ((a : Int) + (b : Int) - 15) := by
  have e16 : 16 = c + ((d + 1) + (15 - (c + d))) := by omega
  have h1 : sg (lrow (a : Int) (c : Int) (b : Int) ((c : Int) + (d : Int))) c = 0 := by
    refine sg_0' fun y hy => sg_0' fun x hx => qq_s ?_
    rw [Int.sign_eq_one_of_pos (show 0 < (c : Int) - (y : Int) by omega), Int.sign_eq_one_of_pos (show 0 < (c : Int) + (d : Int) - (y : Int) by omega)]
  have h3 : sg (fun j : Nat => lrow (a : Int) (c : Int) (b : Int) ((c : Int) + (d : Int)) (c + (d + 1 + j))) (15 - (c + d)) = 0 := by
    refine sg_0' fun y hy => sg_0' fun x hx => qq_s ?_
    rw [Int.sign_eq_neg_one_of_neg (show (c : Int) - ((c + (d + 1 + y) : Nat) : Int) < 0 by omega), Int.sign_eq_neg_one_of_neg (show (c : Int) + (d : Int) - ((c + (d + 1 + y) : Nat) : Int) < 0 by omega)]
  have h2 : sg (fun j : Nat => lrow (a : Int) (c : Int) (b : Int) ((c : Int) + (d : Int)) (c + j)) (d + 1) = 2 * (d : Int) * ((a : Int) + (b : Int) - 15) := by
    rw [← col_cl d (by omega) hd a ha b hb]
    refine sgc fun j hj => ?_
    exact lat_row ha hb hd (by omega) (by omega) _ _ (by omega) (by omega)
  have s1 := sg_split (lrow (a : Int) (c : Int) (b : Int) ((c : Int) + (d : Int))) c ((d + 1) + (15 - (c + d)))
  have s2 := sg_split (fun j : Nat => lrow (a : Int) (c : Int) (b : Int) ((c : Int) + (d : Int)) (c + j)) (d + 1) (15 - (c + d))
  rw [← e16] at s1
  show sg (lrow (a : Int) (c : Int) (b : Int) ((c : Int) + (d : Int))) 16 = _
  rw [s1, s2, h1, h2]
  have : sg (fun j : Nat => (fun j : Nat => lrow (a : Int) (c : Int) (b : Int) ((c : Int) + (d : Int)) (c + j)) (d + 1 + j)) (15 - (c + d)) = 0 := h3
  rw [this]; omega
theorem lt2_as (a1 a2 b1 b2 : Int) : lt2 b1 b2 a1 a2 = - lt2 a1 a2 b1 b2 := by
  unfold lt2
  have e : sg (lrow b1 b2 a1 a2) 16 = (-1) * sg (lrow a1 a2 b1 b2) 16 := by
    rw [← sg_mul]
    refine sgc fun y _ => ?_
    unfold lrow
    rw [← sg_mul]
    refine sgc fun x _ => ?_
    rw [qq_as]; omega
  rw [e]; omega
theorem lat {a1 a2 b1 b2 : Int} (h1 : 0 ≤ a1 ∧ a1 ≤ 15) (h2 : 0 ≤ a2 ∧ a2 ≤ 15) (h3 : 0 ≤ b1 ∧ b1 ≤ 15) (h4 : 0 ≤ b2 ∧ b2 ≤ 15) : lt2 a1 a2 b1 b2 = 2 * (b2 - a2) * (a1 + b1 - 15) := by
  obtain ⟨a, rfl⟩ := Int.eq_ofNat_of_zero_le h1.1
  obtain ⟨b, rfl⟩ := Int.eq_ofNat_of_zero_le h3.1
  obtain ⟨c, rfl⟩ := Int.eq_ofNat_of_zero_le h2.1
  obtain ⟨e, rfl⟩ := Int.eq_ofNat_of_zero_le h4.1
  rcases Nat.lt_trichotomy c e with z | z | z
  · obtain ⟨d, rfl⟩ : ∃ d, e = c + d := ⟨e - c, by omega⟩
    have := lat_up (a := a) (b := b) (c := c) (d := d) (by omega) (by omega) (by omega) (by omega)
    rw [Int.natCast_add, this, show (c : Int) + (d : Int) - (c : Int) = (d : Int) by omega]
  · subst z
    rw [Int.sub_self, Int.mul_zero, Int.zero_mul]
    exact sg_0' fun y _ => sg_0' fun x _ => qq_s rfl
  · obtain ⟨d, rfl⟩ : ∃ d, c = e + d := ⟨c - e, by omega⟩
    have := lat_up (a := b) (b := a) (c := e) (d := d) (by omega) (by omega) (by omega) (by omega)
    rw [lt2_as, Int.natCast_add, this]
    grind
/-- the sum over the points of the grid -/
theorem lat_pt {a1 a2 b1 b2 : Int} (h1 : 0 ≤ a1 ∧ a1 ≤ 15) (h2 : 0 ≤ a2 ∧ a2 ≤ 15) (h3 : 0 ≤ b1 ∧ b1 ≤ 15) (h4 : 0 ≤ b2 ∧ b2 ≤ 15) :
    sg (fun i => qq (a1 - ((i % 16 : Nat) : Int)) (a2 - ((i / 16 : Nat) : Int)) (b1 - ((i % 16 : Nat) : Int)) (b2 - ((i / 16 : Nat) : Int))) 256 = 2 * (b2 - a2) * (a1 + b1 - 15) := by
  rw [← lat h1 h2 h3 h4]
  have := sg_rows (fun i => qq (a1 - ((i % 16 : Nat) : Int)) (a2 - ((i / 16 : Nat) : Int)) (b1 - ((i % 16 : Nat) : Int)) (b2 - ((i / 16 : Nat) : Int))) 16
  rw [show 16 * 16 = 256 from rfl] at this
  rw [this]
  refine sgc fun y _ => sgc fun x hx => ?_
  show qq (a1 - (((16 * y + x) % 16 : Nat) : Int)) (a2 - (((16 * y + x) / 16 : Nat) : Int)) (b1 - (((16 * y + x) % 16 : Nat) : Int)) (b2 - (((16 * y + x) / 16 : Nat) : Int)) = _
  rw [show (16 * y + x) % 16 = x by omega, show (16 * y + x) / 16 = y by omega]
theorem sA_sg {n : Nat} {X Y : Nat → Int} (k : Nat) : sA n X Y k = sg (fun j => X j * Y (nx n j) - X (nx n j) * Y j) k := by
  induction k with
  | zero => rfl
  | succ k ih =>
    show sA n X Y k + (X k * Y (nx n k) - X (nx n k) * Y k) = sg (fun j => X j * Y (nx n j) - X (nx n j) * Y j) k + (X k * Y (nx n k) - X (nx n k) * Y k)
    rw [ih]
theorem lat_H {n : Nat} {X Y : Nat → Int} (g : gr X Y) : sg (fun i => Hh n X Y ((i % 16 : Nat) : Int) ((i / 16 : Nat) : Int)) 256 = 2 * sA n X Y n := by
  unfold Hh
  rw [sg_swap]
  have e : sg (fun j => sg (fun i => QP X Y ((i % 16 : Nat) : Int) ((i / 16 : Nat) : Int) j (nx n j)) 256) n = sg (fun j => 2 * (X j * Y (nx n j) - X (nx n j) * Y j) - ((fun m => 2 * (X m * Y m) - 30 * Y m) j - (fun m => 2 * (X m * Y m) - 30 * Y m) (nx n j))) n := by
    refine sgc fun j hj => ?_
    have := lat_pt (g j).1 (g j).2 (g (nx n j)).1 (g (nx n j)).2
    unfold QP
    rw [this]
    grind
  rw [e, sg_sub, tele_n, sg_mul, sA_sg]; omega
end
section
section
variable {n : Nat} {X Y : Nat → Int}
theorem on_oe {x y : Int} {i j : Nat} (h : on X Y x y i j) : (X i - x) * (Y j - y) - (Y i - y) * (X j - x) = 0 ∧ (X i - x) * (X j - x) + (Y i - y) * (Y j - y) ≤ 0 := by
  obtain ⟨s, t, hs, ht, hst, ex, ey⟩ := h
  constructor
  · have z : (s + t) * ((s + t) * ((X i - x) * (Y j - y) - (Y i - y) * (X j - x))) = (s + t) * ((s + t) * 0) := by grind
    exact al_c hst (al_c hst z)
  · have z : (s + t) * ((s + t) * ((X i - x) * (X j - x) + (Y i - y) * (Y j - y))) = -((s * t) * ((X i - X j) * (X i - X j) + (Y i - Y j) * (Y i - Y j))) := by grind
    have q1 := al_sq (X i - X j)
    have q2 := al_sq (Y i - Y j)
    have q3 := Int.mul_nonneg (Int.mul_nonneg hs ht) (show 0 ≤ (X i - X j) * (X i - X j) + (Y i - Y j) * (Y i - Y j) by omega)
    exact al_pp hst (al_pp hst (by rw [z]; omega))
theorem on_bt {a b c : Nat} (h : on X Y (X c) (Y c) a b) : BT X Y a b c := by
  have := on_oe h
  exact ⟨by omega, this.2⟩
theorem oe_on {x y : Int} {i j : Nat} (ne : ¬ SP X Y i j) (h1 : (X i - x) * (Y j - y) - (Y i - y) * (X j - x) = 0) (h2 : (X i - x) * (X j - x) + (Y i - y) * (Y j - y) ≤ 0) : on X Y x y i j := by
  have q1 := al_sq (X i - x)
  have q2 := al_sq (Y i - y)
  have q3 := al_sq (X j - x)
  have q4 := al_sq (Y j - y)
  have e : (X j - x) * (X j - x) + (Y j - y) * (Y j - y) - ((X i - x) * (X j - x) + (Y i - y) * (Y j - y)) + ((X i - x) * (X i - x) + (Y i - y) * (Y i - y) - ((X i - x) * (X j - x) + (Y i - y) * (Y j - y))) = (X j - X i) * (X j - X i) + (Y j - Y i) * (Y j - Y i) := by grind
  have q5 := al_sq (X j - X i)
  have q6 := al_sq (Y j - Y i)
  have n0 := sp_n ne
  refine ⟨(X j - x) * (X j - x) + (Y j - y) * (Y j - y) - ((X i - x) * (X j - x) + (Y i - y) * (Y j - y)), (X i - x) * (X i - x) + (Y i - y) * (Y i - y) - ((X i - x) * (X j - x) + (Y i - y) * (Y j - y)), by omega, by omega, by omega, ?_, ?_⟩
  · grind
  · grind
theorem mt_lm {a b c d : Nat} (ne : ¬ SP X Y a b) (h : MT (X a) (Y a) (X b) (Y b) (X c) (Y c) (X d) (Y d)) : LM X Y a b c d := by
  obtain ⟨s, t, s', t', hs, ht, hs', ht', hst, e, ex, ey⟩ := h
  by_cases s0 : s = 0
  · refine Or.inr (Or.inr (Or.inr (Or.inl (on_bt ⟨s', t', hs', ht', by omega, ?_, ?_⟩))))
    · rw [← ex, ← e, s0]; grind
    · rw [← ey, ← e, s0]; grind
  by_cases t0 : t = 0
  · refine Or.inr (Or.inr (Or.inl (on_bt ⟨s', t', hs', ht', by omega, ?_, ?_⟩)))
    · rw [← ex, ← e, t0]; grind
    · rw [← ey, ← e, t0]; grind
  by_cases s0' : s' = 0
  · refine Or.inr (Or.inl (on_bt ⟨s, t, hs, ht, hst, ?_, ?_⟩))
    · rw [ex, e, s0']; grind
    · rw [ey, e, s0']; grind
  by_cases t0' : t' = 0
  · refine Or.inl (on_bt ⟨s, t, hs, ht, hst, ?_, ?_⟩)
    · rw [ex, e, t0']; grind
    · rw [ey, e, t0']; grind
  have k1 : s' * tn X Y a b c = -(t' * tn X Y a b d) := by unfold tn; grind
  have k2 : s * tn X Y c d a = -(t * tn X Y c d b) := by unfold tn; grind
  have k3 : tn X Y a b c - tn X Y a b d = tn X Y c d b - tn X Y c d a := by unfold tn; grind
  have p1 : 0 < s := by omega
  have p2 : 0 < t := by omega
  have p3 : 0 < s' := by omega
  have p4 : 0 < t' := by omega
  have sg1 : ∀ {u v p q : Int}, 0 < u → 0 < v → u * p = -(v * q) → (0 < p → q < 0) ∧ (p < 0 → 0 < q) := by
    intro u v p q hu hv z
    refine ⟨fun y => ?_, fun y => ?_⟩
    · have := Int.mul_pos hu y
      have w : v * (-q) = -(v * q) := Int.mul_neg v q
      have := al_pq (a := -q) (b := v) (by rw [Int.mul_comm, w]; omega) (by omega)
      omega
    · have := Int.mul_neg_of_pos_of_neg hu y
      exact al_pq (a := q) (b := v) (by rw [Int.mul_comm]; omega) (by omega)
  rcases Int.lt_trichotomy (tn X Y a b c) 0 with z | z | z
  · have z2 := (sg1 p3 p4 k1).2 z
    have z3 : 0 < tn X Y c d a := by
      rcases Int.lt_trichotomy (tn X Y c d a) 0 with y | y | y
      · have := (sg1 p1 p2 k2).2 y; omega
      · rw [y, Int.mul_zero] at k2
        have : tn X Y c d b = 0 := by
          rcases Int.mul_eq_zero.mp (show t * tn X Y c d b = 0 by omega) with w | w
          · omega
          · exact w
        omega
      · exact y
    have z4 := (sg1 p1 p2 k2).1 z3
    exact Or.inr (Or.inr (Or.inr (Or.inr ⟨by omega, by omega⟩)))
  · have z2 : tn X Y a b d = 0 := by
      rw [z, Int.mul_zero] at k1
      rcases Int.mul_eq_zero.mp (show t' * tn X Y a b d = 0 by omega) with w | w
      · omega
      · exact w
    have z3 : tn X Y c d a = 0 := by
      rcases Int.lt_trichotomy (tn X Y c d a) 0 with y | y | y
      · have := (sg1 p1 p2 k2).2 y; omega
      · exact y
      · have := (sg1 p1 p2 k2).1 y; omega
    have L0 := sp_n ne
    have q1 := al_sq (X b - X a)
    have q2 := al_sq (Y b - Y a)
    have Lp : 0 < (X b - X a) * (X b - X a) + (Y b - Y a) * (Y b - Y a) := by omega
    have bet : ∀ m, tn X Y a b m = 0 → 0 ≤ (X m - X a) * (X b - X a) + (Y m - Y a) * (Y b - Y a) → (X m - X a) * (X b - X a) + (Y m - Y a) * (Y b - Y a) ≤ (X b - X a) * (X b - X a) + (Y b - Y a) * (Y b - Y a) → BT X Y a b m := by
      intro m w1 w2 w3
      rw [bt_v]
      have w4 : (X m - X a) * (Y b - Y a) = (Y m - Y a) * (X b - X a) := by unfold tn at w1; grind
      refine ⟨w4, ?_⟩
      have w5 : ((X b - X a) * (X b - X a) + (Y b - Y a) * (Y b - Y a)) * ((X m - X a) * (X m - X a) + (Y m - Y a) * (Y m - Y a) - ((X m - X a) * (X b - X a) + (Y m - Y a) * (Y b - Y a))) = -(((X m - X a) * (X b - X a) + (Y m - Y a) * (Y b - Y a)) * ((X b - X a) * (X b - X a) + (Y b - Y a) * (Y b - Y a) - ((X m - X a) * (X b - X a) + (Y m - Y a) * (Y b - Y a)))) := by grind
      have w6 := Int.mul_nonneg w2 (show 0 ≤ (X b - X a) * (X b - X a) + (Y b - Y a) * (Y b - Y a) - ((X m - X a) * (X b - X a) + (Y m - Y a) * (Y b - Y a)) by omega)
      have := al_pp Lp (by rw [w5]; omega)
      omega
    by_cases c1 : 0 ≤ (X c - X a) * (X b - X a) + (Y c - Y a) * (Y b - Y a) ∧ (X c - X a) * (X b - X a) + (Y c - Y a) * (Y b - Y a) ≤ (X b - X a) * (X b - X a) + (Y b - Y a) * (Y b - Y a)
    · exact Or.inl (bet c z c1.1 c1.2)
    by_cases c2 : 0 ≤ (X d - X a) * (X b - X a) + (Y d - Y a) * (Y b - Y a) ∧ (X d - X a) * (X b - X a) + (Y d - Y a) * (Y b - Y a) ≤ (X b - X a) * (X b - X a) + (Y b - Y a) * (Y b - Y a)
    · exact Or.inr (Or.inl (bet d z2 c2.1 c2.2))
    refine Or.inr (Or.inr (Or.inl ?_))
    rw [tn_c] at z3
    refine ⟨by omega, ?_⟩
    have f1 : s' * ((X c - X a) * (X b - X a) + (Y c - Y a) * (Y b - Y a)) + t' * ((X d - X a) * (X b - X a) + (Y d - Y a) * (Y b - Y a)) = t * ((X b - X a) * (X b - X a) + (Y b - Y a) * (Y b - Y a)) := by grind
    have f2 : s' * ((X b - X a) * (X b - X a) + (Y b - Y a) * (Y b - Y a) - ((X c - X a) * (X b - X a) + (Y c - Y a) * (Y b - Y a))) + t' * ((X b - X a) * (X b - X a) + (Y b - Y a) * (Y b - Y a) - ((X d - X a) * (X b - X a) + (Y d - Y a) * (Y b - Y a))) = s * ((X b - X a) * (X b - X a) + (Y b - Y a) * (Y b - Y a)) := by grind
    have f3 : ((X b - X a) * (X b - X a) + (Y b - Y a) * (Y b - Y a)) * ((X c - X a) * (X d - X a) + (Y c - Y a) * (Y d - Y a)) = ((X c - X a) * (X b - X a) + (Y c - Y a) * (Y b - Y a)) * ((X d - X a) * (X b - X a) + (Y d - Y a) * (Y b - Y a)) := by unfold tn at z z2; grind
    have g1 := Int.mul_pos p2 Lp
    have g2 := Int.mul_pos p1 Lp
    refine al_pp Lp ?_
    rw [f3]
    generalize (X c - X a) * (X b - X a) + (Y c - Y a) * (Y b - Y a) = p at *
    generalize (X d - X a) * (X b - X a) + (Y d - Y a) * (Y b - Y a) = q at *
    generalize (X b - X a) * (X b - X a) + (Y b - Y a) * (Y b - Y a) = l at *
    rcases Int.lt_or_le p 0 with y | y
    · rcases Int.lt_or_le q 0 with y2 | y2
      · have := Int.mul_neg_of_pos_of_neg p3 y
        have := Int.mul_neg_of_pos_of_neg p4 y2
        omega
      · have := Int.mul_nonneg (show 0 ≤ -p by omega) y2
        rw [Int.neg_mul] at this; omega
    · rcases Int.lt_or_le q 0 with y2 | y2
      · have := Int.mul_nonneg y (show 0 ≤ -q by omega)
        rw [Int.mul_neg] at this; omega
      · have := Int.mul_pos p3 (show 0 < p - l by omega)
        have := Int.mul_pos p4 (show 0 < q - l by omega)
        have w1 : s' * (l - p) = -(s' * (p - l)) := by rw [← Int.mul_neg]; congr 1; omega
        have w2 : t' * (l - q) = -(t' * (q - l)) := by rw [← Int.mul_neg]; congr 1; omega
        omega
  · have z2 := (sg1 p3 p4 k1).1 z
    have z3 : tn X Y c d a < 0 := by
      rcases Int.lt_trichotomy (tn X Y c d a) 0 with y | y | y
      · exact y
      · rw [y, Int.mul_zero] at k2
        have : tn X Y c d b = 0 := by
          rcases Int.mul_eq_zero.mp (show t * tn X Y c d b = 0 by omega) with w | w
          · omega
          · exact w
        omega
      · have := (sg1 p1 p2 k2).1 y; omega
    have z4 := (sg1 p1 p2 k2).2 z3
    exact Or.inr (Or.inr (Or.inr (Or.inr ⟨by omega, by omega⟩)))
theorem pr_pm (h : PR n X Y) : PM n X Y := by
  have hy := pr_eq.mp h
  obtain ⟨h3, hd, hs⟩ := h
  have dis : ∀ i, i < n → ¬ SP X Y i (nx n i) := fun i hi => sp_all hd hi (nx_lt hi) (fun e => nx_ne hi (by omega) e.symm)
  refine ⟨h3, dis, fun i j hi hj e1 e2 e3 mt => ?_, fun i hi a c ha hc z1 z2 => ?_⟩
  · have lm := mt_lm (dis i hi) mt
    have e4 : nx n j ≠ i := fun z => e3 (by rw [← z, pv_nx hj])
    by_cases c : i < j
    · exact hs i j c hj (Or.inr (Or.inr ⟨fun z => e2 z.symm, e4, lm⟩))
    · exact hs j i (by omega) hi (Or.inr (Or.inr ⟨e4, fun z => e2 z.symm, (lm_sw _ _ _ _).mpr lm⟩))
  · refine hy.2.2.2 i hi ⟨?_, ?_⟩
    · refine al_c ha ?_
      unfold tn
      grind
    · have r0 : (X (pv n i) - X i) * (X (pv n i) - X i) + (Y (pv n i) - Y i) * (Y (pv n i) - Y i) ≠ 0 := sp_n (sp_all hd hi (pv_lt hi) (fun e => pv_ne hi (by omega) e.symm))
      have q1 := al_sq (X (pv n i) - X i)
      have q2 := al_sq (Y (pv n i) - Y i)
      have e : a * ((X (nx n i) - X i) * (X (pv n i) - X i) + (Y (nx n i) - Y i) * (Y (pv n i) - Y i)) = c * ((X (pv n i) - X i) * (X (pv n i) - X i) + (Y (pv n i) - Y i) * (Y (pv n i) - Y i)) := by grind
      have := Int.mul_pos hc (show 0 < (X (pv n i) - X i) * (X (pv n i) - X i) + (Y (pv n i) - Y i) * (Y (pv n i) - Y i) by omega)
      exact al_pq (b := a) (by rw [Int.mul_comm, e]; exact this) (by omega)
/-- everything k times as wide -/
def wd (k : Int) (X : Nat → Int) : Nat → Int := fun i => k * X i
theorem qq_w {k : Int} (hk : 0 < k) (a1 a2 b1 b2 : Int) : qq (k * a1) a2 (k * b1) b2 = qq a1 a2 b1 b2 := by
  unfold qq
  rw [show k * a1 * b2 - a2 * (k * b1) = k * (a1 * b2 - a2 * b1) by grind, sg_mp _ hk]
theorem qp_w {k : Int} (hk : 0 < k) (x y : Int) (i j : Nat) : QP (wd k X) Y (k * x) y i j = QP X Y x y i j := by
  unfold QP wd
  rw [← Int.mul_sub, ← Int.mul_sub, qq_w hk]
theorem Hh_w {k : Int} (hk : 0 < k) (x y : Int) : Hh n (wd k X) Y (k * x) y = Hh n X Y x y := by
  unfold Hh
  exact sgc fun j _ => qp_w hk x y j _
theorem KK_w {k : Int} (hk : 0 < k) : KK n (wd k X) Y = KK n X Y := by
  unfold KK
  have h1 : Hh n (wd k X) Y (wd k X 0) (Y 0) = Hh n X Y (X 0) (Y 0) := Hh_w hk _ _
  have h2 : tq n (wd k X) Y 0 = tq n X Y 0 := by
    unfold tq wd
    rw [← Int.mul_sub, ← Int.mul_sub, qq_w hk]
  rw [h1, h2]
theorem PM_w {k : Int} (hk : 0 < k) (pm : PM n X Y) : PM n (wd k X) Y := by
  obtain ⟨h1, h2, h3, h4⟩ := pm
  refine ⟨h1, fun i hi z => h2 i hi ⟨al_c hk z.1, z.2⟩, fun i j hi hj e1 e2 e3 ⟨s, t, s', t', hs, ht, hs', ht', hst, e, ex, ey⟩ => h3 i j hi hj e1 e2 e3 ⟨s, t, s', t', hs, ht, hs', ht', hst, e, ?_, ey⟩, fun i hi a c ha hc z1 z2 => h4 i hi a c ha hc ?_ z2⟩
  · refine al_c hk ?_
    unfold wd at ex
    grind
  · refine al_c hk ?_
    unfold wd at z1
    grind
theorem on_w {k x y : Int} (hk : 0 < k) {i j : Nat} (h : on (wd k X) Y (k * x) y i j) : on X Y x y i j := by
  obtain ⟨s, t, hs, ht, hst, ex, ey⟩ := h
  refine ⟨s, t, hs, ht, hst, ?_, ey⟩
  refine al_c hk ?_
  unfold wd at ex
  grind
theorem dv_15 : ∀ d : Nat, d < 16 → 0 < d → 360360 % d = 0 := by decide +kernel
theorem dv {e : Int} (h1 : -15 ≤ e ∧ e ≤ 15) (h0 : e ≠ 0) : ∃ q : Int, 360360 = e * q := by
  have h := dv_15 e.natAbs (by omega) (by omega)
  have h2 : (e.natAbs : Int) ∣ 360360 := by
    have : e.natAbs ∣ 360360 := Nat.dvd_of_mod_eq_zero h
    exact Int.natCast_dvd_natCast.mpr this
  rw [Int.natAbs_dvd] at h2
  obtain ⟨q, hq⟩ := h2
  exact ⟨q, hq⟩
theorem row_w (g : gr X Y) (y : Int) : rowI n (wd 360360 X) Y y := by
  intro j hj ne bet
  have g1 := g j
  have g2 := g (nx n j)
  obtain ⟨q, hq⟩ := dv (e := Y (nx n j) - Y j) (by omega) (by omega)
  refine ⟨360360 * X j + (y - Y j) * (X (nx n j) - X j) * q, ?_⟩
  rcases bet with ⟨b1, b2⟩ | ⟨b1, b2⟩
  · refine ⟨Y (nx n j) - y, y - Y j, by omega, by omega, by omega, ?_, by grind⟩
    unfold wd
    rw [hq]; grind
  · refine ⟨y - Y (nx n j), Y j - y, by omega, by omega, by omega, ?_, by grind⟩
    unfold wd
    rw [hq]; grind
/-- a point of the grid off the polygon -/
theorem H_off (g : gr X Y) (pm : PM n X Y) {x y : Int} (hx : x ≤ 15) (off : ∀ j, j < n → ¬ on X Y x y j (nx n j)) : Hh n X Y x y = 0 ∨ Hh n X Y x y = KK n X Y + 2 ∨ Hh n X Y x y = KK n X Y - 2 := by
  have hk : (0 : Int) < 360360 := by decide
  have h := walk (M := 360360 * 16) (PM_w hk pm) (row_w g y) (fun j hj => by
    have := g j
    unfold wd
    omega) (360360 * 16 - 360360 * x).toNat (360360 * x) (by omega) (fun j hj o => off j hj (on_w hk o))
  rw [Hh_w hk, KK_w hk] at h
  exact h
end
end
section
theorem cn_sg (f : Nat → Prop) (m : Nat) : sg (fun i => (ind (f i) : Int)) m = (cn f m : Int) := by
  induction m with
  | zero => rfl
  | succ m ih =>
    show sg (fun i => (ind (f i) : Int)) m + (ind (f m) : Int) = ((cn f m + ind (f m) : Nat) : Int)
    rw [ih]; omega
section
variable {n : Nat} {X Y : Nat → Int}
theorem ex_low (hn : 0 < n) : ∃ m, m < n ∧ ∀ j, j < n → lx X Y m j := by
  have : ∀ k, 0 < k → k ≤ n → ∃ m, m < k ∧ ∀ j, j < k → lx X Y m j := by
    intro k
    induction k with
    | zero => intro h; omega
    | succ k ih =>
      intro _ hk
      rcases Nat.eq_zero_or_pos k with z | z
      · subst z
        refine ⟨0, by omega, fun j hj => ?_⟩
        have : j = 0 := by omega
        subst this
        exact Or.inr ⟨rfl, Int.le_refl _⟩
      · obtain ⟨m, hm, all⟩ := ih z (by omega)
        by_cases c : lx X Y m k
        · refine ⟨m, by omega, fun j hj => ?_⟩
          by_cases e : j = k
          · subst e; exact c
          · exact all j (by omega)
        · refine ⟨k, by omega, fun j hj => ?_⟩
          by_cases e : j = k
          · subst e; exact Or.inr ⟨rfl, Int.le_refl _⟩
          · have := all j (by omega)
            unfold lx at this c ⊢
            omega
  exact this n hn (Nat.le_refl n)
theorem pl_1 {x y : Int} (h : plv n X Y x y = 1) : (∀ j, j < n → ¬ oE X Y x y j (nx n j)) ∧ pc n X Y x y n % 2 = 1 := by
  unfold plv at h
  by_cases c : ∃ i, i < n ∧ oE X Y x y i (nx n i)
  · rw [sel_t c] at h; omega
  · rw [sel_f c] at h
    refine ⟨fun j hj z => c ⟨j, hj, z⟩, ?_⟩
    by_cases d : pc n X Y x y n % 2 = 1
    · exact d
    · rw [sel_f d] at h; omega
theorem pl_m {x y : Int} (h : plv n X Y x y = -1) : (∀ j, j < n → ¬ oE X Y x y j (nx n j)) ∧ pc n X Y x y n % 2 = 0 := by
  unfold plv at h
  by_cases c : ∃ i, i < n ∧ oE X Y x y i (nx n i)
  · rw [sel_t c] at h; omega
  · rw [sel_f c] at h
    refine ⟨fun j hj z => c ⟨j, hj, z⟩, ?_⟩
    by_cases d : pc n X Y x y n % 2 = 1
    · rw [sel_t d] at h; omega
    · omega
theorem pl_0 {x y : Int} (h : plv n X Y x y = 0) : ∃ i, i < n ∧ oE X Y x y i (nx n i) := by
  unfold plv at h
  by_cases c : ∃ i, i < n ∧ oE X Y x y i (nx n i)
  · exact c
  · rw [sel_f c] at h
    by_cases d : pc n X Y x y n % 2 = 1
    · rw [sel_t d] at h; omega
    · rw [sel_f d] at h; omega
theorem pl_v {i : Nat} (hi : i < n) : plv n X Y (2 * X i) (2 * Y i) = 0 := by
  refine plv_0 hi (oe_2.mpr ?_)
  rw [Int.sub_self, Int.sub_self]
  exact ⟨by omega, by omega⟩
/-- the difference at a point of the grid -/
theorem pt_D (g : gr X Y) (pm : PM n X Y) (dis : ∀ a b, a < n → b < n → a ≠ b → ¬ SP X Y a b) (hK : KK n X Y = 2 ∨ KK n X Y = -2) {x y : Int} (hx : x ≤ 15) :
    Hh n X Y x y - 2 * KK n X Y * (ind (plv n X Y (2 * x) (2 * y) = 1) : Int) - KK n X Y * (ind (plv n X Y (2 * x) (2 * y) = 0) : Int) = sg (fun i => sel (X i = x ∧ Y i = y) (- tq n X Y i) 0) n := by
  have zero : (∀ i, i < n → ¬ (X i = x ∧ Y i = y)) → sg (fun i => sel (X i = x ∧ Y i = y) (- tq n X Y i) 0) n = 0 := fun h => sg_0' fun i hi => sel_f (h i hi)
  have novert : ¬ plv n X Y (2 * x) (2 * y) = 0 → ∀ i, i < n → ¬ (X i = x ∧ Y i = y) := by
    intro h i hi ⟨e1, e2⟩
    subst e1 e2
    exact h (pl_v hi)
  have offH : (∀ j, j < n → ¬ oE X Y (2 * x) (2 * y) j (nx n j)) → Hh n X Y x y = 0 ∨ Hh n X Y x y = KK n X Y + 2 ∨ Hh n X Y x y = KK n X Y - 2 := fun h => H_off g pm hx fun j hj o => h j hj (oe_2.mpr (on_oe o))
  rcases plv_r (n := n) (X := X) (Y := Y) (x := 2 * x) (y := 2 * y) with h | h | h
  · rw [ind_f (by rw [h]; decide), ind_t h]
    obtain ⟨i, hi, o⟩ := pl_0 h
    rw [oe_2] at o
    have o' := oe_on (pm.2.1 i hi) o.1 o.2
    by_cases c : ∃ m, m < n ∧ X m = x ∧ Y m = y
    · obtain ⟨m, hm, e1, e2⟩ := c
      rw [sg_1 hm (fun j hj ne => sel_f fun z => dis j m hj hm ne ⟨z.1.trans e1.symm, z.2.trans e2.symm⟩), sel_t ⟨e1, e2⟩]
      have k := kk pm m hm
      rw [e1, e2] at k
      omega
    · rw [zero fun j hj z => c ⟨j, hj, z.1, z.2⟩]
      have k := on_K pm hi o' (fun z => c ⟨i, hi, z.1.symm, z.2.symm⟩) (fun z => c ⟨_, nx_lt hi, z.1.symm, z.2.symm⟩)
      omega
  · rw [ind_t h, ind_f (by rw [h]; decide), zero (novert (by rw [h]; decide))]
    obtain ⟨off, odd⟩ := pl_1 h
    obtain ⟨C, hC, par⟩ := H_par off
    have := offH off
    omega
  · rw [ind_f (by rw [h]; decide), ind_f (by rw [h]; decide), zero (novert (by rw [h]; decide))]
    obtain ⟨off, odd⟩ := pl_m h
    obtain ⟨C, hC, par⟩ := H_par off
    have := offH off
    omega
theorem pt_ix (g : gr X Y) (i : Nat) : ∃ p : Nat, p < 256 ∧ ((p % 16 : Nat) : Int) = X i ∧ ((p / 16 : Nat) : Int) = Y i := by
  have := g i
  exact ⟨(16 * Y i + X i).toNat, by omega, by omega, by omega⟩
theorem pick2 (g : gr X Y) (h : PR n X Y) (hK : KK n X Y = 2 ∨ KK n X Y = -2) : 2 * sA n X Y n = KK n X Y * (2 * (cn (PT n X Y 1) 256 : Int) + (cn (PT n X Y 0) 256 : Int) - 2) := by
  have pm := pr_pm h
  have dis : ∀ a b, a < n → b < n → a ≠ b → ¬ SP X Y a b := fun a b ha hb ne => sp_all h.2.1 ha hb ne
  have e1 : sg (fun p => Hh n X Y ((p % 16 : Nat) : Int) ((p / 16 : Nat) : Int) - 2 * KK n X Y * (ind (PT n X Y 1 p) : Int) - KK n X Y * (ind (PT n X Y 0 p) : Int)) 256 = sg (fun p => sg (fun i => sel (X i = ((p % 16 : Nat) : Int) ∧ Y i = ((p / 16 : Nat) : Int)) (- tq n X Y i) 0) n) 256 := by
    refine sgc fun p hp => ?_
    exact pt_D g pm dis hK (by omega)
  rw [sg_swap] at e1
  have e2 : sg (fun i => sg (fun p => sel (X i = ((p % 16 : Nat) : Int) ∧ Y i = ((p / 16 : Nat) : Int)) (- tq n X Y i) 0) 256) n = sg (fun i => (-1) * tq n X Y i) n := by
    refine sgc fun i hi => ?_
    obtain ⟨p, hp, h1, h2⟩ := pt_ix g i
    rw [sg_1 hp (fun j hj ne => sel_f fun z => ne (by omega)), sel_t ⟨h1.symm, h2.symm⟩]
    omega
  rw [e2, sg_mul, rot pm, sg_sub, sg_sub, sg_mul, sg_mul, cn_sg, cn_sg, lat_H g] at e1
  grind
theorem three (g : gr X Y) (h : PR n X Y) : 3 ≤ cn (PT n X Y 0) 256 := by
  have h3 := h.1
  obtain ⟨p0, hp0, a0, b0⟩ := pt_ix g 0
  obtain ⟨p1, hp1, a1, b1⟩ := pt_ix g 1
  obtain ⟨p2, hp2, a2, b2⟩ := pt_ix g 2
  refine cn_3 hp0 hp1 hp2 ?_ ?_ ?_ ?_ ?_ ?_
  · unfold PT; rw [a0, b0]; exact pl_v (by omega)
  · unfold PT; rw [a1, b1]; exact pl_v (by omega)
  · unfold PT; rw [a2, b2]; exact pl_v (by omega)
  · intro e; subst e; exact h.2.1 0 1 (by omega) (by omega) ⟨by omega, by omega⟩
  · intro e; subst e; exact h.2.1 0 2 (by omega) (by omega) ⟨by omega, by omega⟩
  · intro e; subst e; exact h.2.1 1 2 (by omega) (by omega) ⟨by omega, by omega⟩
theorem k_at (h : PR n X Y) {m : Nat} (hm : m < n) (hl : ∀ j, j < n → lx X Y m j) : (0 < tn X Y (pv n m) m (nx n m) ∧ KK n X Y = 2) ∨ (tn X Y (pv n m) m (nx n m) < 0 ∧ KK n X Y = -2) :=
  k_low (pr_pm h) hm hl fun j hj ne => sp_all h.2.1 hm hj fun e => ne e.symm
theorem ar_eq (g : gr X Y) (h : PR n X Y) : (0 ≤ sA n X Y n → sA n X Y n = 2 * (cn (PT n X Y 1) 256 : Int) + cn (PT n X Y 0) 256 - 2) ∧ (sA n X Y n < 0 → - sA n X Y n = 2 * (cn (PT n X Y 1) 256 : Int) + cn (PT n X Y 0) 256 - 2) := by
  have h3 := h.1
  obtain ⟨m, hm, hl⟩ := ex_low (n := n) (X := X) (Y := Y) (by omega)
  have k := k_at h hm hl
  have p := pick2 g h (by omega)
  have t := three g h
  rcases k with ⟨_, k⟩ | ⟨_, k⟩ <;> rw [k] at p <;> omega
theorem lf_eq (g : gr X Y) (h : PR n X Y) (a : Nat) (ha : a < n) (hl : ∀ m, m < n → lx X Y a m) : 0 < sA n X Y n ↔ 0 < tn X Y (pv n a) a (nx n a) := by
  have k := k_at h ha hl
  have p := pick2 g h (by omega)
  have t := three g h
  rcases k with ⟨z, k⟩ | ⟨z, k⟩ <;> rw [k] at p <;> omega
end
end
section
/-- two chords, as codes 10 p + q, that don't cross -/
def ncB (c d : Nat) : Bool := !((decide (c / 10 < d / 10) && decide (d / 10 < c % 10) && decide (c % 10 < d % 10)) || (decide (d / 10 < c / 10) && decide (c / 10 < d % 10) && decide (d % 10 < c % 10)))
theorem ncB_s (c d : Nat) : ncB c d = ncB d c := by
  unfold ncB
  rw [Bool.or_comm]
/-- the sets of k chords of the list that keep F and don't cross -/
noncomputable def nn : List Nat → (Nat → Prop) → Nat → Nat
  | [], _, 0 => 1
  | [], _, _ + 1 => 0
  | _ :: l, F, 0 => nn l F 0
  | x :: l, F, k + 1 => nn l F (k + 1) + sel (F x) (nn l (fun y => F y ∧ ncB x y = true) k) 0
theorem nn_0 (l : List Nat) (F : Nat → Prop) : nn l F 0 = 1 := by
  induction l with
  | nil => rfl
  | cons x l ih => rw [nn]; exact ih
theorem nn_nil (F : Nat → Prop) (k : Nat) : nn [] F k = if k = 0 then 1 else 0 := by
  cases k with
  | zero => rfl
  | succ k => rfl
theorem nn_c (l : List Nat) : ∀ (F G : Nat → Prop) (k : Nat), (∀ x, x ∈ l → (F x ↔ G x)) → nn l F k = nn l G k := by
  induction l with
  | nil => intro F G k _; rw [nn_nil, nn_nil]
  | cons x l ih =>
    intro F G k h
    cases k with
    | zero => rw [nn_0, nn_0]
    | succ k =>
      rw [nn, nn, ih F G (k + 1) fun y hy => h y (List.mem_cons_of_mem _ hy), ih (fun y => F y ∧ ncB x y = true) (fun y => G y ∧ ncB x y = true) k fun y hy => by rw [h y (List.mem_cons_of_mem _ hy)], propext (h x (List.mem_cons_self ..))]
theorem nn_x {x : Nat} {l : List Nat} {F : Nat → Prop} {k : Nat} (h : ¬ F x) : nn (x :: l) F k = nn l F k := by
  cases k with
  | zero => rw [nn_0, nn_0]
  | succ k => rw [nn, sel_f h]; rfl
theorem nn_swap (x y : Nat) (l : List Nat) (F : Nat → Prop) (k : Nat) : nn (x :: y :: l) F k = nn (y :: x :: l) F k := by
  cases k with
  | zero => rw [nn_0, nn_0]
  | succ k =>
    rw [nn, nn, nn, nn]
    cases k with
    | zero => rw [nn_0, nn_0, nn_0, nn_0]; omega
    | succ k =>
      rw [nn, nn]
      have e : nn l (fun z => (F z ∧ ncB x z = true) ∧ ncB y z = true) k = nn l (fun z => (F z ∧ ncB y z = true) ∧ ncB x z = true) k := nn_c l _ _ k fun z _ => ⟨fun w => ⟨⟨w.1.1, w.2⟩, w.1.2⟩, fun w => ⟨⟨w.1.1, w.2⟩, w.1.2⟩⟩
      rw [e]
      by_cases fx : F x
      · by_cases fy : F y
        · by_cases c : ncB x y = true
          · have c1 : F y ∧ ncB x y = true := ⟨fy, c⟩
            have c2 : F x ∧ ncB y x = true := ⟨fx, by rw [ncB_s]; exact c⟩
            simp only [sel_t fx, sel_t fy, sel_t c1, sel_t c2]; omega
          · have c1 : ¬ (F y ∧ ncB x y = true) := fun w => c w.2
            have c2 : ¬ (F x ∧ ncB y x = true) := fun w => c (by rw [ncB_s]; exact w.2)
            simp only [sel_t fx, sel_t fy, sel_f c1, sel_f c2]; omega
        · have c1 : ¬ (F y ∧ ncB x y = true) := fun w => fy w.1
          simp only [sel_t fx, sel_f fy, sel_f c1]; omega
      · have c2 : ¬ (F x ∧ ncB y x = true) := fun w => fx w.1
        by_cases fy : F y
        · simp only [sel_f fx, sel_t fy, sel_f c2]; omega
        · simp only [sel_f fx, sel_f fy]
theorem nn_perm {l l' : List Nat} (h : l.Perm l') : ∀ (F : Nat → Prop) (k : Nat), nn l F k = nn l' F k := by
  induction h with
  | nil => intro F k; rfl
  | cons x _ ih =>
    intro F k
    cases k with
    | zero => rw [nn_0, nn_0]
    | succ k => rw [nn, nn, ih, ih]
  | swap x y l => intro F k; exact nn_swap y x l F k
  | trans _ _ ih1 ih2 => intro F k; rw [ih1, ih2]
theorem nn_flt (g : Nat → Bool) (l : List Nat) : ∀ (F : Nat → Prop) (k : Nat), (∀ x, x ∈ l → F x → g x = true) → nn (l.filter g) F k = nn l F k := by
  induction l with
  | nil => intro F k _; rfl
  | cons x l ih =>
    intro F k h
    have hl : ∀ y, y ∈ l → F y → g y = true := fun y hy => h y (List.mem_cons_of_mem _ hy)
    by_cases c : g x = true
    · rw [List.filter_cons_of_pos c]
      cases k with
      | zero => rw [nn_0, nn_0]
      | succ k => rw [nn, nn, ih F (k + 1) hl, ih _ k fun y hy w => hl y hy w.1]
    · rw [List.filter_cons_of_neg c, ih F k hl, nn_x fun w => c (h x (List.mem_cons_self ..) w)]
def sn (f : Nat → Nat) : Nat → Nat
  | 0 => 0
  | m + 1 => sn f m + f m
theorem sn_c {f f' : Nat → Nat} {m : Nat} (h : ∀ i, i < m → f i = f' i) : sn f m = sn f' m := by
  induction m with
  | zero => rfl
  | succ m ih =>
    show sn f m + f m = sn f' m + f' m
    rw [ih fun i hi => h i (by omega), h m (by omega)]
theorem sn_0 {f : Nat → Nat} {m : Nat} (h : ∀ i, i < m → f i = 0) : sn f m = 0 := by
  induction m with
  | zero => rfl
  | succ m ih =>
    show sn f m + f m = 0
    rw [ih fun i hi => h i (by omega), h m (by omega)]
theorem sn_s (f : Nat → Nat) (m : Nat) : sn f (m + 1) = f 0 + sn (fun i => f (i + 1)) m := by
  induction m with
  | zero => show 0 + f 0 = f 0 + 0; omega
  | succ m ih =>
    show sn f (m + 1) + f (m + 1) = f 0 + (sn (fun i => f (i + 1)) m + f (m + 1))
    rw [ih]; omega
theorem sn_add (f f' : Nat → Nat) (m : Nat) : sn (fun i => f i + f' i) m = sn f m + sn f' m := by
  induction m with
  | zero => rfl
  | succ m ih =>
    show sn (fun i => f i + f' i) m + (f m + f' m) = sn f m + f m + (sn f' m + f' m)
    rw [ih]; omega
theorem sn_1 {f : Nat → Nat} {a m : Nat} (ha : a < m) (h : ∀ i, i < m → i ≠ a → f i = 0) : sn f m = f a := by
  induction m with
  | zero => omega
  | succ m ih =>
    show sn f m + f m = f a
    by_cases e : a = m
    · subst e
      rw [sn_0 fun i hi => h i (by omega) (by omega)]; omega
    · rw [ih (by omega) fun i hi => h i (by omega), h m (by omega) (fun z => e z.symm)]; rfl
theorem sel_m (p : Prop) (a b : Nat) : sel p a 0 * b = sel p (a * b) 0 := by
  by_cases h : p
  · rw [sel_t h, sel_t h]
  · rw [sel_f h, sel_f h, Nat.zero_mul]
theorem sel_sn (p : Prop) (f : Nat → Nat) (m : Nat) : sn (fun i => sel p (f i) 0) m = sel p (sn f m) 0 := by
  by_cases h : p
  · rw [sel_t h]; exact sn_c fun i _ => sel_t h
  · rw [sel_f h]; exact sn_0 fun i _ => sel_f h
/-- two lists that don't cross each other -/
theorem nn_app (l2 : List Nat) (l1 : List Nat) : ∀ (F : Nat → Prop) (m : Nat), (∀ x, x ∈ l1 → ∀ y, y ∈ l2 → ncB x y = true) → nn (l1 ++ l2) F m = sn (fun i => nn l1 F i * nn l2 F (m - i)) (m + 1) := by
  induction l1 with
  | nil =>
    intro F m _
    rw [sn_1 (a := 0) (by omega) (fun i _ ne => by rw [nn_nil, if_neg ne, Nat.zero_mul]), nn_nil, if_pos rfl, Nat.one_mul]
    rfl
  | cons x l1 ih =>
    intro F m h
    cases m with
    | zero => rw [nn_0]; show 1 = 0 + nn (x :: l1) F 0 * nn l2 F (0 - 0); rw [nn_0, nn_0]
    | succ m =>
      have h1 : ∀ z, z ∈ l1 → ∀ y, y ∈ l2 → ncB z y = true := fun z hz => h z (List.mem_cons_of_mem _ hz)
      have e2 : ∀ k, nn l2 (fun y => F y ∧ ncB x y = true) k = nn l2 F k := fun k => nn_c l2 _ _ k fun y hy => ⟨fun w => w.1, fun w => ⟨w, h x (List.mem_cons_self ..) y hy⟩⟩
      rw [List.cons_append, nn, ih F (m + 1) h1, ih _ m h1, sn_s, sn_s (fun i => nn (x :: l1) F i * nn l2 F (m + 1 - i)), nn_0, nn_0]
      have e3 : sn (fun i => nn (x :: l1) F (i + 1) * nn l2 F (m + 1 - (i + 1))) (m + 1) = sn (fun i => nn l1 F (i + 1) * nn l2 F (m + 1 - (i + 1)) + sel (F x) (nn l1 (fun y => F y ∧ ncB x y = true) i * nn l2 (fun y => F y ∧ ncB x y = true) (m - i)) 0) (m + 1) := by
        refine sn_c fun i hi => ?_
        rw [nn, Nat.add_mul, sel_m, e2, show m + 1 - (i + 1) = m - i by omega]
      rw [e3, sn_add, sel_sn]
      omega
def rrow (p : Nat) : Nat → List Nat
  | 0 => []
  | j + 1 => (10 * p + (p + 2 + j)) :: rrow p j
/-- the chords between the corners p to p + d -/
def Fl : Nat → Nat → List Nat
  | _, 0 => []
  | p, d + 1 => rrow p d ++ Fl (p + 1) d
/-- without the one from p to p + d -/
def El (p d : Nat) : List Nat := rrow p (d - 2) ++ Fl (p + 1) (d - 1)
theorem d2_all : ∀ p, p < 10 → ∀ d, d < 10 - p → 2 ≤ d → ∀ y ∈ El p d, ncB (10 * p + (p + d)) y = true := by decide +kernel
theorem d3_all : ∀ p, p < 10 → ∀ d, d < 9 - p → ∀ j, j < d → j + 2 ≤ d → (rrow p j ++ Fl (p + 1) d).filter (ncB (10 * p + (p + 2 + j))) = El p (j + 2) ++ Fl (p + 2 + j) (d - 1 - j) := by decide +kernel
theorem d4_all : ∀ p, p < 10 → ∀ j, j < 10 - p → ∀ e, e < 10 - (p + 2 + j) → ∀ x ∈ El p (j + 2), ∀ y ∈ Fl (p + 2 + j) e, ncB x y = true := by decide +kernel
end
section
section
variable {F : Nat → Prop}
theorem zf_ze {p d : Nat} (h : p + (d + 2) < 10) (m : Nat) : nn (Fl p (d + 2)) F (m + 1) = nn (El p (d + 2)) F (m + 1) + sel (F (10 * p + (p + (d + 2)))) (nn (El p (d + 2)) F m) 0 := by
  have e : Fl p (d + 2) = (10 * p + (p + (d + 2))) :: El p (d + 2) := by
    show (10 * p + (p + 2 + d)) :: (rrow p d ++ Fl (p + 1) (d + 1)) = _
    rw [show p + 2 + d = p + (d + 2) by omega]
    rfl
  rw [e, nn]
  congr 2
  exact nn_c _ _ _ m fun y hy => ⟨fun w => w.1, fun w => ⟨w, d2_all p (by omega) (d + 2) (by omega) (by omega) y hy⟩⟩
theorem g_s {p d j : Nat} (hp : p + 1 + d < 10) (hj : j + 2 ≤ d) (m : Nat) : nn (rrow p (j + 1) ++ Fl (p + 1) d) F (m + 1) = nn (rrow p j ++ Fl (p + 1) d) F (m + 1) + sel (F (10 * p + (p + 2 + j))) (sn (fun i => nn (El p (j + 2)) F i * nn (Fl (p + 2 + j) (d - 1 - j)) F (m - i)) (m + 1)) 0 := by
  have e3 := d3_all p (by omega) d (by omega) j (by omega) hj
  show nn ((10 * p + (p + 2 + j)) :: (rrow p j ++ Fl (p + 1) d)) F (m + 1) = _
  rw [nn]
  congr 2
  rw [← nn_flt (ncB (10 * p + (p + 2 + j))) _ _ _ (fun x _ w => w.2)]
  have e5 : nn ((rrow p j ++ Fl (p + 1) d).filter (ncB (10 * p + (p + 2 + j)))) (fun y => F y ∧ ncB (10 * p + (p + 2 + j)) y = true) m = nn ((rrow p j ++ Fl (p + 1) d).filter (ncB (10 * p + (p + 2 + j)))) F m := nn_c _ _ _ m fun y hy => ⟨fun w => w.1, fun w => ⟨w, (List.mem_filter.mp hy).2⟩⟩
  rw [e5, e3]
  exact nn_app _ _ F m (d4_all p (by omega) j (by omega) (d - 1 - j) (by omega))
theorem bd (d : Nat) : ∀ p, p + d < 10 → (2 ≤ d → ∀ m, d - 1 ≤ m → nn (El p d) F m = 0) ∧ (1 ≤ d → ∀ m, d ≤ m → nn (Fl p d) F m = 0) := by
  induction d using Nat.strongRecOn with
  | ind d ih =>
    intro p hp
    have h1 : 2 ≤ d → ∀ m, d - 1 ≤ m → nn (El p d) F m = 0 := by
      intro hd
      obtain ⟨e, rfl⟩ : ∃ e, d = e + 1 := ⟨d - 1, by omega⟩
      have key : ∀ j, j + 1 ≤ e → ∀ m, e ≤ m → nn (rrow p j ++ Fl (p + 1) e) F m = 0 := by
        intro j
        induction j with
        | zero => intro _ m hm; exact (ih e (by omega) (p + 1) (by omega)).2 (by omega) m hm
        | succ j ihj =>
          intro hj m hm
          obtain ⟨m', rfl⟩ : ∃ m', m = m' + 1 := ⟨m - 1, by omega⟩
          rw [g_s (by omega) (by omega), ihj (by omega) (m' + 1) hm, sn_0 (fun i hi => ?_)]
          · by_cases c : F (10 * p + (p + 2 + j))
            · rw [sel_t c]
            · rw [sel_f c]
          · by_cases c : j + 1 ≤ i
            · rw [(ih (j + 2) (by omega) p (by omega)).1 (by omega) i (by omega), Nat.zero_mul]
            · rw [(ih (e - 1 - j) (by omega) (p + 2 + j) (by omega)).2 (by omega) (m' - i) (by omega), Nat.mul_zero]
      intro m hm
      exact key (e + 1 - 2) (by omega) m (by omega)
    refine ⟨h1, fun hd m hm => ?_⟩
    rcases Nat.lt_or_ge d 2 with c | c
    · have : d = 1 := by omega
      subst this
      show nn [] F m = 0
      rw [nn_nil, if_neg (by omega)]
    · obtain ⟨e, rfl⟩ : ∃ e, d = e + 2 := ⟨d - 2, by omega⟩
      obtain ⟨m', rfl⟩ : ∃ m', m = m' + 1 := ⟨m - 1, by omega⟩
      rw [zf_ze hp, h1 c (m' + 1) (by omega), h1 c m' (by omega)]
      by_cases z : F (10 * p + (p + (e + 2)))
      · rw [sel_t z]
      · rw [sel_f z]
/-- the tilings of the part with the corners p to p + d, that line a cut or a side -/
noncomputable def dv' (F : Nat → Prop) (p d : Nat) : Nat := if d = 1 then 1 else sel (F (10 * p + (p + d))) (nn (El p d) F (d - 2)) 0
theorem zf_top {p d : Nat} (hd : 1 ≤ d) (hp : p + d < 10) : nn (Fl p d) F (d - 1) = dv' F p d := by
  unfold dv'
  rcases Nat.lt_or_ge d 2 with c | c
  · have : d = 1 := by omega
    subst this
    rfl
  · obtain ⟨e, rfl⟩ : ∃ e, d = e + 2 := ⟨d - 2, by omega⟩
    rw [if_neg (by omega)]
    show nn (Fl p (e + 2)) F (e + 1) = sel (F (10 * p + (p + (e + 2)))) (nn (El p (e + 2)) F e) 0
    rw [zf_ze hp, (bd (e + 2) p hp).1 (by omega) (e + 1) (by omega), Nat.zero_add]
theorem tri_sum {p e : Nat} (he : 1 ≤ e) (hp : p + 1 + e < 10) : nn (El p (e + 1)) F (e - 1) = sn (fun i => dv' F p (i + 1) * dv' F (p + i + 1) (e - i)) e := by
  have key : ∀ j, j + 1 ≤ e → nn (rrow p j ++ Fl (p + 1) e) F (e - 1) = sn (fun i => dv' F p (i + 1) * dv' F (p + i + 1) (e - i)) (j + 1) := by
    intro j
    induction j with
    | zero =>
      intro _
      show nn (Fl (p + 1) e) F (e - 1) = 0 + dv' F p (0 + 1) * dv' F (p + 0 + 1) (e - 0)
      rw [zf_top he (by omega), show dv' F p (0 + 1) = 1 from rfl]
      show dv' F (p + 1) e = 0 + 1 * dv' F (p + 1) e
      omega
    | succ j ihj =>
      intro hj
      obtain ⟨f, rfl⟩ : ∃ f, e = f + 2 := ⟨e - 2, by omega⟩
      show nn (rrow p (j + 1) ++ Fl (p + 1) (f + 2)) F (f + 1) = sn (fun i => dv' F p (i + 1) * dv' F (p + i + 1) (f + 2 - i)) (j + 1) + dv' F p (j + 1 + 1) * dv' F (p + (j + 1) + 1) (f + 2 - (j + 1))
      have h1 := ihj (by omega)
      rw [show f + 2 - 1 = f + 1 from rfl] at h1
      have h2 : sn (fun i => nn (El p (j + 2)) F i * nn (Fl (p + 2 + j) (f + 2 - 1 - j)) F (f - i)) (f + 1) = nn (El p (j + 2)) F j * nn (Fl (p + 2 + j) (f + 2 - 1 - j)) F (f - j) := by
        refine sn_1 (by omega) (fun i hi ne => ?_)
        rcases Nat.lt_or_ge i j with c | c
        · rw [(bd (f + 2 - 1 - j) (p + 2 + j) (by omega)).2 (by omega) (f - i) (by omega), Nat.mul_zero]
        · rw [(bd (j + 2) p (by omega)).1 (by omega) i (by omega), Nat.zero_mul]
      rw [g_s hp (by omega), h1, h2]
      congr 1
      have t := zf_top (F := F) (p := p + 2 + j) (d := f + 2 - 1 - j) (by omega) (by omega)
      rw [show f + 2 - 1 - j - 1 = f - j by omega] at t
      rw [t, ← sel_m]
      rw [show p + (j + 1) + 1 = p + 2 + j by omega, show f + 2 - (j + 1) = f + 2 - 1 - j by omega]
      congr 1
      unfold dv'
      rw [if_neg (by omega), show p + (j + 1 + 1) = p + 2 + j by omega]
      rfl
  obtain ⟨f, rfl⟩ : ∃ f, e = f + 1 := ⟨e - 1, by omega⟩
  exact key f (by omega)
end
/-- all pairs, as the reference lists them -/
def lrC (p : Nat) : Nat → List Nat
  | 0 => []
  | q + 1 => lrC p q ++ (if p < q then [10 * p + q] else [])
def laC (n : Nat) : Nat → List Nat
  | 0 => []
  | p + 1 => laC n p ++ lrC p n
def nbB (n c : Nat) : Bool := decide (c % 10 = c / 10 + 1) || (decide (c / 10 = 0) && decide (c % 10 = n - 1))
theorem la_perm : ∀ n, n < 11 → 3 ≤ n → (laC n n).Perm (El 0 (n - 1) ++ (laC n n).filter (nbB n)) := by decide +kernel
theorem la_mem : ∀ n, n < 11 → 3 ≤ n → ∀ c ∈ laC n n, c / 10 < n ∧ c % 10 < n := by decide +kernel
noncomputable def fl (F : Nat → Prop) : List Nat → List Nat
  | [] => []
  | x :: l => sel (F x) (x :: fl F l) (fl F l)
theorem fl_app (F : Nat → Prop) (l l' : List Nat) : fl F (l ++ l') = fl F l ++ fl F l' := by
  induction l with
  | nil => rfl
  | cons x l ih =>
    rw [List.cons_append, fl, fl, ih]
    by_cases h : F x
    · rw [sel_t h, sel_t h]; rfl
    · rw [sel_f h, sel_f h]
theorem nn_fl (A : Nat → Prop) (l : List Nat) : ∀ (F : Nat → Prop) (k : Nat), nn (fl A l) F k = nn l (fun y => F y ∧ A y) k := by
  induction l with
  | nil => intro F k; show nn [] F k = _; rw [nn_nil, nn_nil]
  | cons x l ih =>
    intro F k
    rw [fl]
    by_cases h : A x
    · rw [sel_t h]
      cases k with
      | zero => rw [nn_0, nn_0]
      | succ k =>
        rw [nn, nn, ih, ih, show (F x ∧ A x) = F x from propext ⟨fun w => w.1, fun w => ⟨w, h⟩⟩]
        congr 2
        exact nn_c l _ _ k fun y _ => ⟨fun w => ⟨⟨w.1.1, w.2⟩, w.1.2⟩, fun w => ⟨⟨w.1.1, w.2⟩, w.1.2⟩⟩
    · rw [sel_f h, ih, nn_x fun w => h w.2]
def dc (A : Nat → Nat → Prop) (c : Nat) : Prop := A (c / 10) (c % 10)
theorem dc_e {A : Nat → Nat → Prop} {p q : Nat} (hq : q < 10) : dc A (10 * p + q) = A p q := by
  unfold dc
  rw [show (10 * p + q) / 10 = p by omega, show (10 * p + q) % 10 = q by omega]
theorem lr_fl (A : Nat → Nat → Prop) (p q : Nat) (hq : q ≤ 10) : lr A p q = fl (dc A) (lrC p q) := by
  induction q with
  | zero => rfl
  | succ q ih =>
    rw [lr, lrC, fl_app, ih (by omega)]
    congr 1
    by_cases h : p < q
    · rw [if_pos h]
      show sel (p < q ∧ A p q) [10 * p + q] [] = sel (dc A (10 * p + q)) [10 * p + q] []
      rw [dc_e (by omega), show (p < q ∧ A p q) = A p q from propext ⟨fun w => w.2, fun w => ⟨h, w⟩⟩]
    · rw [if_neg h, sel_f fun w => h w.1]; rfl
theorem la_fl (A : Nat → Nat → Prop) (n p : Nat) (hn : n ≤ 10) : la A n p = fl (dc A) (laC n p) := by
  induction p with
  | zero => rfl
  | succ p ih => rw [la, laC, fl_app, ih, lr_fl A p n hn]
theorem nn_tail {F : Nat → Prop} (l' : List Nat) (h : ∀ x, x ∈ l' → ¬ F x) (k : Nat) : nn l' F k = nn [] F k := by
  induction l' with
  | nil => rfl
  | cons x l' ih => rw [nn_x (h x (List.mem_cons_self ..)), ih fun y hy => h y (List.mem_cons_of_mem _ hy)]
theorem nn_ext (l' : List Nat) (l : List Nat) : ∀ (F : Nat → Prop) (k : Nat), (∀ x, x ∈ l' → ¬ F x) → nn (l ++ l') F k = nn l F k := by
  induction l with
  | nil => intro F k h; exact nn_tail l' h k
  | cons x l ih =>
    intro F k h
    rw [List.cons_append]
    cases k with
    | zero => rw [nn_0, nn_0]
    | succ k => rw [nn, nn, ih F (k + 1) h, ih _ k fun y hy w => h y hy w.1]
/-- what the reference counts, over the chords of the polygon -/
theorem la_nn {A : Nat → Nat → Prop} {n : Nat} (hn : n ≤ 10) (h3 : 3 ≤ n) (hA : ∀ p q, p < n → q < n → (q = p + 1 ∨ (p = 0 ∧ q = n - 1)) → ¬ A p q) (k : Nat) : nn (la A n n) (fun _ => True) k = nn (El 0 (n - 1)) (dc A) k := by
  rw [la_fl A n n hn, nn_fl, nn_perm (la_perm n (by omega) h3), nn_ext _ _ _ _ (fun x hx w => ?_)]
  · exact nn_c _ _ _ k fun y _ => ⟨fun w => w.2, fun w => ⟨trivial, w⟩⟩
  · obtain ⟨m1, m2⟩ := List.mem_filter.mp hx
    obtain ⟨r1, r2⟩ := la_mem n (by omega) h3 x m1
    unfold nbB at m2
    simp only [Bool.or_eq_true, Bool.and_eq_true, decide_eq_true_eq] at m2
    exact hA _ _ r1 r2 m2 w.2
end
section
noncomputable def TL (A : Nat → Nat → Prop) (n : Nat) : Nat := nn (El 0 (n - 1)) (dc A) (n - 3)
/-- the entry of the corners p, q -/
noncomputable def VV (A : Nat → Nat → Prop) (n p q : Nat) : Nat := if p = 0 ∧ q = n - 1 then TL A n else dv' (dc A) p (q - p)
def IV (A : Nat → Nat → Prop) (n : Nat) (w : Nat → Int32) (s p0 : Nat) : Prop := ∀ p q, p < q → q < n → (q - p < s ∨ (q - p = s ∧ p < p0)) → w (p * 10 + q) = nI (VV A n p q)
noncomputable def TP (A : Nat → Nat → Prop) (p q : Nat) : Nat := if q = p + 1 then 1 else nn (El p (q - p)) (dc A) (q - p - 2)
section
variable {n : Nat} {X Y : Nat → Int} {s t : Nat → Int32}
theorem ix_10 (p q : Nat) : nI p * 10 + nI q = nI (p * 10 + q) := by
  rw [show nI p * 10 = nI (p * 10) from pk_mul p 10, nI_add]
theorem xl_tp16 {A : Nat → Nat → Prop} {post : Int32 → Prop} {w : Nat → Int32} {p q : Nat} (hn : n ≤ 10) (hq : q < n) (hw : ∀ a b, p ≤ a → a < b → b ≤ q → b - a < q - p → w (a * 10 + b) = nI (dv' (dc A) a (b - a)))
    (h : post (nI (sn (fun i => dv' (dc A) p (i + 1) * dv' (dc A) (p + i + 1) (q - p - 1 - i)) (q - p - 1)))) :
    ∀ d i, p + 1 + i + d = q → wX_tilingsOfPart_16 post (nI p) (nI q) (nI n) (fun i => iN (X i)) (fun i => iN (Y i)) s t w (d + 1) (nI (sn (fun i => dv' (dc A) p (i + 1) * dv' (dc A) (p + i + 1) (q - p - 1 - i)) i)) (nI (p + 1 + i)) := by
  intro d
  induction d with
  | zero =>
    intro i e
    rw [show q - p - 1 = i by omega] at h
    rw [show q - p - 1 = i by omega]
    exact br_t (nI_le (by omega) (by omega)) h
  | succ d ih =>
    intro i e
    have h1 := vp_in_nI (n := p * 10 + (p + 1 + i)) (N := 100) (by omega) (by decide)
    have h2 := vp_in_nI (n := (p + 1 + i) * 10 + q) (N := 100) (by omega) (by decide)
    refine br_f (nI_ge (by omega) (by omega)) ?_
    rw [ix_10, ix_10]
    refine ⟨h1, h2, nm_r ?_ (nm_r (nI_1 (p + 1 + i)) (ih (i + 1) (by omega)))⟩
    rw [nI_clamp (by omega), nI_clamp (by omega), hw p (p + 1 + i) (by omega) (by omega) (by omega) (by omega), hw (p + 1 + i) q (by omega) (by omega) (by omega) (by omega), pk_mul, nI_add, show p + 1 + i - p = i + 1 by omega, show q - (p + 1 + i) = q - p - 1 - i by omega, show p + 1 + i = p + i + 1 by omega]
    rfl
theorem xb_tilingsOfPart {A : Nat → Nat → Prop} {post : Int32 → Prop} {w : Nat → Int32} {p q : Nat} (hn : n ≤ 10) (hp : p < q) (hq : q < n) (hw : ∀ a b, p ≤ a → a < b → b ≤ q → b - a < q - p → w (a * 10 + b) = nI (dv' (dc A) a (b - a)))
    (h : post (nI (TP A p q))) : wpX_tilingsOfPart post (sX n X Y s t w) (nI p) (nI q) := by
  unfold TP at h
  refine pk_eq q (p + 1) (fun e => ?_) (fun e => nm_r (nI_1 p) ⟨q - p - 1 + 1, ?_⟩) (hy := nI_1 p)
  · rw [if_pos e] at h; exact h
  · rw [if_neg e] at h
    refine xl_tp16 hn hq hw ?_ (q - p - 1) 0 (by omega)
    have := tri_sum (F := dc A) (p := p) (e := q - p - 1) (by omega) (by omega)
    rw [show q - p - 1 + 1 = q - p by omega, show q - p - 1 - 1 = q - p - 2 by omega] at this
    rw [← this]; exact h
theorem iv_up {A : Nat → Nat → Prop} {w : Nat → Int32} {span p : Nat} (hn : n ≤ 10) (hp : p + span < n) (h : IV A n w span p) : IV A n (upd w (p * 10 + (p + span)) (nI (VV A n p (p + span)))) span (p + 1) := by
  intro a b h1 h2 h3
  by_cases c : a = p ∧ b = p + span
  · obtain ⟨rfl, rfl⟩ := c
    exact pk_us
  · rw [pk_un (by omega)]
    exact h a b h1 h2 (by omega)
theorem xl_ti23 {post : Int32 → SX → Prop} {J : Int32 → (Nat → Int32) → (Nat → Int32) → (Nat → Int32) → (Nat → Int32) → (Nat → Int32) → Prop} {span : Nat} (g : gr X Y) (hn : n ≤ 10) (h3 : 3 ≤ n) (hs : 1 ≤ span) (hs2 : span < n)
    (hJ : ∀ w', IV (CUX n X Y) n w' (span + 1) 0 → J (nI (span + 1)) (fun i => iN (X i)) (fun i => iN (Y i)) s t w') :
    ∀ d p w, p + span + d = n → IV (CUX n X Y) n w span p → wX_tilings_23 post J (nI span) (nI n) (d + 1) (nI p) (fun i => iN (X i)) (fun i => iN (Y i)) s t w := by
  intro d
  induction d with
  | zero =>
    intro p w e z
    refine br_t ?_ (nm_r (nI_1 span) (hJ w fun a b h1 h2 h4 => z a b h1 h2 (by omega)))
    rw [nI_add]; exact nI_le (by omega) (by omega)
  | succ d ih =>
    intro p w e z
    have hq : p + span < n := by omega
    have hix := vp_in_nI (n := p * 10 + (p + span)) (N := 100) (by omega) (by decide)
    have step : ∀ v : Int32, v = nI (VV (CUX n X Y) n p (p + span)) → (vp_in (nI p * 10 + nI (p + span)) 100 ∧ ∀ a_ways_24, a_ways_24 = upd w (nI p * 10 + nI (p + span)).toNatClampNeg v → ∀ x2_25, x2_25 = nI p + 1 → wX_tilings_23 post J (nI span) (nI n) (d + 1) x2_25 (fun i => iN (X i)) (fun i => iN (Y i)) s t a_ways_24) := by
      intro v ev
      rw [ix_10]
      refine ⟨hix, nm_e (nm_r (nI_1 p) ?_)⟩
      rw [nI_clamp (by omega), ev]
      exact ih (p + 1) _ (by omega) (iv_up hn hq z)
    have hw : ∀ a b, p ≤ a → a < b → b ≤ p + span → b - a < p + span - p → w (a * 10 + b) = nI (dv' (dc (CUX n X Y)) a (b - a)) := by
      intro a b k1 k2 k3 k4
      rw [z a b k2 (by omega) (by omega)]
      unfold VV
      rw [if_neg (by omega)]
    have full : VV (CUX n X Y) n p (p + span) = TP (CUX n X Y) p (p + span) → wX_tilings_55 post J (wX_tilings_23 post J (nI span) (nI n) (d + 1)) (nI span) (nI p) (nI (p + span)) (nI n) (fun i => iN (X i)) (fun i => iN (Y i)) s t w := by
      intro ev
      refine br_f (by decide) (xb_tilingsOfPart hn (by omega) hq hw ?_)
      exact step _ (by rw [ev])
    refine br_f ?_ (nm_r (nI_add p span) (xb_areNeighbours hn (show p < n by omega) hq (fun y => bo_1 (full ?_)) (fun y => bo_0 (xb_isCutN g hn (by omega) hq (fun c => bo_1 (full ?_)) (fun c => bo_0 (br_t rfl (step _ ?_)))))))
    · rw [nI_add]; exact nI_ge (by omega) (by omega)
    · unfold VV TP
      by_cases e1 : p = 0 ∧ p + span = n - 1
      · rw [if_pos e1, if_neg (by omega)]
        unfold TL
        rw [e1.1, show 0 + span - 0 = n - 1 by omega, show n - 1 - 2 = n - 3 by omega]
      · rw [if_neg e1]
        have : span = 1 := by
          rcases y with y | y
          · unfold nx at y; split at y <;> omega
          · unfold nx at y; split at y <;> omega
        subst this
        rw [if_pos rfl, show p + 1 - p = 1 by omega]
        rfl
    · have e1 : ¬ (p = 0 ∧ p + span = n - 1) := fun w => y (Or.inr (by rw [nx_0 (by omega)]; omega))
      have e2 : ¬ (p + span = p + 1) := fun w => y (Or.inl (by rw [nx_1 (by omega)]; omega))
      unfold VV TP dv'
      rw [if_neg e1, if_neg e2, if_neg (by omega), show p + (p + span - p) = p + span by omega, sel_t (by rw [dc_e (by omega)]; exact c)]
    · have e1 : ¬ (p = 0 ∧ p + span = n - 1) := fun w => y (Or.inr (by rw [nx_0 (by omega)]; omega))
      have e2 : ¬ (p + span = p + 1) := fun w => y (Or.inl (by rw [nx_1 (by omega)]; omega))
      unfold VV dv'
      rw [if_neg e1, if_neg (by omega), show p + (p + span - p) = p + span by omega, sel_f (by rw [dc_e (by omega)]; exact c)]
      rfl
theorem xl_ti13 {post : Int32 → SX → Prop} (g : gr X Y) (hn : n ≤ 10) (h3 : 3 ≤ n) (h : ∀ w', post (nI (TL (CUX n X Y) n)) (sX n X Y s t w')) :
    ∀ d span w, 1 ≤ span → span + d = n → IV (CUX n X Y) n w span 0 → wX_tilings_13 post (nI n) (d + 1) (nI span) (fun i => iN (X i)) (fun i => iN (Y i)) s t w := by
  intro d
  induction d with
  | zero =>
    intro span w h1 e z
    have e1 : nI n - 1 = nI (n - 1) := by rw [← nI_pred (n - 1)]; congr 1; congr 1; omega
    refine br_t (nI_le (by omega) (by omega)) ?_
    rw [e1]
    refine ⟨vp_in_nI (n := n - 1) (N := 100) (by omega) (by decide), ?_⟩
    rw [nI_clamp (by omega)]
    have := z 0 (n - 1) (by omega) (by omega) (by omega)
    rw [Nat.zero_mul, Nat.zero_add] at this
    rw [this]
    unfold VV
    rw [if_pos ⟨rfl, rfl⟩]
    exact h w
  | succ d ih =>
    intro span w h1 e z
    exact br_f (nI_ge (by omega) (by omega)) ⟨n - span + 1, xl_ti23 g hn h3 h1 (by omega) (fun w' z' => ih (span + 1) w' (by omega) (by omega) z') (n - span) 0 w (by omega) z⟩
theorem xb_tilings {w : Nat → Int32} {post : Int32 → SX → Prop} (g : gr X Y) (hn : n ≤ 10) (h0 : ¬ PR n X Y → post (-1000) (sX n X Y s t w)) (h1 : PR n X Y → ∀ w', post (nI (TL (CUX n X Y) n)) (sX n X Y s t w')) : wpX_tilings post (sX n X Y s t w) := by
  unfold wpX_tilings
  refine xb_proper g hn (fun y => bo_1 ⟨n - 1 + 1, ?_⟩) (fun y => bo_0 (h0 y))
  have h3 := y.1
  exact xl_ti13 g hn h3 (h1 y) (n - 1) 1 w (by omega) (by omega) (fun p q a b c => by omega)
end
end
section
section
variable {n : Nat} {p : Int32} {X Y : Nat → Int} {k l q c : Nat → Int32}
theorem ncB_iff (x y : Nat) : ncB x y = true ↔ ¬ ((x / 10 < y / 10 ∧ y / 10 < x % 10 ∧ x % 10 < y % 10) ∨ (y / 10 < x / 10 ∧ x / 10 < y % 10 ∧ y % 10 < x % 10)) := by
  unfold ncB
  simp only [Bool.not_eq_true', Bool.or_eq_false_iff, Bool.and_eq_false_iff, decide_eq_false_iff_not]
  omega
theorem yb_cross {post : Int32 → Prop} {a b x y : Nat} (ha : a < 45) (hb : b < 45) (hx : x < 100) (hy : y < 100) (ea : q a = nI x) (eb : q b = nI y) (h1 : ¬ ncB x y = true → post 1) (h0 : ncB x y = true → post 0) : wpY_cross post (sY n p X Y k l q c) (nI a) (nI b) := by
  have ia := vp_in_nI ha (by decide : 45 < 2 ^ 31)
  have ib := vp_in_nI hb (by decide : 45 < 2 ^ 31)
  have z10 : ¬ (10 : Int32) = 0 := by decide
  rw [ncB_iff] at h1 h0
  have d1 : nI x / 10 = nI (x / 10) := pk_div (d := 10) (by omega) (by omega) (by omega)
  have d2 : nI y / 10 = nI (y / 10) := pk_div (d := 10) (by omega) (by omega) (by omega)
  have r1 : nI x - nI x / 10 * 10 = nI (x % 10) := pk_rem (d := 10) (by omega) (by omega) (by omega)
  have r2 : nI y - nI y / 10 * 10 = nI (y % 10) := pk_rem (d := 10) (by omega) (by omega) (by omega)
  have s63 : ¬ (x / 10 < y / 10 ∧ y / 10 < x % 10 ∧ x % 10 < y % 10) → wY_cross_63 post (nI (x / 10)) (nI (x % 10)) (nI (y / 10)) (nI (y % 10)) (nI n) p (fun i => iN (X i)) (fun i => iN (Y i)) k l q c := by
    intro z
    refine pk_le (x / 10) (y / 10) (fun e => h0 (by omega)) (fun e1 => pk_le (y % 10) (x / 10) (fun e => h0 (by omega)) (fun e2 => pk_le (x % 10) (y % 10) (fun e => h0 (by omega)) (fun e3 => h1 (by omega))))
  refine ⟨ia, z10, nm_r (e' := nI (x / 10)) ?_ ⟨ia, z10, nm_r (e' := nI (x % 10)) ?_ ⟨ib, z10, nm_r (e' := nI (y / 10)) ?_ ⟨ib, z10, nm_r (e' := nI (y % 10)) ?_ ?_⟩⟩⟩⟩
  · rw [nI_clamp (by omega), ea, d1]
  · rw [nI_clamp (by omega), ea, r1]
  · rw [nI_clamp (by omega), eb, d2]
  · rw [nI_clamp (by omega), eb, r2]
  · exact pk_le (y / 10) (x / 10) (fun e => s63 (by omega)) (fun e1 => pk_le (x % 10) (y / 10) (fun e => s63 (by omega)) (fun e2 => pk_lt (x % 10) (y % 10) (fun e3 => h1 (by omega)) (fun e3 => s63 (by omega))))
/-- the chosen ones, by their places in the list -/
def CH (L : List Nat) (c : Nat → Int32) (tx : Nat → Nat) (m : Nat) : Prop := ∀ i, i < m → c i = nI (tx i) ∧ tx i < L.length
def FT (L : List Nat) (tx : Nat → Nat) (m : Nat) (x : Nat) : Prop := ∀ i, i < m → ncB (L.getD (tx i) 0) x = true
theorem hp_get {L : List Nat} (hp : HP q L) {i : Nat} (hi : i < L.length) : q i = nI (L.getD i 0) := by
  refine hp i _ ?_
  rw [List.getD_eq_getElem?_getD, List.getElem?_eq_getElem hi]; rfl
theorem get_lt {L : List Nat} (hl : ∀ x, x ∈ L → x < 100) (i : Nat) : L.getD i 0 < 100 := by
  rw [List.getD_eq_getElem?_getD]
  rcases Nat.lt_or_ge i L.length with h | h
  · rw [List.getElem?_eq_getElem h]; exact hl _ (List.getElem_mem h)
  · rw [List.getElem?_eq_none h]; decide
theorem yl_fits {post : Int32 → Prop} {L : List Nat} {tx : Nat → Nat} {j m : Nat} (hp : HP q L) (hl : ∀ x, x ∈ L → x < 100) (h45 : L.length ≤ 45) (hj : j < L.length) (hm : m ≤ 8) (ch : CH L c tx m)
    (h1 : FT L tx m (L.getD j 0) → post 1) (h0 : ¬ FT L tx m (L.getD j 0) → post 0) :
    ∀ d i, i + d = m → (∀ a, a < i → ncB (L.getD (tx a) 0) (L.getD j 0) = true) → wY_fits_2 post (nI j) (nI m) (nI n) p (fun i => iN (X i)) (fun i => iN (Y i)) k l q c (d + 1) (nI i) := by
  intro d
  induction d with
  | zero => exact fun i e z => br_t (nI_le (by omega) (by omega)) (h1 fun a ha => z a (by omega))
  | succ d ih =>
    intro i e z
    obtain ⟨c1, c2⟩ := ch i (by omega)
    refine br_f (nI_ge (by omega) (by omega)) ⟨vp_in_nI (n := i) (N := 8) (by omega) (by decide), ?_⟩
    rw [nI_clamp (by omega), c1]
    refine yb_cross (by omega) (by omega) (get_lt hl _) (get_lt hl _) (hp_get hp c2) (hp_get hp hj) (fun y => bo_1 (h0 fun w => y (w i (by omega)))) (fun y => bo_0 (nm_r (nI_1 i) (ih (i + 1) (by omega) fun a ha => ?_)))
    by_cases cc : a = i
    · subst cc; exact y
    · exact z a (by omega)
theorem yb_fits {post : Int32 → Prop} {L : List Nat} {tx : Nat → Nat} {j m : Nat} (hp : HP q L) (hl : ∀ x, x ∈ L → x < 100) (h45 : L.length ≤ 45) (hj : j < L.length) (hm : m ≤ 8) (ch : CH L c tx m)
    (h1 : FT L tx m (L.getD j 0) → post 1) (h0 : ¬ FT L tx m (L.getD j 0) → post 0) : wpY_fits post (sY n p X Y k l q c) (nI j) (nI m) :=
  ⟨m + 1, yl_fits hp hl h45 hj hm ch h1 h0 m 0 (by omega) (fun a ha => absurd ha (by omega))⟩
theorem drop_c {L : List Nat} {j : Nat} (hj : j < L.length) : L.drop j = L.getD j 0 :: L.drop (j + 1) := by
  rw [List.drop_eq_getElem_cons hj, List.getD_eq_getElem?_getD, List.getElem?_eq_getElem hj]; rfl
theorem yl_lv {post : Int32 → SY → Prop} {L : List Nat} {w : Nat} (hp : HP q L) (hl : ∀ x, x ∈ L → x < 100) (h45 : L.length ≤ 45) (hw : w ≤ 7) :
    ∀ d j m sets (c : Nat → Int32) (tx : Nat → Nat), j + d = L.length → m < w → CH L c tx m →
    (∀ c', (∀ i, i < m → c' i = c i) → ∃ f, wY_tilings_37 post (nI w) (nI n) (nI L.length) f (nI m) (nI (sets + nn (L.drop j) (FT L tx m) (w - m))) (nI L.length) (fun i => iN (X i)) (fun i => iN (Y i)) k l q c') →
    ∃ f, wY_tilings_37 post (nI w) (nI n) (nI L.length) f (nI m) (nI sets) (nI j) (fun i => iN (X i)) (fun i => iN (Y i)) k l q c := by
  intro d
  induction d with
  | zero =>
    intro j m sets c tx e hm ch h
    have e' : j = L.length := by omega
    subst e'
    have := h c fun i _ => rfl
    rw [List.drop_length, nn_nil, if_neg (by omega), Nat.add_zero] at this
    exact this
  | succ d ih =>
    intro j m sets c tx e hm ch h
    have hj : j < L.length := by omega
    obtain ⟨v, hv⟩ : ∃ v, w - m = v + 1 := ⟨w - m - 1, by omega⟩
    rw [drop_c hj, hv] at h
    have w0 : ¬ nI w ≤ 0 := nI_nle (by omega) (by omega)
    have m0 : ¬ nI m < 0 := nI_pos (by omega)
    have jp : ¬ nI j = nI L.length := by rw [nI_eq (by omega) (by omega)]; omega
    by_cases fit : FT L tx m (L.getD j 0)
    · rw [nn, sel_t fit] at h
      have e8 : (nI m).toNatClampNeg = m := nI_clamp (by omega)
      have i8 := vp_in_nI (n := m) (N := 8) (by omega) (by decide)
      have tx1 : ∀ c' : Nat → Int32, (∀ i, i < m → c' i = upd c m (nI j) i) → ∀ i, i < m → c' i = c i := fun c' hc i hi => by rw [hc i hi, pk_un (by omega)]
      by_cases last : m + 1 = w
      · obtain rfl : v = 0 := by omega
        have := ih (j + 1) m (sets + 1) (upd c m (nI j)) tx (by omega) hm (fun i hi => by rw [pk_un (by omega)]; exact ch i hi) (fun c' hc => by
          have := h c' (tx1 c' hc)
          rw [nn_0] at this
          rw [hv, show sets + 1 + nn (L.drop (j + 1)) (FT L tx m) (0 + 1) = sets + (nn (L.drop (j + 1)) (FT L tx m) (0 + 1) + 1) by omega]
          exact this)
        obtain ⟨f, hf⟩ := this
        refine ⟨f + 1, br_f m0 (br_f w0 (br_f jp (yb_fits (n := n) (X := X) (Y := Y) hp hl h45 hj (by omega) ch (fun _ => bo_1 ⟨i8, nm_r (e' := upd c m (nI j)) (by rw [e8]) ?_⟩) (fun y => absurd fit y))))⟩
        refine pk_eq (m + 1) w (fun _ => pk_eq (m + 1) w (fun _ => nm_r (nI_1 j) ?_) (fun z => absurd last z) (hx := nI_1 m)) (fun z => absurd last z) (hx := nI_1 m)
        rw [nI_1]
        exact hf
      · have inner := ih (j + 1) (m + 1) sets (upd c m (nI j)) (fun i => if i = m then j else tx i) (by omega) (by omega) (fun i hi => by
          show upd c m (nI j) i = nI (if i = m then j else tx i) ∧ (if i = m then j else tx i) < L.length
          by_cases ei : i = m
          · subst ei; rw [pk_us, if_pos rfl]; exact ⟨rfl, hj⟩
          · rw [pk_un ei, if_neg ei]; exact ch i (by omega)) (fun c2 hc2 => by
          have eF : nn (L.drop (j + 1)) (FT L (fun i => if i = m then j else tx i) (m + 1)) (w - (m + 1)) = nn (L.drop (j + 1)) (fun y => FT L tx m y ∧ ncB (L.getD j 0) y = true) v := by
            rw [show w - (m + 1) = v by omega]
            refine nn_c _ _ _ v fun y _ => ⟨fun z => ⟨fun i hi => ?_, ?_⟩, fun z i hi => ?_⟩
            · have : ncB (L.getD (if i = m then j else tx i) 0) y = true := z i (by omega)
              rw [if_neg (show ¬ i = m by omega)] at this
              exact this
            · have : ncB (L.getD (if m = m then j else tx m) 0) y = true := z m (by omega)
              rw [if_pos rfl] at this
              exact this
            · show ncB (L.getD (if i = m then j else tx i) 0) y = true
              by_cases ei : i = m
              · rw [if_pos ei]; exact z.2
              · rw [if_neg ei]; exact z.1 i (by omega)
          rw [eF]
          have hc0 : ∀ i, i < m → c2 i = c i := fun i hi => by rw [hc2 i (by omega), pk_un (by omega)]
          have cont := ih (j + 1) m (sets + nn (L.drop (j + 1)) (fun y => FT L tx m y ∧ ncB (L.getD j 0) y = true) v) c2 tx (by omega) hm (fun i hi => by rw [hc0 i hi]; exact ch i hi) (fun c' hc => by
            have := h c' (fun i hi => by rw [hc i hi, hc0 i hi])
            rw [hv, show sets + nn (L.drop (j + 1)) (fun y => FT L tx m y ∧ ncB (L.getD j 0) y = true) v + nn (L.drop (j + 1)) (FT L tx m) (v + 1) = sets + (nn (L.drop (j + 1)) (FT L tx m) (v + 1) + nn (L.drop (j + 1)) (fun y => FT L tx m y ∧ ncB (L.getD j 0) y = true) v) by omega]
            exact this)
          obtain ⟨f, hf⟩ := cont
          refine ⟨f + 1, br_f (nI_pos (by omega)) (br_f w0 (br_t rfl (nm_r (pk_m1 m) (br_f m0 ⟨i8, nm_r (e' := nI (j + 1)) ?_ hf⟩))))⟩
          rw [e8, hc2 m (by omega), pk_us, nI_1])
        obtain ⟨f, hf⟩ := inner
        refine ⟨f + 1, br_f m0 (br_f w0 (br_f jp (yb_fits (n := n) (X := X) (Y := Y) hp hl h45 hj (by omega) ch (fun _ => bo_1 ⟨i8, nm_r (e' := upd c m (nI j)) (by rw [e8]) ?_⟩) (fun y => absurd fit y))))⟩
        exact pk_eq (m + 1) w (fun z => absurd z last) (fun _ => pk_eq (m + 1) w (fun z => absurd z last) (fun _ => nm_r (nI_1 m) (nm_r (nI_1 j) hf)) (hx := nI_1 m)) (hx := nI_1 m)
    · rw [nn, sel_f fit, Nat.add_zero, ← hv] at h
      obtain ⟨f, hf⟩ := ih (j + 1) m sets c tx (by omega) hm ch h
      exact ⟨f + 1, br_f m0 (br_f w0 (br_f jp (yb_fits (n := n) (X := X) (Y := Y) hp hl h45 hj (by omega) ch (fun y => absurd y fit) (fun _ => bo_0 (nm_r (nI_1 j) hf)))))⟩
theorem fl_mem (F : Nat → Prop) (l : List Nat) (x : Nat) (h : x ∈ fl F l) : x ∈ l := by
  induction l with
  | nil => exact h
  | cons y l ih =>
    rw [fl] at h
    by_cases z : F y
    · rw [sel_t z] at h
      rcases List.mem_cons.mp h with e | e
      · rw [e]; exact List.mem_cons_self ..
      · exact List.mem_cons_of_mem _ (ih e)
    · rw [sel_f z] at h
      exact List.mem_cons_of_mem _ (ih h)
theorem la_100 : ∀ n, n < 11 → ∀ c ∈ laC n n, c < 100 := by decide +kernel
theorem yb_tilings {post : Int32 → SY → Prop} (g : gr X Y) (hn : n ≤ 10) (h0 : ¬ PR n X Y → post (-1000) (sY n p X Y k l q c)) (h1 : PR n X Y → ∀ p' q' c', post (nI (TL (CUX n X Y) n)) (sY n p' X Y k l q' c')) : wpY_tilings post (sY n p X Y k l q c) := by
  unfold wpY_tilings
  refine yb_isProper g hn (fun y => bo_1 (yb_listCuts g hn fun q' hp => ?_)) (fun y => bo_0 (h0 y))
  have h3 := y.1
  have fin := h1 y
  obtain ⟨w, hw⟩ : ∃ w, n = w + 3 := ⟨n - 3, by omega⟩
  have e3 : nI n - 3 = nI w := by
    rw [hw, show nI (w + 3) = nI w + 3 from (nI_add w 3).symm, Int32.add_sub_cancel]
  have hA : ∀ a b, a < n → b < n → (b = a + 1 ∨ (a = 0 ∧ b = n - 1)) → ¬ CUX n X Y a b := by
    intro a b ha hb z cu
    refine cu.2.1 ?_
    rcases z with z | ⟨z1, z2⟩
    · left; rw [nx_1 (by omega)]; omega
    · right; rw [nx_0 (by omega)]; omega
  have eT : nn (la (CUX n X Y) n n) (fun _ => True) w = TL (CUX n X Y) n := by
    rw [la_nn hn h3 hA]
    unfold TL
    rw [show n - 3 = w by omega]
  refine nm_r e3 (pk_eq w 0 (fun z => ?_) (fun z => ?_) (hb := by decide))
  · subst z
    refine ⟨1, br_f (by decide) (br_t (by decide) ?_)⟩
    rw [nn_0] at eT
    have := fin (nI (la (CUX n X Y) n n).length) q' c
    rw [← eT] at this
    exact this
  · have hl : ∀ x, x ∈ la (CUX n X Y) n n → x < 100 := by
      intro x hx
      rw [la_fl _ n n hn] at hx
      exact la_100 n (by omega) x (fl_mem _ _ x hx)
    have := yl_lv (n := n) (X := X) (Y := Y) (k := k) (l := l) (post := post) (w := w) hp hl (ld_len _ hn) (by omega) (la (CUX n X Y) n n).length 0 0 0 c (fun _ => 0) (by omega) (by omega) (fun i hi => absurd hi (by omega)) (fun c' _ => by
      have e : nn ((la (CUX n X Y) n n).drop 0) (FT (la (CUX n X Y) n n) (fun _ => 0) 0) (w - 0) = TL (CUX n X Y) n := by
        rw [← eT]
        exact nn_c _ _ _ w fun x _ => ⟨fun _ => trivial, fun _ i hi => absurd hi (by omega)⟩
      rw [e, Nat.zero_add]
      refine ⟨2, br_f (nI_pos (by decide)) (br_f (nI_nle (by omega) (by omega)) (br_t rfl (nm_r (e' := -1) (by decide) (br_t (by decide) (br_t (by decide) (fin _ q' c'))))))⟩)
    exact this
end
end
section
/-- the same corners on both sides, all of them on the grid -/
def i_Rel (k : Nat) (u : SX) (v : SY) : Prop := ∃ (n : Nat) (X Y : Nat → Int) (s t w : Nat → Int32) (p : Int32) (a b q c : Nat → Int32), n ≤ 10 ∧ gr X Y ∧ u = sX n X Y s t w ∧ v = sY n p X Y a b q c
theorem rl {k n : Nat} {X Y : Nat → Int} {s t w : Nat → Int32} {p : Int32} {a b q c : Nat → Int32} (hn : n ≤ 10) (g : gr X Y) : i_Rel k (sX n X Y s t w) (sY n p X Y a b q c) := ⟨n, X, Y, s, t, w, p, a, b, q, c, hn, g, rfl, rfl⟩
theorem i_up {k : Nat} {u : SX} {v : SY} (h : i_Rel k u v) : i_Rel (k + 3) u v := h
theorem i_vc0 : wpX_init (fun u => wpY_init (fun v => i_Rel 0 u v)) := by
  have e : (fun _ => 0 : Nat → Int32) = fun i => iN ((fun _ => 0 : Nat → Int) i) := by funext i; exact ie_0
  refine ⟨0, fun _ => 0, fun _ => 0, fun _ => 0, fun _ => 0, fun _ => 0, 0, fun _ => 0, fun _ => 0, fun _ => 0, fun _ => 0, by omega, fun i => ⟨⟨Int.le_refl 0, (by decide : (0 : Int) ≤ 15)⟩, ⟨Int.le_refl 0, (by decide : (0 : Int) ≤ 15)⟩⟩, ?_, ?_⟩
  · show (_, _, _, _) = (_, _, _, _)
    rw [← e]; rfl
  · show (_, _, _, _) = (_, _, _, _)
    rw [← e]; rfl
theorem i_vc_corner {k : Nat} {u : SX} {v : SY} (I : i_Rel k u v) (hk : k + 3 ≤ 1536) (v1 : Int32) : wpX_corner (fun r u' => wpY_corner (fun r' v' => r' = r ∧ i_Rel (k + 3) u' v') v v1) u v1 := by
  obtain ⟨n, X, Y, s, t, w, p, a, b, q, c, hn, g, rfl, rfl⟩ := I
  refine xb_corner hn (fun y => ?_) (fun y e => ?_) (fun m hm e hl => ?_)
  · exact yb_corner hn (fun _ => ⟨rfl, rl hn g⟩) (fun z => absurd z y) (fun m hm e => by subst e; exact absurd ⟨by rw [nI_toInt (by omega)]; omega, by rw [nI_toInt (by omega)]; omega⟩ y)
  · exact yb_corner hn (fun z => absurd y z) (fun _ _ => ⟨rfl, rl hn g⟩) (fun m hm _ hl => by omega)
  · refine yb_corner hn (fun z => ?_) (fun _ e2 => by omega) (fun m' hm' e' _ => ?_)
    · subst e; exact absurd ⟨by rw [nI_toInt (by omega)]; omega, by rw [nI_toInt (by omega)]; omega⟩ z
    · subst e
      rw [nI_eq (by omega) (by omega)] at e'
      subst e'
      exact ⟨rfl, rl (by omega) (gr_ok.mpr ⟨ok_us (gr_ok.mp g).1 (by omega), ok_us (gr_ok.mp g).2 (by omega)⟩)⟩
theorem i_vc_insert {k : Nat} {u : SX} {v : SY} (I : i_Rel k u v) (hk : k + 3 ≤ 1536) (v1 : Int32) (v2 : Int32) : wpX_insert (fun r u' => wpY_insert (fun r' v' => r' = r ∧ i_Rel (k + 3) u' v') v v1 v2) u v1 v2 := by
  obtain ⟨n, X, Y, s, t, w, p, a, b, q, c, hn, g, rfl, rfl⟩ := I
  have hp : ∀ i m, i ≤ n → m < 256 → v1 = nI i → v2 = nI m → ((0 ≤ v2.toInt ∧ v2.toInt < 256) ∧ ∃ i, i ≤ n ∧ v1 = nI i) := by
    intro i m hi hm e1 e2
    refine ⟨?_, i, hi, e1⟩
    rw [e2, nI_toInt (by omega)]; omega
  refine xb_insert hn (fun y => ?_) (fun y e => ?_) (fun i m hi hm e1 e2 hl => ?_)
  · exact yb_insert hn (fun _ => ⟨rfl, rl hn g⟩) (fun z => absurd z y) (fun i m hi hm e1 e2 => absurd (hp i m hi hm e1 e2) y)
  · exact yb_insert hn (fun z => absurd y z) (fun _ _ => ⟨rfl, rl hn g⟩) (fun i m _ _ _ _ hl => by clear y; omega)
  · refine yb_insert hn (fun z => absurd (hp i m hi hm e1 e2) z) (fun _ e3 => by clear hp; omega) (fun i' m' hi' hm' e1' e2' _ => ?_)
    subst e1 e2
    rw [nI_eq (by omega) (by omega)] at e1' e2'
    subst e1' e2'
    exact ⟨rfl, rl (by omega) (gr_ok.mpr ⟨ok_us (ok_shU (gr_ok.mp g).1 _ _) (by omega), ok_us (ok_shU (gr_ok.mp g).2 _ _) (by omega)⟩)⟩
theorem i_vc_remove {k : Nat} {u : SX} {v : SY} (I : i_Rel k u v) (hk : k + 3 ≤ 1536) (v1 : Int32) : wpX_remove (fun r u' => wpY_remove (fun r' v' => r' = r ∧ i_Rel (k + 3) u' v') v v1) u v1 := by
  obtain ⟨n, X, Y, s, t, w, p, a, b, q, c, hn, g, rfl, rfl⟩ := I
  refine xb_remove hn (fun y => ?_) (fun i m hi e1 e2 => ?_)
  · exact yb_remove hn (fun _ => ⟨rfl, rl hn g⟩) (fun i m hi _ e => absurd e (y i hi))
  · refine yb_remove hn (fun z => absurd e2 (z i hi)) (fun i' m' hi' e1' e2' => ?_)
    subst e2
    rw [nI_eq (by omega) (by omega)] at e2'
    subst e2'
    have em : m' = m := by omega
    subst em
    exact ⟨rfl, rl (by omega) (gr_ok.mpr ⟨ok_shD (gr_ok.mp g).1 _ _, ok_shD (gr_ok.mp g).2 _ _⟩)⟩
theorem i_vc_clear {k : Nat} {u : SX} {v : SY} (I : i_Rel k u v) (hk : k + 3 ≤ 1536) : wpX_clear (fun u' => wpY_clear (fun v' => i_Rel (k + 3) u' v') v) u := by
  obtain ⟨n, X, Y, s, t, w, p, a, b, q, c, hn, g, rfl, rfl⟩ := I
  exact rl (k := k + 3) (n := 0) (by omega) g
theorem i_vc_corners {k : Nat} {u : SX} {v : SY} (I : i_Rel k u v) (hk : k + 3 ≤ 1536) : wpX_corners (fun r => wpY_corners (fun r' => r' = r ∧ i_Rel (k + 3) u v) v) u := by
  obtain ⟨n, X, Y, s, t, w, p, a, b, q, c, hn, g, rfl, rfl⟩ := I
  exact ⟨rfl, rl hn g⟩
theorem i_vc_move {k : Nat} {u : SX} {v : SY} (I : i_Rel k u v) (hk : k + 3 ≤ 1536) (v1 : Int32) (v2 : Int32) : wpX_move (fun r u' => wpY_move (fun r' v' => r' = r ∧ i_Rel (k + 3) u' v') v v1 v2) u v1 v2 := by
  obtain ⟨n, X, Y, s, t, w, p, a, b, q, c, hn, g, rfl, rfl⟩ := I
  obtain ⟨d, rfl, hd⟩ := in_dx v1
  obtain ⟨e, rfl, he⟩ := in_dx v2
  refine xb_move g hn hd he (fun y => ?_) (fun y => ?_)
  · refine yb_move g hn hd he (fun _ => ⟨rfl, rl hn g⟩) (fun z => ?_)
    obtain ⟨i, hi, x⟩ := y
    exact absurd (z i hi) x
  · refine yb_move g hn hd he (fun ⟨i, hi, x⟩ => absurd (y i hi) x) (fun _ => ⟨rfl, rl hn (gr_ok.mpr ⟨ok_mvF (gr_ok.mp g).1 fun i hi => (y i hi).1, ok_mvF (gr_ok.mp g).2 fun i hi => (y i hi).2⟩)⟩)
theorem i_vc_reverse {k : Nat} {u : SX} {v : SY} (I : i_Rel k u v) (hk : k + 3 ≤ 1536) : wpX_reverse (fun r u' => wpY_reverse (fun r' v' => r' = r ∧ i_Rel (k + 3) u' v') v) u := by
  obtain ⟨n, X, Y, s, t, w, p, a, b, q, c, hn, g, rfl, rfl⟩ := I
  exact xb_reverse hn (yb_reverse hn fun k' l' => ⟨rfl, rl hn (gr_ok.mpr ⟨ok_rvE (gr_ok.mp g).1 _, ok_rvE (gr_ok.mp g).2 _⟩)⟩)
theorem i_vc_keep {k : Nat} {u : SX} {v : SY} (I : i_Rel k u v) (hk : k + 3 ≤ 1536) (v1 : Int32) (v2 : Int32) : wpX_keep (fun r u' => wpY_keep (fun r' v' => r' = r ∧ i_Rel (k + 3) u' v') v v1 v2) u v1 v2 := by
  obtain ⟨n, X, Y, s, t, w, p, a, b, q, c, hn, g, rfl, rfl⟩ := I
  refine xb_keep g hn (fun y => ?_) (fun i j s' t' hi hj e1 e2 y => ?_)
  · exact yb_keep g hn (fun _ => ⟨rfl, rl hn g⟩) (fun i j k' l' _ _ _ _ z => absurd z y)
  · refine yb_keep g hn (fun z => absurd y z) (fun i' j' k' l' hi' hj' e1' e2' z => ?_)
    subst e1 e2
    rw [nI_eq (by omega) (by omega)] at e1' e2'
    subst e1' e2'
    have hl : (j + n - i) % n < n := Nat.mod_lt _ (by omega)
    exact ⟨rfl, rl (by unfold kpM; omega) (gr_ok.mpr ⟨ok_kpE (gr_ok.mp g).1 _ _ _, ok_kpE (gr_ok.mp g).2 _ _ _⟩)⟩
theorem i_vc_proper {k : Nat} {u : SX} {v : SY} (I : i_Rel k u v) (hk : k + 3 ≤ 1536) : wpX_proper (fun r => wpY_proper (fun r' => r' = r ∧ i_Rel (k + 3) u v) v) u := by
  obtain ⟨n, X, Y, s, t, w, p, a, b, q, c, hn, g, rfl, rfl⟩ := I
  refine xb_proper g hn (fun y => ?_) (fun y => ?_)
  · unfold wpY_proper
    exact yb_isProper g hn (fun _ => ⟨rfl, rfl, rl hn g⟩) (fun z => absurd y z)
  · unfold wpY_proper
    exact yb_isProper g hn (fun z => absurd z y) (fun _ => ⟨rfl, rfl, rl hn g⟩)
theorem i_vc_area {k : Nat} {u : SX} {v : SY} (I : i_Rel k u v) (hk : k + 3 ≤ 1536) : wpX_area (fun r => wpY_area (fun r' => r' = r ∧ i_Rel (k + 3) u v) v) u := by
  obtain ⟨n, X, Y, s, t, w, p, a, b, q, c, hn, g, rfl, rfl⟩ := I
  unfold wpX_area
  refine xb_proper g hn (fun y => bo_1 (xb_signedArea hn ?_)) (fun y => bo_0 ?_)
  · have h := ar_eq g y
    have r := sA_r (n := n) g n
    have fin : ∀ z : Int, z = 2 * (cn (PT n X Y 1) 256 : Int) + cn (PT n X Y 0) 256 - 2 → wpY_area (fun r' => r' = iN z ∧ i_Rel (k + 3) (sX n X Y s t w) (sY n p X Y a b q c)) (sY n p X Y a b q c) := by
      intro z e
      unfold wpY_area
      refine yb_isProper g hn (fun _ => bo_1 (yb_countPlaces (v := 1) g hn (sm_k _) (yb_countPlaces (v := 0) g hn (sm_k _) ⟨?_, rl hn g⟩))) (fun x => absurd y x)
      rw [e, ie_nI, ie_nI, ie_2, ie_mul, ie_add, ie_sub]
    refine ib_le 0 _ ie_0 rfl (sm_k 0) ⟨by omega, by omega⟩ (fun z => fin _ (h.1 z)) (fun z => ?_)
    rw [ie_neg]
    exact fin _ (h.2 z)
  · unfold wpY_area
    exact yb_isProper g hn (fun z => absurd z y) (fun _ => bo_0 ⟨rfl, rl hn g⟩)
theorem i_vc_left {k : Nat} {u : SX} {v : SY} (I : i_Rel k u v) (hk : k + 3 ≤ 1536) : wpX_left (fun r => wpY_left (fun r' => r' = r ∧ i_Rel (k + 3) u v) v) u := by
  obtain ⟨n, X, Y, s, t, w, p, a, b, q, c, hn, g, rfl, rfl⟩ := I
  unfold wpX_left
  have r := sA_r (n := n) g n
  refine xb_proper g hn (fun y => bo_1 (xb_signedArea hn (xb_pos ⟨by omega, by omega⟩ (fun z => ?_) (fun z => ?_)))) (fun y => bo_0 ?_)
  · exact yb_left g hn (fun x => absurd y x) (fun _ i hi hl => ⟨fun _ => ⟨rfl, rl hn g⟩, fun x => absurd ((lf_eq g y i hi hl).mp z) x⟩)
  · exact yb_left g hn (fun x => absurd y x) (fun _ i hi hl => ⟨fun x => absurd ((lf_eq g y i hi hl).mpr x) z, fun _ => ⟨rfl, rl hn g⟩⟩)
  · exact yb_left g hn (fun _ => ⟨rfl, rl hn g⟩) (fun x => absurd x y)
theorem i_vc_edge {k : Nat} {u : SX} {v : SY} (I : i_Rel k u v) (hk : k + 3 ≤ 1536) : wpX_edge (fun r => wpY_edge (fun r' => r' = r ∧ i_Rel (k + 3) u v) v) u := by
  obtain ⟨n, X, Y, s, t, w, p, a, b, q, c, hn, g, rfl, rfl⟩ := I
  unfold wpX_edge
  refine xb_proper g hn (fun y => bo_1 (xb_countPoints (v := 0) g hn (sm_k _) ?_)) (fun y => bo_0 ?_)
  · unfold wpY_edge
    exact yb_isProper g hn (fun _ => bo_1 (yb_countPlaces (v := 0) g hn (sm_k _) ⟨rfl, rl hn g⟩)) (fun x => absurd y x)
  · unfold wpY_edge
    exact yb_isProper g hn (fun x => absurd x y) (fun _ => bo_0 ⟨rfl, rl hn g⟩)
theorem i_vc_inside {k : Nat} {u : SX} {v : SY} (I : i_Rel k u v) (hk : k + 3 ≤ 1536) : wpX_inside (fun r => wpY_inside (fun r' => r' = r ∧ i_Rel (k + 3) u v) v) u := by
  obtain ⟨n, X, Y, s, t, w, p, a, b, q, c, hn, g, rfl, rfl⟩ := I
  unfold wpX_inside
  refine xb_proper g hn (fun y => bo_1 (xb_countPoints (v := 1) g hn (sm_k _) ?_)) (fun y => bo_0 ?_)
  · unfold wpY_inside
    exact yb_isProper g hn (fun _ => bo_1 (yb_countPlaces (v := 1) g hn (sm_k _) ⟨rfl, rl hn g⟩)) (fun x => absurd y x)
  · unfold wpY_inside
    exact yb_isProper g hn (fun x => absurd x y) (fun _ => bo_0 ⟨rfl, rl hn g⟩)
theorem i_vc_where {k : Nat} {u : SX} {v : SY} (I : i_Rel k u v) (hk : k + 3 ≤ 1536) (v1 : Int32) : wpX_where (fun r => wpY_where (fun r' => r' = r ∧ i_Rel (k + 3) u v) v v1) u v1 := by
  obtain ⟨n, X, Y, s, t, w, p, a, b, q, c, hn, g, rfl, rfl⟩ := I
  unfold wpX_where
  refine xb_isPoint (fun x => bo_1 ?_) (fun x => bo_0 ?_)
  · obtain ⟨m, hm, rfl⟩ := pt_of x
    refine xb_proper g hn (fun y => bo_1 ⟨nz16, nz16, ?_⟩) (fun y => bo_0 ?_)
    · have e1 : 2 * (nI m - nI m / 16 * 16) = iN (2 * ((m % 16 : Nat) : Int)) := by rw [pt_r hm, ie_2, ie_mul]
      have e2 : 2 * (nI m / 16) = iN (2 * ((m / 16 : Nat) : Int)) := by rw [pt_q hm, ie_2, ie_mul]
      have e3 : nI m / 16 * 2 = iN (2 * ((m / 16 : Nat) : Int)) := by rw [pt_q hm, ie_2, ie_mul, Int.mul_comm]
      rw [e1, e2]
      refine xb_placeOf g hn (by omega) (by omega) ?_
      unfold wpY_where
      refine yb_isPoint (fun _ => bo_1 (yb_isProper g hn (fun _ => bo_1 ⟨nz16, nz16, ?_⟩) (fun z => absurd y z))) (fun z => absurd x z)
      rw [e1, e3]
      exact yb_place g hn (by omega) (by omega) ⟨rfl, rl hn g⟩
    · unfold wpY_where
      exact yb_isPoint (fun _ => bo_1 (yb_isProper g hn (fun z => absurd z y) (fun _ => bo_0 ⟨rfl, rl hn g⟩))) (fun z => absurd x z)
  · unfold wpY_where
    exact yb_isPoint (fun z => absurd z x) (fun _ => bo_0 ⟨rfl, rl hn g⟩)
theorem i_vc_convex {k : Nat} {u : SX} {v : SY} (I : i_Rel k u v) (hk : k + 3 ≤ 1536) : wpX_convex (fun r => wpY_convex (fun r' => r' = r ∧ i_Rel (k + 3) u v) v) u := by
  obtain ⟨n, X, Y, s, t, w, p, a, b, q, c, hn, g, rfl, rfl⟩ := I
  have f1 : fb (∃ m, m < 0 ∧ 0 < tu n X Y m) = 0 := fb_f (by rintro ⟨m, hm, _⟩; omega)
  have f2 : fb (∃ m, m < 0 ∧ tu n X Y m < 0) = 0 := fb_f (by rintro ⟨m, hm, _⟩; omega)
  have yy : ∀ {P : Int32 → Prop}, (PR n X Y → CV n X Y → P 1) → (¬ (PR n X Y ∧ CV n X Y) → P 0) → wpY_convex P (sY n p X Y a b q c) := by
    intro P h1 h0
    have := yl_cv6 (p := p) (k := a) (l := b) (q := q) (c := c) g hn h1 h0 n 0 (by omega)
    rw [f1, f2] at this
    exact ⟨_, this⟩
  unfold wpX_convex
  refine xb_proper g hn (fun y => bo_1 ⟨n + 1, ?_⟩) (fun y => bo_0 ?_)
  · have := xl_cv15 (s := s) (t := t) (w := w) (post := fun r => wpY_convex (fun r' => r' = r ∧ i_Rel (k + 3) (sX n X Y s t w) (sY n p X Y a b q c)) (sY n p X Y a b q c)) g hn (fun z => yy (fun _ _ => ⟨rfl, rl hn g⟩) (fun x => absurd ⟨y, z⟩ x)) (fun z => yy (fun _ x => absurd x z) (fun _ => ⟨rfl, rl hn g⟩)) n 0 (by omega)
    rw [f1, f2] at this
    exact this
  · exact yy (fun x _ => absurd x y) (fun _ => ⟨rfl, rl hn g⟩)
theorem i_vc_cut {k : Nat} {u : SX} {v : SY} (I : i_Rel k u v) (hk : k + 3 ≤ 1536) (v1 : Int32) (v2 : Int32) : wpX_cut (fun r => wpY_cut (fun r' => r' = r ∧ i_Rel (k + 3) u v) v v1 v2) u v1 v2 := by
  obtain ⟨n, X, Y, s, t, w, p, a, b, q, c, hn, g, rfl, rfl⟩ := I
  refine xb_cut g hn (fun y => ?_) (fun y => ?_)
  · exact yb_cut g hn (fun _ => ⟨rfl, rl hn g⟩) (fun x => absurd y x)
  · exact yb_cut g hn (fun x => absurd x y) (fun _ => ⟨rfl, rl hn g⟩)
theorem i_vc_cuts {k : Nat} {u : SX} {v : SY} (I : i_Rel k u v) (hk : k + 3 ≤ 1536) : wpX_cuts (fun r => wpY_cuts (fun r' v' => r' = r ∧ i_Rel (k + 3) u v') v) u := by
  obtain ⟨n, X, Y, s, t, w, p, a, b, q, c, hn, g, rfl, rfl⟩ := I
  refine xb_cuts g hn (fun y => ?_) (fun y => ?_)
  · exact yb_cuts g hn (fun _ => ⟨rfl, rl hn g⟩) (fun x => absurd x y)
  · exact yb_cuts g hn (fun x => absurd y x) (fun _ q' => ⟨rfl, rl hn g⟩)
theorem i_vc_tilings {k : Nat} {u : SX} {v : SY} (I : i_Rel k u v) (hk : k + 3 ≤ 1536) : wpX_tilings (fun r u' => wpY_tilings (fun r' v' => r' = r ∧ i_Rel (k + 3) u' v') v) u := by
  obtain ⟨n, X, Y, s, t, w, p, a, b, q, c, hn, g, rfl, rfl⟩ := I
  refine xb_tilings g hn (fun y => ?_) (fun y w' => ?_)
  · exact yb_tilings g hn (fun _ => ⟨rfl, rl hn g⟩) (fun x => absurd x y)
  · exact yb_tilings g hn (fun x => absurd y x) (fun _ p' q' c' => ⟨rfl, rl hn g⟩)
theorem i_vc_hull {k : Nat} {u : SX} {v : SY} (I : i_Rel k u v) (hk : k + 3 ≤ 1536) : wpX_hull (fun r => wpY_hull (fun r' => r' = r ∧ i_Rel (k + 3) u v) v) u := by
  obtain ⟨n, X, Y, s, t, w, p, a, b, q, c, hn, g, rfl, rfl⟩ := I
  have h := hu_eq (n := n) (X := X) (Y := Y)
  refine xb_hull g hn (fun y => ?_) (fun y => ?_)
  · have e : cn (HF n (HX n X Y)) (n * n) = cn (HF n (HY n X Y)) (n * n) := by
      rcases h with h | h
      · exact h.2
      · omega
    exact yb_hull g hn (fun z => ⟨by rw [e], rl hn g⟩) (fun z => by omega)
  · have e : cn (HF n (HY n X Y)) (n * n) = 0 := by
      rcases h with h | h
      · omega
      · exact h.2
    exact yb_hull g hn (fun z => absurd e z) (fun z => ⟨rfl, rl hn g⟩)
theorem i_vc_hullArea {k : Nat} {u : SX} {v : SY} (I : i_Rel k u v) (hk : k + 3 ≤ 1536) : wpX_hullArea (fun r => wpY_hullArea (fun r' => r' = r ∧ i_Rel (k + 3) u v) v) u := by
  obtain ⟨n, X, Y, s, t, w, p, a, b, q, c, hn, g, rfl, rfl⟩ := I
  have h := ha_eq (n := n) (X := X) (Y := Y)
  refine xb_hullArea g hn (fun y => ?_) (fun y => ?_)
  · rw [h] at y ⊢
    exact yb_hullArea g hn (fun z => ⟨rfl, rl hn g⟩) (fun z => absurd z y)
  · rw [h] at y
    exact yb_hullArea g hn (fun z => absurd y z) (fun z => ⟨rfl, rl hn g⟩)
theorem i_vc_widest {k : Nat} {u : SX} {v : SY} (I : i_Rel k u v) (hk : k + 3 ≤ 1536) : wpX_widest (fun r => wpY_widest (fun r' => r' = r ∧ i_Rel (k + 3) u v) v) u := by
  obtain ⟨n, X, Y, s, t, w, p, a, b, q, c, hn, g, rfl, rfl⟩ := I
  have yy : ∀ {P : Int32 → Prop}, (∀ r, WY (n := n) X Y n 0 r → P (iN r)) → wpY_widest P (sY n p X Y a b q c) := by
    intro P h
    refine ⟨n + 1, ?_⟩
    exact yl_wi6 g hn h n 0 (by omega) (-1000) ⟨fun i' j' _ z => by omega, Or.inl rfl⟩
  refine pk_le 2 n (fun y => ⟨n + 1, ?_⟩) (fun y => yy fun r z => ⟨?_, rl hn g⟩)
  · exact xl_wi16 g hn (fun r z => yy fun r' z' => ⟨by rw [wi_eq y z z'], rl hn g⟩) n 0 (by omega) 0 ⟨fun i' j' _ _ z => by omega, Or.inl rfl⟩
  · rcases z.2 with e | ⟨i, j, x1, x2, _⟩
    · rw [e]; rfl
    · omega
end
