theorem pk_us {f : Nat → Int32} {k : Nat} {x : Int32} : upd f k x k = x := if_pos rfl
theorem pk_un {f : Nat → Int32} {k j : Nat} {x : Int32} (h : j ≠ k) : upd f k x j = f j := if_neg h
theorem pk_uLs {f : Nat → Int64} {k : Nat} {x : Int64} : vp_updL f k x k = x := if_pos rfl
theorem pk_uLn {f : Nat → Int64} {k j : Nat} {x : Int64} (h : j ≠ k) : vp_updL f k x j = f j := if_neg h
theorem pk_sub {a b : Nat} (h : b ≤ a) : nI a - nI b = nI (a - b) := by
  obtain ⟨c, rfl⟩ : ∃ c, a = c + b := ⟨a - b, by omega⟩
  rw [← nI_add, Int32.add_sub_cancel, Nat.add_sub_cancel]
theorem pk_m1 (n : Nat) : nI (n + 1) + (-1) = nI n := by
  rw [← nI_1, Int32.add_assoc, show (1 : Int32) + (-1) = 0 from rfl, Int32.add_zero]
theorem pk_mul (a b : Nat) : nI a * nI b = nI (a * b) := (Int32.ofNat_mul a b).symm
theorem pk_div {a d : Nat} (ha : a < 2 ^ 31) (h0 : 0 < d) (hd : d < 2 ^ 31) : nI a / nI d = nI (a / d) := by
  apply Int32.toInt_inj.mp
  rw [lg_idiv_nonneg (by rw [nI_toInt ha]; omega) (by rw [nI_toInt hd]; omega), nI_toInt ha, nI_toInt hd, nI_toInt (Nat.lt_of_le_of_lt (Nat.div_le_self a d) ha)]
  first | rfl | exact (Int.natCast_ediv _ _).symm
theorem pk_rem {a d : Nat} (ha : a < 2 ^ 31) (h0 : 0 < d) (hd : d < 2 ^ 31) : nI a - nI a / nI d * nI d = nI (a % d) := by
  rw [pk_div ha h0 hd, pk_mul, pk_sub (Nat.div_mul_le_self a d)]
  exact congrArg nI (by have := Nat.div_add_mod' a d; omega)
theorem pk_sub_toInt {a b : Nat} (ha : a < 2 ^ 30) (hb : b < 2 ^ 30) : (nI a - nI b).toInt = (a : Int) - b := by
  rw [Int32.toInt_sub, nI_toInt (by omega), nI_toInt (by omega)]
  exact Int.bmod_eq_of_le (by omega) (by omega)
theorem pk_sneg {a b : Nat} (hb : b < 2 ^ 30) (h : a < b) : nI a - nI b < 0 := by
  rw [Int32.lt_iff_toInt_lt, pk_sub_toInt (by omega) hb, show (0 : Int32).toInt = 0 from by decide]
  omega
theorem pk_ix (x : Int32) {n : Nat} (hn : n < 2 ^ 31) : x < 0 ∨ nI n ≤ x ∨ ∃ j : Nat, j < n ∧ x = nI j := by
  by_cases h : x < 0
  · exact Or.inl h
  · obtain ⟨j, hj, rfl⟩ := nI_of h
    by_cases h2 : j < n
    · exact Or.inr (Or.inr ⟨j, h2, rfl⟩)
    · exact Or.inr (Or.inl (nI_le (by omega) hj))
theorem pk_le {x y : Int32} {A B : Prop} (a b : Nat) (f : a ≤ b → A) (g : b < a → B) (hx : x = nI a := by rfl) (hy : y = nI b := by rfl) (ha : a < 2 ^ 31 := by omega) (hb : b < 2 ^ 31 := by omega) : (x ≤ y → A) ∧ (¬ x ≤ y → B) := by
  subst hx hy
  rw [nI_leI ha hb]
  exact ⟨f, fun z => g (by omega)⟩
theorem pk_lt {x y : Int32} {A B : Prop} (a b : Nat) (f : a < b → A) (g : b ≤ a → B) (hx : x = nI a := by rfl) (hy : y = nI b := by rfl) (ha : a < 2 ^ 31 := by omega) (hb : b < 2 ^ 31 := by omega) : (x < y → A) ∧ (¬ x < y → B) := by
  subst hx hy
  rw [nI_ltI ha hb]
  exact ⟨f, fun z => g (by omega)⟩
theorem pk_eq {x y : Int32} {A B : Prop} (a b : Nat) (f : a = b → A) (g : a ≠ b → B) (hx : x = nI a := by rfl) (hy : y = nI b := by rfl) (ha : a < 2 ^ 31 := by omega) (hb : b < 2 ^ 31 := by omega) : (x = y → A) ∧ (¬ x = y → B) := by
  subst hx hy
  rw [nI_eq ha hb]
  exact ⟨f, g⟩
theorem pk_in {x : Int32} (n N : Nat) (h : n < N) (hx : x = nI n := by rfl) (hN : N < 2 ^ 31 := by omega) : vp_in x N := by
  subst hx
  exact vp_in_nI h hN
theorem pk_cl {x : Int32} (n : Nat) (hx : x = nI n := by rfl) (h : n < 2 ^ 31 := by omega) : x.toNatClampNeg = n := by
  subst hx
  exact nI_clamp h
def iN (z : Int) : Int32 := Int32.ofInt z
def sm (z : Int) : Prop := -1000000 ≤ z ∧ z ≤ 1000000
theorem ie_add (a b : Int) : iN a + iN b = iN (a + b) := (Int32.ofInt_add a b).symm
theorem ie_sub (a b : Int) : iN a - iN b = iN (a - b) := (Int32.ofInt_sub a b).symm
theorem ie_mul (a b : Int) : iN a * iN b = iN (a * b) := (Int32.ofInt_mul a b).symm
theorem ie_neg (a : Int) : - iN a = iN (-a) := (Int32.ofInt_neg a).symm
theorem ie_nI (n : Nat) : nI n = iN n := (Int32.ofInt_eq_ofNat (n := n)).symm
theorem ie_toInt {z : Int} (h : sm z) : (iN z).toInt = z := by
  obtain ⟨h1, h2⟩ := h
  exact Int32.toInt_ofInt_of_le (by omega) (by omega)
theorem ie_le {a b : Int} (ha : sm a) (hb : sm b) : iN a ≤ iN b ↔ a ≤ b := by
  rw [Int32.le_iff_toInt_le, ie_toInt ha, ie_toInt hb]
theorem ie_lt {a b : Int} (ha : sm a) (hb : sm b) : iN a < iN b ↔ a < b := by
  rw [Int32.lt_iff_toInt_lt, ie_toInt ha, ie_toInt hb]
theorem ie_eq {a b : Int} (ha : sm a) (hb : sm b) : iN a = iN b ↔ a = b := by
  rw [← Int32.toInt_inj, ie_toInt ha, ie_toInt hb]
theorem ie_0 : (0 : Int32) = iN 0 := by decide +kernel
theorem ie_1 : (1 : Int32) = iN 1 := by decide +kernel
theorem ie_2 : (2 : Int32) = iN 2 := by decide +kernel
theorem ie_3 : (3 : Int32) = iN 3 := by decide +kernel
theorem ie_10 : (10 : Int32) = iN 10 := by decide +kernel
theorem ie_16 : (16 : Int32) = iN 16 := by decide +kernel
theorem ie_m1 : (-1 : Int32) = iN (-1) := by decide +kernel
theorem sm_k (z : Int) (h1 : -1000000 ≤ z := by decide) (h2 : z ≤ 1000000 := by decide) : sm z := ⟨h1, h2⟩
theorem ib_le {x y : Int32} {A B : Prop} (a b : Int) (hx : x = iN a) (hy : y = iN b) (ha : sm a) (hb : sm b) (f : a ≤ b → A) (g : b < a → B) : (x ≤ y → A) ∧ (¬ x ≤ y → B) := by
  subst hx hy
  rw [ie_le ha hb]
  exact ⟨f, fun z => g (by omega)⟩
theorem ib_lt {x y : Int32} {A B : Prop} (a b : Int) (hx : x = iN a) (hy : y = iN b) (ha : sm a) (hb : sm b) (f : a < b → A) (g : b ≤ a → B) : (x < y → A) ∧ (¬ x < y → B) := by
  subst hx hy
  rw [ie_lt ha hb]
  exact ⟨f, fun z => g (by omega)⟩
theorem ib_eq {x y : Int32} {A B : Prop} (a b : Int) (hx : x = iN a) (hy : y = iN b) (ha : sm a) (hb : sm b) (f : a = b → A) (g : a ≠ b → B) : (x = y → A) ∧ (¬ x = y → B) := by
  subst hx hy
  rw [ie_eq ha hb]
  exact ⟨f, g⟩
theorem bo_1 {A B : Prop} (b : B) : ((1 : Int32) = 0 → A) ∧ (¬ (1 : Int32) = 0 → B) := br_f (by decide) b
theorem bo_0 {A B : Prop} (a : A) : ((0 : Int32) = 0 → A) ∧ (¬ (0 : Int32) = 0 → B) := br_t rfl a
theorem bp_01 {A B : Prop} (b : B) : ((0 : Int32) = 1 → A) ∧ (¬ (0 : Int32) = 1 → B) := br_f (by decide) b
theorem bp_10 {A B : Prop} (b : B) : ((1 : Int32) = 0 → A) ∧ (¬ (1 : Int32) = 0 → B) := br_f (by decide) b
/-- both coordinates of every corner are on the grid -/
def gr (X Y : Nat → Int) : Prop := ∀ i, (0 ≤ X i ∧ X i ≤ 15) ∧ (0 ≤ Y i ∧ Y i ≤ 15)
theorem ra_mul {a b : Int} (ha : -30 ≤ a ∧ a ≤ 30) (hb : -30 ≤ b ∧ b ≤ 30) : -900 ≤ a * b ∧ a * b ≤ 900 := by
  have h1 : 0 ≤ (30 - a) * (30 + b) := Int.mul_nonneg (by omega) (by omega)
  have h2 : 0 ≤ (30 + a) * (30 - b) := Int.mul_nonneg (by omega) (by omega)
  have h3 : 0 ≤ (30 - a) * (30 - b) := Int.mul_nonneg (by omega) (by omega)
  have h4 : 0 ≤ (30 + a) * (30 + b) := Int.mul_nonneg (by omega) (by omega)
  have e1 : (30 - a) * (30 + b) = 900 + 30 * b - 30 * a - a * b := by grind
  have e2 : (30 + a) * (30 - b) = 900 - 30 * b + 30 * a - a * b := by grind
  have e3 : (30 - a) * (30 - b) = 900 - 30 * b - 30 * a + a * b := by grind
  have e4 : (30 + a) * (30 + b) = 900 + 30 * b + 30 * a + a * b := by grind
  omega
theorem sm_d {a b c d : Int} (ha : -30 ≤ a ∧ a ≤ 30) (hb : -30 ≤ b ∧ b ≤ 30) (hc : -30 ≤ c ∧ c ≤ 30) (hd : -30 ≤ d ∧ d ≤ 30) : sm (a * b - c * d) := by
  have h1 := ra_mul ha hb
  have h2 := ra_mul hc hd
  exact ⟨by omega, by omega⟩
theorem sm_s {a b c d : Int} (ha : -30 ≤ a ∧ a ≤ 30) (hb : -30 ≤ b ∧ b ≤ 30) (hc : -30 ≤ c ∧ c ≤ 30) (hd : -30 ≤ d ∧ d ≤ 30) : sm (a * b + c * d) := by
  have h1 := ra_mul ha hb
  have h2 := ra_mul hc hd
  exact ⟨by omega, by omega⟩
theorem sm_m {a b : Int} (ha : -30 ≤ a ∧ a ≤ 30) (hb : -30 ≤ b ∧ b ≤ 30) : sm (a * b) := by
  have h1 := ra_mul ha hb
  exact ⟨by omega, by omega⟩
theorem gr_x {X Y : Nat → Int} (g : gr X Y) (i j : Nat) : -30 ≤ X i - X j ∧ X i - X j ≤ 30 := by
  have h1 := g i; have h2 := g j; omega
theorem gr_y {X Y : Nat → Int} (g : gr X Y) (i j : Nat) : -30 ≤ Y i - Y j ∧ Y i - Y j ≤ 30 := by
  have h1 := g i; have h2 := g j; omega
abbrev sX (n : Nat) (X Y : Nat → Int) (s t w : Nat → Int32) : SX := (nI n, fun i => iN (X i), fun i => iN (Y i), s, t, w)
abbrev sY (n : Nat) (p : Int32) (X Y : Nat → Int) (k l q c : Nat → Int32) : SY := (nI n, p, fun i => iN (X i), fun i => iN (Y i), k, l, q, c)
