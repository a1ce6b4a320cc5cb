section
variable {n : Nat} {p : Int32} {X Y : Nat → Int} {k l q c : Nat → Int32}
theorem ncB_iff (x y : Nat) : ncB x y = true ↔ ¬ ((x / 10 < y / 10 ∧ y / 10 < x % 10 ∧ x % 10 < y % 10) ∨ (y / 10 < x / 10 ∧ x / 10 < y % 10 ∧ y % 10 < x % 10)) := by
  unfold ncB
  simp only [Bool.not_eq_true', Bool.or_eq_false_iff, Bool.and_eq_false_iff, decide_eq_false_iff_not]
  omega
theorem yb_cross {post : Int32 → Prop} {a b x y : Nat} (ha : a < 45) (hb : b < 45) (hx : x < 100) (hy : y < 100) (ea : q a = nI x) (eb : q b = nI y) (h1 : ¬ ncB x y = true → post 1) (h0 : ncB x y = true → post 0) : wpY_cross post (sY n p X Y k l q c) (nI a) (nI b) := by
  have ia := vp_in_nI ha (by decide : 45 < 2 ^ 31)
  have ib := vp_in_nI hb (by decide : 45 < 2 ^ 31)
  have z10 : ¬ (10 : Int32) = 0 := by decide
  rw [ncB_iff] at h1 h0
  have d1 : nI x / 10 = nI (x / 10) := pk_div (d := 10) (by omega) (by omega) (by omega)
  have d2 : nI y / 10 = nI (y / 10) := pk_div (d := 10) (by omega) (by omega) (by omega)
  have r1 : nI x - nI x / 10 * 10 = nI (x % 10) := pk_rem (d := 10) (by omega) (by omega) (by omega)
  have r2 : nI y - nI y / 10 * 10 = nI (y % 10) := pk_rem (d := 10) (by omega) (by omega) (by omega)
  have s63 : ¬ (x / 10 < y / 10 ∧ y / 10 < x % 10 ∧ x % 10 < y % 10) → wY_cross_63 post (nI (x / 10)) (nI (x % 10)) (nI (y / 10)) (nI (y % 10)) (nI n) p (fun i => iN (X i)) (fun i => iN (Y i)) k l q c := by
    intro z
    refine pk_le (x / 10) (y / 10) (fun e => h0 (by omega)) (fun e1 => pk_le (y % 10) (x / 10) (fun e => h0 (by omega)) (fun e2 => pk_le (x % 10) (y % 10) (fun e => h0 (by omega)) (fun e3 => h1 (by omega))))
  refine ⟨ia, z10, nm_r (e' := nI (x / 10)) ?_ ⟨ia, z10, nm_r (e' := nI (x % 10)) ?_ ⟨ib, z10, nm_r (e' := nI (y / 10)) ?_ ⟨ib, z10, nm_r (e' := nI (y % 10)) ?_ ?_⟩⟩⟩⟩
  · rw [nI_clamp (by omega), ea, d1]
  · rw [nI_clamp (by omega), ea, r1]
  · rw [nI_clamp (by omega), eb, d2]
  · rw [nI_clamp (by omega), eb, r2]
  · exact pk_le (y / 10) (x / 10) (fun e => s63 (by omega)) (fun e1 => pk_le (x % 10) (y / 10) (fun e => s63 (by omega)) (fun e2 => pk_lt (x % 10) (y % 10) (fun e3 => h1 (by omega)) (fun e3 => s63 (by omega))))
/-- the chosen ones, by their places in the list -/
def CH (L : List Nat) (c : Nat → Int32) (tx : Nat → Nat) (m : Nat) : Prop := ∀ i, i < m → c i = nI (tx i) ∧ tx i < L.length
def FT (L : List Nat) (tx : Nat → Nat) (m : Nat) (x : Nat) : Prop := ∀ i, i < m → ncB (L.getD (tx i) 0) x = true
theorem hp_get {L : List Nat} (hp : HP q L) {i : Nat} (hi : i < L.length) : q i = nI (L.getD i 0) := by
  refine hp i _ ?_
  rw [List.getD_eq_getElem?_getD, List.getElem?_eq_getElem hi]; rfl
theorem get_lt {L : List Nat} (hl : ∀ x, x ∈ L → x < 100) (i : Nat) : L.getD i 0 < 100 := by
  rw [List.getD_eq_getElem?_getD]
  rcases Nat.lt_or_ge i L.length with h | h
  · rw [List.getElem?_eq_getElem h]; exact hl _ (List.getElem_mem h)
  · rw [List.getElem?_eq_none h]; decide
theorem yl_fits {post : Int32 → Prop} {L : List Nat} {tx : Nat → Nat} {j m : Nat} (hp : HP q L) (hl : ∀ x, x ∈ L → x < 100) (h45 : L.length ≤ 45) (hj : j < L.length) (hm : m ≤ 8) (ch : CH L c tx m)
    (h1 : FT L tx m (L.getD j 0) → post 1) (h0 : ¬ FT L tx m (L.getD j 0) → post 0) :
    ∀ d i, i + d = m → (∀ a, a < i → ncB (L.getD (tx a) 0) (L.getD j 0) = true) → wY_fits_2 post (nI j) (nI m) (nI n) p (fun i => iN (X i)) (fun i => iN (Y i)) k l q c (d + 1) (nI i) := by
  intro d
  induction d with
  | zero => exact fun i e z => br_t (nI_le (by omega) (by omega)) (h1 fun a ha => z a (by omega))
  | succ d ih =>
    intro i e z
    obtain ⟨c1, c2⟩ := ch i (by omega)
    refine br_f (nI_ge (by omega) (by omega)) ⟨vp_in_nI (n := i) (N := 8) (by omega) (by decide), ?_⟩
    rw [nI_clamp (by omega), c1]
    refine yb_cross (by omega) (by omega) (get_lt hl _) (get_lt hl _) (hp_get hp c2) (hp_get hp hj) (fun y => bo_1 (h0 fun w => y (w i (by omega)))) (fun y => bo_0 (nm_r (nI_1 i) (ih (i + 1) (by omega) fun a ha => ?_)))
    by_cases cc : a = i
    · subst cc; exact y
    · exact z a (by omega)
theorem yb_fits {post : Int32 → Prop} {L : List Nat} {tx : Nat → Nat} {j m : Nat} (hp : HP q L) (hl : ∀ x, x ∈ L → x < 100) (h45 : L.length ≤ 45) (hj : j < L.length) (hm : m ≤ 8) (ch : CH L c tx m)
    (h1 : FT L tx m (L.getD j 0) → post 1) (h0 : ¬ FT L tx m (L.getD j 0) → post 0) : wpY_fits post (sY n p X Y k l q c) (nI j) (nI m) :=
  ⟨m + 1, yl_fits hp hl h45 hj hm ch h1 h0 m 0 (by omega) (fun a ha => absurd ha (by omega))⟩
theorem drop_c {L : List Nat} {j : Nat} (hj : j < L.length) : L.drop j = L.getD j 0 :: L.drop (j + 1) := by
  rw [List.drop_eq_getElem_cons hj, List.getD_eq_getElem?_getD, List.getElem?_eq_getElem hj]; rfl
theorem yl_lv {post : Int32 → SY → Prop} {L : List Nat} {w : Nat} (hp : HP q L) (hl : ∀ x, x ∈ L → x < 100) (h45 : L.length ≤ 45) (hw : w ≤ 7) :
    ∀ d j m sets (c : Nat → Int32) (tx : Nat → Nat), j + d = L.length → m < w → CH L c tx m →
    (∀ c', (∀ i, i < m → c' i = c i) → ∃ f, wY_tilings_37 post (nI w) (nI n) (nI L.length) f (nI m) (nI (sets + nn (L.drop j) (FT L tx m) (w - m))) (nI L.length) (fun i => iN (X i)) (fun i => iN (Y i)) k l q c') →
    ∃ f, wY_tilings_37 post (nI w) (nI n) (nI L.length) f (nI m) (nI sets) (nI j) (fun i => iN (X i)) (fun i => iN (Y i)) k l q c := by
  intro d
  induction d with
  | zero =>
    intro j m sets c tx e hm ch h
    have e' : j = L.length := by omega
    subst e'
    have := h c fun i _ => rfl
    rw [List.drop_length, nn_nil, if_neg (by omega), Nat.add_zero] at this
    exact this
  | succ d ih =>
    intro j m sets c tx e hm ch h
    have hj : j < L.length := by omega
    obtain ⟨v, hv⟩ : ∃ v, w - m = v + 1 := ⟨w - m - 1, by omega⟩
    rw [drop_c hj, hv] at h
    have w0 : ¬ nI w ≤ 0 := nI_nle (by omega) (by omega)
    have m0 : ¬ nI m < 0 := nI_pos (by omega)
    have jp : ¬ nI j = nI L.length := by rw [nI_eq (by omega) (by omega)]; omega
    by_cases fit : FT L tx m (L.getD j 0)
    · rw [nn, sel_t fit] at h
      have e8 : (nI m).toNatClampNeg = m := nI_clamp (by omega)
      have i8 := vp_in_nI (n := m) (N := 8) (by omega) (by decide)
      have tx1 : ∀ c' : Nat → Int32, (∀ i, i < m → c' i = upd c m (nI j) i) → ∀ i, i < m → c' i = c i := fun c' hc i hi => by rw [hc i hi, pk_un (by omega)]
      by_cases last : m + 1 = w
      · obtain rfl : v = 0 := by omega
        have := ih (j + 1) m (sets + 1) (upd c m (nI j)) tx (by omega) hm (fun i hi => by rw [pk_un (by omega)]; exact ch i hi) (fun c' hc => by
          have := h c' (tx1 c' hc)
          rw [nn_0] at this
          rw [hv, show sets + 1 + nn (L.drop (j + 1)) (FT L tx m) (0 + 1) = sets + (nn (L.drop (j + 1)) (FT L tx m) (0 + 1) + 1) by omega]
          exact this)
        obtain ⟨f, hf⟩ := this
        refine ⟨f + 1, br_f m0 (br_f w0 (br_f jp (yb_fits (n := n) (X := X) (Y := Y) hp hl h45 hj (by omega) ch (fun _ => bo_1 ⟨i8, nm_r (e' := upd c m (nI j)) (by rw [e8]) ?_⟩) (fun y => absurd fit y))))⟩
        refine pk_eq (m + 1) w (fun _ => pk_eq (m + 1) w (fun _ => nm_r (nI_1 j) ?_) (fun z => absurd last z) (hx := nI_1 m)) (fun z => absurd last z) (hx := nI_1 m)
        rw [nI_1]
        exact hf
      · have inner := ih (j + 1) (m + 1) sets (upd c m (nI j)) (fun i => if i = m then j else tx i) (by omega) (by omega) (fun i hi => by
          show upd c m (nI j) i = nI (if i = m then j else tx i) ∧ (if i = m then j else tx i) < L.length
          by_cases ei : i = m
          · subst ei; rw [pk_us, if_pos rfl]; exact ⟨rfl, hj⟩
          · rw [pk_un ei, if_neg ei]; exact ch i (by omega)) (fun c2 hc2 => by
          have eF : nn (L.drop (j + 1)) (FT L (fun i => if i = m then j else tx i) (m + 1)) (w - (m + 1)) = nn (L.drop (j + 1)) (fun y => FT L tx m y ∧ ncB (L.getD j 0) y = true) v := by
            rw [show w - (m + 1) = v by omega]
            refine nn_c _ _ _ v fun y _ => ⟨fun z => ⟨fun i hi => ?_, ?_⟩, fun z i hi => ?_⟩
            · have : ncB (L.getD (if i = m then j else tx i) 0) y = true := z i (by omega)
              rw [if_neg (show ¬ i = m by omega)] at this
              exact this
            · have : ncB (L.getD (if m = m then j else tx m) 0) y = true := z m (by omega)
              rw [if_pos rfl] at this
              exact this
            · show ncB (L.getD (if i = m then j else tx i) 0) y = true
              by_cases ei : i = m
              · rw [if_pos ei]; exact z.2
              · rw [if_neg ei]; exact z.1 i (by omega)
          rw [eF]
          have hc0 : ∀ i, i < m → c2 i = c i := fun i hi => by rw [hc2 i (by omega), pk_un (by omega)]
          have cont := ih (j + 1) m (sets + nn (L.drop (j + 1)) (fun y => FT L tx m y ∧ ncB (L.getD j 0) y = true) v) c2 tx (by omega) hm (fun i hi => by rw [hc0 i hi]; exact ch i hi) (fun c' hc => by
            have := h c' (fun i hi => by rw [hc i hi, hc0 i hi])
            rw [hv, show sets + nn (L.drop (j + 1)) (fun y => FT L tx m y ∧ ncB (L.getD j 0) y = true) v + nn (L.drop (j + 1)) (FT L tx m) (v + 1) = sets + (nn (L.drop (j + 1)) (FT L tx m) (v + 1) + nn (L.drop (j + 1)) (fun y => FT L tx m y ∧ ncB (L.getD j 0) y = true) v) by omega]
            exact this)
          obtain ⟨f, hf⟩ := cont
          refine ⟨f + 1, br_f (nI_pos (by omega)) (br_f w0 (br_t rfl (nm_r (pk_m1 m) (br_f m0 ⟨i8, nm_r (e' := nI (j + 1)) ?_ hf⟩))))⟩
          rw [e8, hc2 m (by omega), pk_us, nI_1])
        obtain ⟨f, hf⟩ := inner
        refine ⟨f + 1, br_f m0 (br_f w0 (br_f jp (yb_fits (n := n) (X := X) (Y := Y) hp hl h45 hj (by omega) ch (fun _ => bo_1 ⟨i8, nm_r (e' := upd c m (nI j)) (by rw [e8]) ?_⟩) (fun y => absurd fit y))))⟩
        exact pk_eq (m + 1) w (fun z => absurd z last) (fun _ => pk_eq (m + 1) w (fun z => absurd z last) (fun _ => nm_r (nI_1 m) (nm_r (nI_1 j) hf)) (hx := nI_1 m)) (hx := nI_1 m)
    · rw [nn, sel_f fit, Nat.add_zero, ← hv] at h
      obtain ⟨f, hf⟩ := ih (j + 1) m sets c tx (by omega) hm ch h
      exact ⟨f + 1, br_f m0 (br_f w0 (br_f jp (yb_fits (n := n) (X := X) (Y := Y) hp hl h45 hj (by omega) ch (fun y => absurd y fit) (fun _ => bo_0 (nm_r (nI_1 j) hf)))))⟩
theorem fl_mem (F : Nat → Prop) (l : List Nat) (x : Nat) (h : x ∈ fl F l) : x ∈ l := by
  induction l with
  | nil => exact h
  | cons y l ih =>
    rw [fl] at h
    by_cases z : F y
    · rw [sel_t z] at h
      rcases List.mem_cons.mp h with e | e
      · rw [e]; exact List.mem_cons_self ..
      · exact List.mem_cons_of_mem _ (ih e)
    · rw [sel_f z] at h
      exact List.mem_cons_of_mem _ (ih h)
theorem la_100 : ∀ n, n < 11 → ∀ c ∈ laC n n, c < 100 := by decide +kernel
theorem yb_tilings {post : Int32 → SY → Prop} (g : gr X Y) (hn : n ≤ 10) (h0 : ¬ PR n X Y → post (-1000) (sY n p X Y k l q c)) (h1 : PR n X Y → ∀ p' q' c', post (nI (TL (CUX n X Y) n)) (sY n p' X Y k l q' c')) : wpY_tilings post (sY n p X Y k l q c) := by
  unfold wpY_tilings
  refine yb_isProper g hn (fun y => bo_1 (yb_listCuts g hn fun q' hp => ?_)) (fun y => bo_0 (h0 y))
  have h3 := y.1
  have fin := h1 y
  obtain ⟨w, hw⟩ : ∃ w, n = w + 3 := ⟨n - 3, by omega⟩
  have e3 : nI n - 3 = nI w := by
    rw [hw, show nI (w + 3) = nI w + 3 from (nI_add w 3).symm, Int32.add_sub_cancel]
  have hA : ∀ a b, a < n → b < n → (b = a + 1 ∨ (a = 0 ∧ b = n - 1)) → ¬ CUX n X Y a b := by
    intro a b ha hb z cu
    refine cu.2.1 ?_
    rcases z with z | ⟨z1, z2⟩
    · left; rw [nx_1 (by omega)]; omega
    · right; rw [nx_0 (by omega)]; omega
  have eT : nn (la (CUX n X Y) n n) (fun _ => True) w = TL (CUX n X Y) n := by
    rw [la_nn hn h3 hA]
    unfold TL
    rw [show n - 3 = w by omega]
  refine nm_r e3 (pk_eq w 0 (fun z => ?_) (fun z => ?_) (hb := by decide))
  · subst z
    refine ⟨1, br_f (by decide) (br_t (by decide) ?_)⟩
    rw [nn_0] at eT
    have := fin (nI (la (CUX n X Y) n n).length) q' c
    rw [← eT] at this
    exact this
  · have hl : ∀ x, x ∈ la (CUX n X Y) n n → x < 100 := by
      intro x hx
      rw [la_fl _ n n hn] at hx
      exact la_100 n (by omega) x (fl_mem _ _ x hx)
    have := yl_lv (n := n) (X := X) (Y := Y) (k := k) (l := l) (post := post) (w := w) hp hl (ld_len _ hn) (by omega) (la (CUX n X Y) n n).length 0 0 0 c (fun _ => 0) (by omega) (by omega) (fun i hi => absurd hi (by omega)) (fun c' _ => by
      have e : nn ((la (CUX n X Y) n n).drop 0) (FT (la (CUX n X Y) n n) (fun _ => 0) 0) (w - 0) = TL (CUX n X Y) n := by
        rw [← eT]
        exact nn_c _ _ _ w fun x _ => ⟨fun _ => trivial, fun _ i hi => absurd hi (by omega)⟩
      rw [e, Nat.zero_add]
      refine ⟨2, br_f (nI_pos (by decide)) (br_f (nI_nle (by omega) (by omega)) (br_t rfl (nm_r (e' := -1) (by decide) (br_t (by decide) (br_t (by decide) (fin _ q' c'))))))⟩)
    exact this
end
