noncomputable def TL (A : Nat → Nat → Prop) (n : Nat) : Nat := nn (El 0 (n - 1)) (dc A) (n - 3)
/-- the entry of the corners p, q -/
noncomputable def VV (A : Nat → Nat → Prop) (n p q : Nat) : Nat := if p = 0 ∧ q = n - 1 then TL A n else dv' (dc A) p (q - p)
def IV (A : Nat → Nat → Prop) (n : Nat) (w : Nat → Int32) (s p0 : Nat) : Prop := ∀ p q, p < q → q < n → (q - p < s ∨ (q - p = s ∧ p < p0)) → w (p * 10 + q) = nI (VV A n p q)
noncomputable def TP (A : Nat → Nat → Prop) (p q : Nat) : Nat := if q = p + 1 then 1 else nn (El p (q - p)) (dc A) (q - p - 2)
section
variable {n : Nat} {X Y : Nat → Int} {s t : Nat → Int32}
theorem ix_10 (p q : Nat) : nI p * 10 + nI q = nI (p * 10 + q) := by
  rw [show nI p * 10 = nI (p * 10) from pk_mul p 10, nI_add]
theorem xl_tp16 {A : Nat → Nat → Prop} {post : Int32 → Prop} {w : Nat → Int32} {p q : Nat} (hn : n ≤ 10) (hq : q < n) (hw : ∀ a b, p ≤ a → a < b → b ≤ q → b - a < q - p → w (a * 10 + b) = nI (dv' (dc A) a (b - a)))
    (h : post (nI (sn (fun i => dv' (dc A) p (i + 1) * dv' (dc A) (p + i + 1) (q - p - 1 - i)) (q - p - 1)))) :
    ∀ d i, p + 1 + i + d = q → wX_tilingsOfPart_16 post (nI p) (nI q) (nI n) (fun i => iN (X i)) (fun i => iN (Y i)) s t w (d + 1) (nI (sn (fun i => dv' (dc A) p (i + 1) * dv' (dc A) (p + i + 1) (q - p - 1 - i)) i)) (nI (p + 1 + i)) := by
  intro d
  induction d with
  | zero =>
    intro i e
    rw [show q - p - 1 = i by omega] at h
    rw [show q - p - 1 = i by omega]
    exact br_t (nI_le (by omega) (by omega)) h
  | succ d ih =>
    intro i e
    have h1 := vp_in_nI (n := p * 10 + (p + 1 + i)) (N := 100) (by omega) (by decide)
    have h2 := vp_in_nI (n := (p + 1 + i) * 10 + q) (N := 100) (by omega) (by decide)
    refine br_f (nI_ge (by omega) (by omega)) ?_
    rw [ix_10, ix_10]
    refine ⟨h1, h2, nm_r ?_ (nm_r (nI_1 (p + 1 + i)) (ih (i + 1) (by omega)))⟩
    rw [nI_clamp (by omega), nI_clamp (by omega), hw p (p + 1 + i) (by omega) (by omega) (by omega) (by omega), hw (p + 1 + i) q (by omega) (by omega) (by omega) (by omega), pk_mul, nI_add, show p + 1 + i - p = i + 1 by omega, show q - (p + 1 + i) = q - p - 1 - i by omega, show p + 1 + i = p + i + 1 by omega]
    rfl
theorem xb_tilingsOfPart {A : Nat → Nat → Prop} {post : Int32 → Prop} {w : Nat → Int32} {p q : Nat} (hn : n ≤ 10) (hp : p < q) (hq : q < n) (hw : ∀ a b, p ≤ a → a < b → b ≤ q → b - a < q - p → w (a * 10 + b) = nI (dv' (dc A) a (b - a)))
    (h : post (nI (TP A p q))) : wpX_tilingsOfPart post (sX n X Y s t w) (nI p) (nI q) := by
  unfold TP at h
  refine pk_eq q (p + 1) (fun e => ?_) (fun e => nm_r (nI_1 p) ⟨q - p - 1 + 1, ?_⟩) (hy := nI_1 p)
  · rw [if_pos e] at h; exact h
  · rw [if_neg e] at h
    refine xl_tp16 hn hq hw ?_ (q - p - 1) 0 (by omega)
    have := tri_sum (F := dc A) (p := p) (e := q - p - 1) (by omega) (by omega)
    rw [show q - p - 1 + 1 = q - p by omega, show q - p - 1 - 1 = q - p - 2 by omega] at this
    rw [← this]; exact h
theorem iv_up {A : Nat → Nat → Prop} {w : Nat → Int32} {span p : Nat} (hn : n ≤ 10) (hp : p + span < n) (h : IV A n w span p) : IV A n (upd w (p * 10 + (p + span)) (nI (VV A n p (p + span)))) span (p + 1) := by
  intro a b h1 h2 h3
  by_cases c : a = p ∧ b = p + span
  · obtain ⟨rfl, rfl⟩ := c
    exact pk_us
  · rw [pk_un (by omega)]
    exact h a b h1 h2 (by omega)
theorem xl_ti23 {post : Int32 → SX → Prop} {J : Int32 → (Nat → Int32) → (Nat → Int32) → (Nat → Int32) → (Nat → Int32) → (Nat → Int32) → Prop} {span : Nat} (g : gr X Y) (hn : n ≤ 10) (h3 : 3 ≤ n) (hs : 1 ≤ span) (hs2 : span < n)
    (hJ : ∀ w', IV (CUX n X Y) n w' (span + 1) 0 → J (nI (span + 1)) (fun i => iN (X i)) (fun i => iN (Y i)) s t w') :
    ∀ d p w, p + span + d = n → IV (CUX n X Y) n w span p → wX_tilings_23 post J (nI span) (nI n) (d + 1) (nI p) (fun i => iN (X i)) (fun i => iN (Y i)) s t w := by
  intro d
  induction d with
  | zero =>
    intro p w e z
    refine br_t ?_ (nm_r (nI_1 span) (hJ w fun a b h1 h2 h4 => z a b h1 h2 (by omega)))
    rw [nI_add]; exact nI_le (by omega) (by omega)
  | succ d ih =>
    intro p w e z
    have hq : p + span < n := by omega
    have hix := vp_in_nI (n := p * 10 + (p + span)) (N := 100) (by omega) (by decide)
    have step : ∀ v : Int32, v = nI (VV (CUX n X Y) n p (p + span)) → (vp_in (nI p * 10 + nI (p + span)) 100 ∧ ∀ a_ways_24, a_ways_24 = upd w (nI p * 10 + nI (p + span)).toNatClampNeg v → ∀ x2_25, x2_25 = nI p + 1 → wX_tilings_23 post J (nI span) (nI n) (d + 1) x2_25 (fun i => iN (X i)) (fun i => iN (Y i)) s t a_ways_24) := by
      intro v ev
      rw [ix_10]
      refine ⟨hix, nm_e (nm_r (nI_1 p) ?_)⟩
      rw [nI_clamp (by omega), ev]
      exact ih (p + 1) _ (by omega) (iv_up hn hq z)
    have hw : ∀ a b, p ≤ a → a < b → b ≤ p + span → b - a < p + span - p → w (a * 10 + b) = nI (dv' (dc (CUX n X Y)) a (b - a)) := by
      intro a b k1 k2 k3 k4
      rw [z a b k2 (by omega) (by omega)]
      unfold VV
      rw [if_neg (by omega)]
    have full : VV (CUX n X Y) n p (p + span) = TP (CUX n X Y) p (p + span) → wX_tilings_55 post J (wX_tilings_23 post J (nI span) (nI n) (d + 1)) (nI span) (nI p) (nI (p + span)) (nI n) (fun i => iN (X i)) (fun i => iN (Y i)) s t w := by
      intro ev
      refine br_f (by decide) (xb_tilingsOfPart hn (by omega) hq hw ?_)
      exact step _ (by rw [ev])
    refine br_f ?_ (nm_r (nI_add p span) (xb_areNeighbours hn (show p < n by omega) hq (fun y => bo_1 (full ?_)) (fun y => bo_0 (xb_isCutN g hn (by omega) hq (fun c => bo_1 (full ?_)) (fun c => bo_0 (br_t rfl (step _ ?_)))))))
    · rw [nI_add]; exact nI_ge (by omega) (by omega)
    · unfold VV TP
      by_cases e1 : p = 0 ∧ p + span = n - 1
      · rw [if_pos e1, if_neg (by omega)]
        unfold TL
        rw [e1.1, show 0 + span - 0 = n - 1 by omega, show n - 1 - 2 = n - 3 by omega]
      · rw [if_neg e1]
        have : span = 1 := by
          rcases y with y | y
          · unfold nx at y; split at y <;> omega
          · unfold nx at y; split at y <;> omega
        subst this
        rw [if_pos rfl, show p + 1 - p = 1 by omega]
        rfl
    · have e1 : ¬ (p = 0 ∧ p + span = n - 1) := fun w => y (Or.inr (by rw [nx_0 (by omega)]; omega))
      have e2 : ¬ (p + span = p + 1) := fun w => y (Or.inl (by rw [nx_1 (by omega)]; omega))
      unfold VV TP dv'
      rw [if_neg e1, if_neg e2, if_neg (by omega), show p + (p + span - p) = p + span by omega, sel_t (by rw [dc_e (by omega)]; exact c)]
    · have e1 : ¬ (p = 0 ∧ p + span = n - 1) := fun w => y (Or.inr (by rw [nx_0 (by omega)]; omega))
      have e2 : ¬ (p + span = p + 1) := fun w => y (Or.inl (by rw [nx_1 (by omega)]; omega))
      unfold VV dv'
      rw [if_neg e1, if_neg (by omega), show p + (p + span - p) = p + span by omega, sel_f (by rw [dc_e (by omega)]; exact c)]
      rfl
theorem xl_ti13 {post : Int32 → SX → Prop} (g : gr X Y) (hn : n ≤ 10) (h3 : 3 ≤ n) (h : ∀ w', post (nI (TL (CUX n X Y) n)) (sX n X Y s t w')) :
    ∀ d span w, 1 ≤ span → span + d = n → IV (CUX n X Y) n w span 0 → wX_tilings_13 post (nI n) (d + 1) (nI span) (fun i => iN (X i)) (fun i => iN (Y i)) s t w := by
  intro d
  induction d with
  | zero =>
    intro span w h1 e z
    have e1 : nI n - 1 = nI (n - 1) := by rw [← nI_pred (n - 1)]; congr 1; congr 1; omega
    refine br_t (nI_le (by omega) (by omega)) ?_
    rw [e1]
    refine ⟨vp_in_nI (n := n - 1) (N := 100) (by omega) (by decide), ?_⟩
    rw [nI_clamp (by omega)]
    have := z 0 (n - 1) (by omega) (by omega) (by omega)
    rw [Nat.zero_mul, Nat.zero_add] at this
    rw [this]
    unfold VV
    rw [if_pos ⟨rfl, rfl⟩]
    exact h w
  | succ d ih =>
    intro span w h1 e z
    exact br_f (nI_ge (by omega) (by omega)) ⟨n - span + 1, xl_ti23 g hn h3 h1 (by omega) (fun w' z' => ih (span + 1) w' (by omega) (by omega) z') (n - span) 0 w (by omega) z⟩
theorem xb_tilings {w : Nat → Int32} {post : Int32 → SX → Prop} (g : gr X Y) (hn : n ≤ 10) (h0 : ¬ PR n X Y → post (-1000) (sX n X Y s t w)) (h1 : PR n X Y → ∀ w', post (nI (TL (CUX n X Y) n)) (sX n X Y s t w')) : wpX_tilings post (sX n X Y s t w) := by
  unfold wpX_tilings
  refine xb_proper g hn (fun y => bo_1 ⟨n - 1 + 1, ?_⟩) (fun y => bo_0 (h0 y))
  have h3 := y.1
  exact xl_ti13 g hn h3 (h1 y) (n - 1) 1 w (by omega) (by omega) (fun p q a b c => by omega)
end
