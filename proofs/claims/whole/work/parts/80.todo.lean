section
variable {n : Nat} {p : Int32} {X Y : Nat → Int} {k l q c : Nat → Int32} {s t w : Nat → Int32}
noncomputable def TL (A : Nat → Nat → Prop) (n : Nat) : Nat := 0
theorem xb_tilings {post : Int32 → SX → Prop} (g : gr X Y) (hn : n ≤ 10) (h0 : ¬ PR n X Y → post (-1000) (sX n X Y s t w)) (h1 : PR n X Y → ∀ w', post (nI (TL (CUX n X Y) n)) (sX n X Y s t w')) : wpX_tilings post (sX n X Y s t w) := sorry
theorem yb_tilings {post : Int32 → SY → Prop} (g : gr X Y) (hn : n ≤ 10) (h0 : ¬ PR n X Y → post (-1000) (sY n p X Y k l q c)) (h1 : PR n X Y → ∀ p' q' c', post (nI (TL (CUX n X Y) n)) (sY n p' X Y k l q' c')) : wpY_tilings post (sY n p X Y k l q c) := sorry
end
